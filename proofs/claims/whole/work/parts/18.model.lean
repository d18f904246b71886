theorem dX12_rubOf_0 : decode cX12_rubOf 0 = .ok (.iload_n 1, 1) := by decide +kernel
theorem dX12_rubOf_1 : decode cX12_rubOf 1 = .ok (.bipush 16, 2) := by decide +kernel
theorem dX12_rubOf_3 : decode cX12_rubOf 3 = .ok (.iand, 1) := by decide +kernel
theorem dX12_rubOf_4 : decode cX12_rubOf 4 = .ok (.ifCond .eq 7, 3) := by decide +kernel
theorem dX12_rubOf_7 : decode cX12_rubOf 7 = .ok (.iconst 0, 1) := by decide +kernel
theorem dX12_rubOf_8 : decode cX12_rubOf 8 = .ok (.goto 9, 3) := by decide +kernel
theorem dX12_rubOf_11 : decode cX12_rubOf 11 = .ok (.aload_n 0, 1) := by decide +kernel
theorem dX12_rubOf_12 : decode cX12_rubOf 12 = .ok (.getfield 16, 3) := by decide +kernel
theorem dX12_rubOf_15 : decode cX12_rubOf 15 = .ok (.iconst 0, 1) := by decide +kernel
theorem dX12_rubOf_16 : decode cX12_rubOf 16 = .ok (.iaload, 1) := by decide +kernel
theorem dX12_rubOf_17 : decode cX12_rubOf 17 = .ok (.ireturn, 1) := by decide +kernel
def wp_X12_rubOf (l0 : Nat) (l1 : Int32) (h : PH) (Q : Int32 → PH → Prop) : Prop := (((l1 &&& 16) = 0 → (∃ b2, qR h l0 15 = some b2 ∧ (vp_in 0 (qL h b2) ∧ Q (qI h b2 (0 : Int32).toNatClampNeg) h))) ∧ (¬ ((l1 &&& 16) = 0) → Q 0 h))
set_option maxHeartbeats 4000000 in
set_option maxRecDepth 100000 in
theorem sn_X12_rubOf (G : GT) (d : Nat) (l0 : Nat) (l1 : Int32) (h : PH) (Q : Int32 → PH → Prop) (okl0 : qOK h 11 l0) (hwp : wp_X12_rubOf l0 l1 h Q) : Mt G (0 + d) 0 0 mX12_rubOf [.ref l0, .int l1] h (qqi Q) := by
  unfold wp_X12_rubOf at hwp
  refine Mt.of (by decide) rfl (Nat.le_of_ble_eq_true rfl) ?_
  have hex := qEx.rf h
  have hnn : qn h = qn h + 0 := rfl
  have hzz : qz h = qz h + 0 := rfl
  refine x_lvE (lv2 := [(0, .ref l0), (1, .int l1)]) rfl ?_
  refine x_iload_n (pc := 0) dX12_rubOf_0 rfl ?_
  refine x_bipush (v := 16) (pc := 1) dX12_rubOf_1 (by decide) ?_
  refine x_iand (pc := 3) dX12_rubOf_3 ?_
  refine x_if_eq (tgt := 11) (pc := 4) dX12_rubOf_4 (by decide) (fun c1 => ?_) (fun c1 => ?_)
  · have hwp := hwp.1 c1
    refine x_aload_n (pc := 11) dX12_rubOf_11 rfl ?_
    obtain ⟨b2, e3, hwp⟩ := hwp
    refine x_getR (pc := 12) dX12_rubOf_12 qRX12_16 okl0 e3 (fun okb2 => ?_)
    refine x_iconst (v := 0) (pc := 15) dX12_rubOf_15 (by decide) ?_
    obtain ⟨i4, hwp⟩ := hwp
    refine x_iaload (pc := 16) dX12_rubOf_16 okb2 i4 ?_
    exact x_iret (pc := 17) dX12_rubOf_17 rfl hex hnn hzz ⟨_, rfl, hwp⟩
  · have hwp := hwp.2 c1
    refine x_iconst (v := 0) (pc := 7) dX12_rubOf_7 (by decide) ?_
    refine x_goto (tgt := 17) (pc := 8) dX12_rubOf_8 (by decide) ?_
    exact x_iret (pc := 17) dX12_rubOf_17 rfl hex hnn hzz ⟨_, rfl, hwp⟩

theorem dX12_isPart_0 : decode cX12_isPart 0 = .ok (.iload_n 1, 1) := by decide +kernel
theorem dX12_isPart_1 : decode cX12_isPart 1 = .ok (.ifCond .lt 17, 3) := by decide +kernel
theorem dX12_isPart_4 : decode cX12_isPart 4 = .ok (.iload_n 1, 1) := by decide +kernel
theorem dX12_isPart_5 : decode cX12_isPart 5 = .ok (.aload_n 0, 1) := by decide +kernel
theorem dX12_isPart_6 : decode cX12_isPart 6 = .ok (.getfield 19, 3) := by decide +kernel
theorem dX12_isPart_9 : decode cX12_isPart 9 = .ok (.iconst 0, 1) := by decide +kernel
theorem dX12_isPart_10 : decode cX12_isPart 10 = .ok (.iaload, 1) := by decide +kernel
theorem dX12_isPart_11 : decode cX12_isPart 11 = .ok (.if_icmp .ge 7, 3) := by decide +kernel
theorem dX12_isPart_14 : decode cX12_isPart 14 = .ok (.iconst 1, 1) := by decide +kernel
theorem dX12_isPart_15 : decode cX12_isPart 15 = .ok (.goto 4, 3) := by decide +kernel
theorem dX12_isPart_18 : decode cX12_isPart 18 = .ok (.iconst 0, 1) := by decide +kernel
theorem dX12_isPart_19 : decode cX12_isPart 19 = .ok (.ireturn, 1) := by decide +kernel
def wp_X12_isPart (l0 : Nat) (l1 : Int32) (h : PH) (Q : Int32 → PH → Prop) : Prop := ((l1 < 0 → Q 0 h) ∧ (¬ (l1 < 0) → (∃ b2, qR h l0 16 = some b2 ∧ (vp_in 0 (qL h b2) ∧ (((qI h b2 (0 : Int32).toNatClampNeg) ≤ l1 → Q 0 h) ∧ (¬ ((qI h b2 (0 : Int32).toNatClampNeg) ≤ l1) → Q 1 h))))))
set_option maxHeartbeats 4000000 in
set_option maxRecDepth 100000 in
theorem sn_X12_isPart (G : GT) (d : Nat) (l0 : Nat) (l1 : Int32) (h : PH) (Q : Int32 → PH → Prop) (okl0 : qOK h 11 l0) (hwp : wp_X12_isPart l0 l1 h Q) : Mt G (0 + d) 0 0 mX12_isPart [.ref l0, .int l1] h (qqb Q) := by
  unfold wp_X12_isPart at hwp
  refine Mt.of (by decide) rfl (Nat.le_of_ble_eq_true rfl) ?_
  have hex := qEx.rf h
  have hnn : qn h = qn h + 0 := rfl
  have hzz : qz h = qz h + 0 := rfl
  refine x_lvE (lv2 := [(0, .ref l0), (1, .int l1)]) rfl ?_
  refine x_iload_n (pc := 0) dX12_isPart_0 rfl ?_
  refine x_if_lt (tgt := 18) (pc := 1) dX12_isPart_1 (by decide) (fun c1 => ?_) (fun c1 => ?_)
  · have hwp := hwp.1 c1
    refine x_iconst (v := 0) (pc := 18) dX12_isPart_18 (by decide) ?_
    exact x_zret (pc := 19) dX12_isPart_19 rfl hex hnn hzz (by decide) ⟨_, rfl, by decide, hwp⟩
  · have hwp := hwp.2 c1
    refine x_iload_n (pc := 4) dX12_isPart_4 rfl ?_
    refine x_aload_n (pc := 5) dX12_isPart_5 rfl ?_
    obtain ⟨b2, e3, hwp⟩ := hwp
    refine x_getR (pc := 6) dX12_isPart_6 qRX12_19 okl0 e3 (fun okb2 => ?_)
    refine x_iconst (v := 0) (pc := 9) dX12_isPart_9 (by decide) ?_
    obtain ⟨i4, hwp⟩ := hwp
    refine x_iaload (pc := 10) dX12_isPart_10 okb2 i4 ?_
    refine x_icmp_ge (tgt := 18) (pc := 11) dX12_isPart_11 (by decide) (fun c5 => ?_) (fun c5 => ?_)
    · have hwp := hwp.1 c5
      refine x_iconst (v := 0) (pc := 18) dX12_isPart_18 (by decide) ?_
      exact x_zret (pc := 19) dX12_isPart_19 rfl hex hnn hzz (by decide) ⟨_, rfl, by decide, hwp⟩
    · have hwp := hwp.2 c5
      refine x_iconst (v := 1) (pc := 14) dX12_isPart_14 (by decide) ?_
      refine x_goto (tgt := 19) (pc := 15) dX12_isPart_15 (by decide) ?_
      exact x_zret (pc := 19) dX12_isPart_19 rfl hex hnn hzz (by decide) ⟨_, rfl, by decide, hwp⟩

theorem dX12_isTime_0 : decode cX12_isTime 0 = .ok (.aload_n 0, 1) := by decide +kernel
theorem dX12_isTime_1 : decode cX12_isTime 1 = .ok (.invokevirtual 217, 3) := by decide +kernel
theorem dX12_isTime_4 : decode cX12_isTime 4 = .ok (.iload_n 1, 1) := by decide +kernel
theorem dX12_isTime_5 : decode cX12_isTime 5 = .ok (.ifCond .lt 17, 3) := by decide +kernel
theorem dX12_isTime_8 : decode cX12_isTime 8 = .ok (.iload_n 1, 1) := by decide +kernel
theorem dX12_isTime_9 : decode cX12_isTime 9 = .ok (.aload_n 0, 1) := by decide +kernel
theorem dX12_isTime_10 : decode cX12_isTime 10 = .ok (.getfield 13, 3) := by decide +kernel
theorem dX12_isTime_13 : decode cX12_isTime 13 = .ok (.iconst 0, 1) := by decide +kernel
theorem dX12_isTime_14 : decode cX12_isTime 14 = .ok (.iaload, 1) := by decide +kernel
theorem dX12_isTime_15 : decode cX12_isTime 15 = .ok (.if_icmp .ge 7, 3) := by decide +kernel
theorem dX12_isTime_18 : decode cX12_isTime 18 = .ok (.iconst 1, 1) := by decide +kernel
theorem dX12_isTime_19 : decode cX12_isTime 19 = .ok (.goto 4, 3) := by decide +kernel
theorem dX12_isTime_22 : decode cX12_isTime 22 = .ok (.iconst 0, 1) := by decide +kernel
theorem dX12_isTime_23 : decode cX12_isTime 23 = .ok (.ireturn, 1) := by decide +kernel
def wp_X12_isTime (l0 : Nat) (l1 : Int32) (h : PH) (Q : Int32 → PH → Prop) : Prop := (wp_X12_lay l0 h (fun h1 => ((l1 < 0 → Q 0 h1) ∧ (¬ (l1 < 0) → (∃ b4, qR h1 l0 14 = some b4 ∧ (vp_in 0 (qL h1 b4) ∧ (((qI h1 b4 (0 : Int32).toNatClampNeg) ≤ l1 → Q 0 h1) ∧ (¬ ((qI h1 b4 (0 : Int32).toNatClampNeg) ≤ l1) → Q 1 h1))))))))
set_option maxHeartbeats 4000000 in
set_option maxRecDepth 100000 in
theorem sn_X12_isTime (G : GT) (d : Nat) (l0 : Nat) (l1 : Int32) (h : PH) (Q : Int32 → PH → Prop) (okl0 : qOK h 11 l0) (hwp : wp_X12_isTime l0 l1 h Q) : Mt G (1 + d) 0 0 mX12_isTime [.ref l0, .int l1] h (qqb Q) := by
  unfold wp_X12_isTime at hwp
  refine Mt.of (by decide) rfl (Nat.le_of_ble_eq_true rfl) ?_
  have hex := qEx.rf h
  have hnn : qn h = qn h + 0 := rfl
  have hzz : qz h = qz h + 0 := rfl
  refine x_lvE (lv2 := [(0, .ref l0), (1, .int l1)]) rfl ?_
  refine x_aload_n (pc := 0) dX12_isTime_0 rfl ?_
  refine x_invV (As := []) (st := []) (pc := 1) dX12_isTime_1 lRX12_217 fX12_lay vX12_lay okl0 rfl (Nat.le_of_ble_eq_true rfl) (q_R (by omega) (by decide)) (q_C hnn hzz (by decide) (by decide)) (sn_X12_lay G (d + 0) l0 h _ okl0 hwp) (k_v (fun h1 hwp cxh1 => ?_))
  have hex := hex.tr cxh1.1
  have hnn : qn h1 = qn h + 0 := by have := cxh1.2.1; omega
  have hzz : qz h1 = qz h + 0 := by have := cxh1.2.2; omega
  have okl0 := okl0.ex cxh1.1
  refine x_iload_n (pc := 4) dX12_isTime_4 rfl ?_
  refine x_if_lt (tgt := 22) (pc := 5) dX12_isTime_5 (by decide) (fun c3 => ?_) (fun c3 => ?_)
  · have hwp := hwp.1 c3
    refine x_iconst (v := 0) (pc := 22) dX12_isTime_22 (by decide) ?_
    exact x_zret (pc := 23) dX12_isTime_23 rfl hex hnn hzz (by decide) ⟨_, rfl, by decide, hwp⟩
  · have hwp := hwp.2 c3
    refine x_iload_n (pc := 8) dX12_isTime_8 rfl ?_
    refine x_aload_n (pc := 9) dX12_isTime_9 rfl ?_
    obtain ⟨b4, e5, hwp⟩ := hwp
    refine x_getR (pc := 10) dX12_isTime_10 qRX12_13 okl0 e5 (fun okb4 => ?_)
    refine x_iconst (v := 0) (pc := 13) dX12_isTime_13 (by decide) ?_
    obtain ⟨i6, hwp⟩ := hwp
    refine x_iaload (pc := 14) dX12_isTime_14 okb4 i6 ?_
    refine x_icmp_ge (tgt := 22) (pc := 15) dX12_isTime_15 (by decide) (fun c7 => ?_) (fun c7 => ?_)
    · have hwp := hwp.1 c7
      refine x_iconst (v := 0) (pc := 22) dX12_isTime_22 (by decide) ?_
      exact x_zret (pc := 23) dX12_isTime_23 rfl hex hnn hzz (by decide) ⟨_, rfl, by decide, hwp⟩
    · have hwp := hwp.2 c7
      refine x_iconst (v := 1) (pc := 18) dX12_isTime_18 (by decide) ?_
      refine x_goto (tgt := 23) (pc := 19) dX12_isTime_19 (by decide) ?_
      exact x_zret (pc := 23) dX12_isTime_23 rfl hex hnn hzz (by decide) ⟨_, rfl, by decide, hwp⟩

theorem dX12_isWorld_0 : decode cX12_isWorld 0 = .ok (.iload_n 0, 1) := by decide +kernel
theorem dX12_isWorld_1 : decode cX12_isWorld 1 = .ok (.ifCond .lt 13, 3) := by decide +kernel
theorem dX12_isWorld_4 : decode cX12_isWorld 4 = .ok (.iload_n 0, 1) := by decide +kernel
theorem dX12_isWorld_5 : decode cX12_isWorld 5 = .ok (.bipush 32, 2) := by decide +kernel
theorem dX12_isWorld_7 : decode cX12_isWorld 7 = .ok (.if_icmp .ge 7, 3) := by decide +kernel
theorem dX12_isWorld_10 : decode cX12_isWorld 10 = .ok (.iconst 1, 1) := by decide +kernel
theorem dX12_isWorld_11 : decode cX12_isWorld 11 = .ok (.goto 4, 3) := by decide +kernel
theorem dX12_isWorld_14 : decode cX12_isWorld 14 = .ok (.iconst 0, 1) := by decide +kernel
theorem dX12_isWorld_15 : decode cX12_isWorld 15 = .ok (.ireturn, 1) := by decide +kernel
def wp_X12_isWorld (l0 : Int32) (h : PH) (Q : Int32 → PH → Prop) : Prop := ((l0 < 0 → Q 0 h) ∧ (¬ (l0 < 0) → ((32 ≤ l0 → Q 0 h) ∧ (¬ (32 ≤ l0) → Q 1 h))))
set_option maxHeartbeats 4000000 in
set_option maxRecDepth 100000 in
theorem sn_X12_isWorld (G : GT) (d : Nat) (l0 : Int32) (h : PH) (Q : Int32 → PH → Prop)  (hwp : wp_X12_isWorld l0 h Q) : Mt G (0 + d) 0 0 mX12_isWorld [.int l0] h (qqb Q) := by
  unfold wp_X12_isWorld at hwp
  refine Mt.of (by decide) rfl (Nat.le_of_ble_eq_true rfl) ?_
  have hex := qEx.rf h
  have hnn : qn h = qn h + 0 := rfl
  have hzz : qz h = qz h + 0 := rfl
  refine x_lvE (lv2 := [(0, .int l0)]) rfl ?_
  refine x_iload_n (pc := 0) dX12_isWorld_0 rfl ?_
  refine x_if_lt (tgt := 14) (pc := 1) dX12_isWorld_1 (by decide) (fun c1 => ?_) (fun c1 => ?_)
  · have hwp := hwp.1 c1
    refine x_iconst (v := 0) (pc := 14) dX12_isWorld_14 (by decide) ?_
    exact x_zret (pc := 15) dX12_isWorld_15 rfl hex hnn hzz (by decide) ⟨_, rfl, by decide, hwp⟩
  · have hwp := hwp.2 c1
    refine x_iload_n (pc := 4) dX12_isWorld_4 rfl ?_
    refine x_bipush (v := 32) (pc := 5) dX12_isWorld_5 (by decide) ?_
    refine x_icmp_ge (tgt := 14) (pc := 7) dX12_isWorld_7 (by decide) (fun c2 => ?_) (fun c2 => ?_)
    · have hwp := hwp.1 c2
      refine x_iconst (v := 0) (pc := 14) dX12_isWorld_14 (by decide) ?_
      exact x_zret (pc := 15) dX12_isWorld_15 rfl hex hnn hzz (by decide) ⟨_, rfl, by decide, hwp⟩
    · have hwp := hwp.2 c2
      refine x_iconst (v := 1) (pc := 10) dX12_isWorld_10 (by decide) ?_
      refine x_goto (tgt := 15) (pc := 11) dX12_isWorld_11 (by decide) ?_
      exact x_zret (pc := 15) dX12_isWorld_15 rfl hex hnn hzz (by decide) ⟨_, rfl, by decide, hwp⟩

theorem dX12_place_0 : decode cX12_place 0 = .ok (.aload_n 0, 1) := by decide +kernel
theorem dX12_place_1 : decode cX12_place 1 = .ok (.iload_n 1, 1) := by decide +kernel
theorem dX12_place_2 : decode cX12_place 2 = .ok (.invokevirtual 256, 3) := by decide +kernel
theorem dX12_place_5 : decode cX12_place 5 = .ok (.ifCond .eq 11, 3) := by decide +kernel
theorem dX12_place_8 : decode cX12_place 8 = .ok (.aload_n 0, 1) := by decide +kernel
theorem dX12_place_9 : decode cX12_place 9 = .ok (.iload_n 2, 1) := by decide +kernel
theorem dX12_place_10 : decode cX12_place 10 = .ok (.invokevirtual 259, 3) := by decide +kernel
theorem dX12_place_13 : decode cX12_place 13 = .ok (.ifCond .ne 8, 3) := by decide +kernel
theorem dX12_place_16 : decode cX12_place 16 = .ok (.aload_n 0, 1) := by decide +kernel
theorem dX12_place_17 : decode cX12_place 17 = .ok (.invokevirtual 262, 3) := by decide +kernel
theorem dX12_place_20 : decode cX12_place 20 = .ok (.ireturn, 1) := by decide +kernel
theorem dX12_place_21 : decode cX12_place 21 = .ok (.aload_n 0, 1) := by decide +kernel
theorem dX12_place_22 : decode cX12_place 22 = .ok (.iconst 0, 1) := by decide +kernel
theorem dX12_place_23 : decode cX12_place 23 = .ok (.putfield 75, 3) := by decide +kernel
theorem dX12_place_26 : decode cX12_place 26 = .ok (.aload_n 0, 1) := by decide +kernel
theorem dX12_place_27 : decode cX12_place 27 = .ok (.iload_n 1, 1) := by decide +kernel
theorem dX12_place_28 : decode cX12_place 28 = .ok (.iload_n 2, 1) := by decide +kernel
theorem dX12_place_29 : decode cX12_place 29 = .ok (.invokevirtual 250, 3) := by decide +kernel
theorem dX12_place_32 : decode cX12_place 32 = .ok (.ireturn, 1) := by decide +kernel
def wp_X12_place (l0 : Nat) (l1 : Int32) (l2 : Int32) (h : PH) (Q : Int32 → PH → Prop) : Prop := (wp_X12_isPart l0 l1 h (fun r2 h1 => ((r2 = 0 → (wp_X12_refuse l0 h1 (fun r5 h4 => Q r5 h4))) ∧ (¬ (r2 = 0) → (wp_X12_isTime l0 l2 h1 (fun r7 h6 => ((¬ r7 = 0 → (∀ h9, h9 = qsI h6 l0 0 0 → (wp_X12_placeOf l0 l1 l2 h9 (fun r11 h10 => Q r11 h10)))) ∧ (r7 = 0 → (wp_X12_refuse l0 h6 (fun r13 h12 => Q r13 h12))))))))))
set_option maxHeartbeats 4000000 in
set_option maxRecDepth 100000 in
theorem sn_X12_place (G : GT) (d : Nat) (l0 : Nat) (l1 : Int32) (l2 : Int32) (h : PH) (Q : Int32 → PH → Prop) (okl0 : qOK h 11 l0) (hwp : wp_X12_place l0 l1 l2 h Q) : Mt G (2 + d) 0 0 mX12_place [.ref l0, .int l1, .int l2] h (qqi Q) := by
  unfold wp_X12_place at hwp
  refine Mt.of (by decide) rfl (Nat.le_of_ble_eq_true rfl) ?_
  have hex := qEx.rf h
  have hnn : qn h = qn h + 0 := rfl
  have hzz : qz h = qz h + 0 := rfl
  refine x_lvE (lv2 := [(0, .ref l0), (1, .int l1), (2, .int l2)]) rfl ?_
  refine x_aload_n (pc := 0) dX12_place_0 rfl ?_
  refine x_iload_n (pc := 1) dX12_place_1 rfl ?_
  refine x_invV (As := [.int l1]) (st := []) (pc := 2) dX12_place_2 lRX12_256 fX12_isPart vX12_isPart okl0 rfl (Nat.le_of_ble_eq_true rfl) (q_R (by omega) (by decide)) (q_C hnn hzz (by decide) (by decide)) (sn_X12_isPart G (d + 1) l0 l1 h _ okl0 hwp) (k_b (fun r2 h1 hwp zbr2 cxh1 => ?_))
  have hex := hex.tr cxh1.1
  have hnn : qn h1 = qn h + 0 := by have := cxh1.2.1; omega
  have hzz : qz h1 = qz h + 0 := by have := cxh1.2.2; omega
  have okl0 := okl0.ex cxh1.1
  refine x_if_eq (tgt := 16) (pc := 5) dX12_place_5 (by decide) (fun c3 => ?_) (fun c3 => ?_)
  · have hwp := hwp.1 c3
    refine x_aload_n (pc := 16) dX12_place_16 rfl ?_
    refine x_invV (As := []) (st := []) (pc := 17) dX12_place_17 lRX12_262 fX12_refuse vX12_refuse okl0 rfl (Nat.le_of_ble_eq_true rfl) (q_R (by omega) (by decide)) (q_C hnn hzz (by decide) (by decide)) (sn_X12_refuse G (d + 1) l0 h1 _ okl0 hwp) (k_i (fun r5 h4 hwp cxh4 => ?_))
    have hex := hex.tr cxh4.1
    have hnn : qn h4 = qn h + 0 := by have := cxh4.2.1; omega
    have hzz : qz h4 = qz h + 0 := by have := cxh4.2.2; omega
    have okl0 := okl0.ex cxh4.1
    exact x_iret (pc := 20) dX12_place_20 rfl hex hnn hzz ⟨_, rfl, hwp⟩
  · have hwp := hwp.2 c3
    refine x_aload_n (pc := 8) dX12_place_8 rfl ?_
    refine x_iload_n (pc := 9) dX12_place_9 rfl ?_
    refine x_invV (As := [.int l2]) (st := []) (pc := 10) dX12_place_10 lRX12_259 fX12_isTime vX12_isTime okl0 rfl (Nat.le_of_ble_eq_true rfl) (q_R (by omega) (by decide)) (q_C hnn hzz (by decide) (by decide)) (sn_X12_isTime G (d + 0) l0 l2 h1 _ okl0 hwp) (k_b (fun r7 h6 hwp zbr7 cxh6 => ?_))
    have hex := hex.tr cxh6.1
    have hnn : qn h6 = qn h + 0 := by have := cxh6.2.1; omega
    have hzz : qz h6 = qz h + 0 := by have := cxh6.2.2; omega
    have okl0 := okl0.ex cxh6.1
    refine x_if_ne (tgt := 21) (pc := 13) dX12_place_13 (by decide) (fun c8 => ?_) (fun c8 => ?_)
    · have hwp := hwp.1 c8
      refine x_aload_n (pc := 21) dX12_place_21 rfl ?_
      refine x_iconst (v := 0) (pc := 22) dX12_place_22 (by decide) ?_
      refine y_putI (pc := 23) dX12_place_23 qRX12_75 okl0 (fun h9 eh9 nxh9 => ?_)
      have hwp := hwp h9 eh9
      have hex := hex.tr nxh9.1
      have hnn := nxh9.2.1.trans hnn
      have hzz := nxh9.2.2.trans hzz
      have okl0 := okl0.ex nxh9.1
      refine x_aload_n (pc := 26) dX12_place_26 rfl ?_
      refine x_iload_n (pc := 27) dX12_place_27 rfl ?_
      refine x_iload_n (pc := 28) dX12_place_28 rfl ?_
      refine x_invV (As := [.int l1, .int l2]) (st := []) (pc := 29) dX12_place_29 lRX12_250 fX12_placeOf vX12_placeOf okl0 rfl (Nat.le_of_ble_eq_true rfl) (q_R (by omega) (by decide)) (q_C hnn hzz (by decide) (by decide)) (sn_X12_placeOf G (d + 0) l0 l1 l2 h9 _ okl0 hwp) (k_i (fun r11 h10 hwp cxh10 => ?_))
      have hex := hex.tr cxh10.1
      have hnn : qn h10 = qn h + 0 := by have := cxh10.2.1; omega
      have hzz : qz h10 = qz h + 0 := by have := cxh10.2.2; omega
      have okl0 := okl0.ex cxh10.1
      exact x_iret (pc := 32) dX12_place_32 rfl hex hnn hzz ⟨_, rfl, hwp⟩
    · have hwp := hwp.2 c8
      refine x_aload_n (pc := 16) dX12_place_16 rfl ?_
      refine x_invV (As := []) (st := []) (pc := 17) dX12_place_17 lRX12_262 fX12_refuse vX12_refuse okl0 rfl (Nat.le_of_ble_eq_true rfl) (q_R (by omega) (by decide)) (q_C hnn hzz (by decide) (by decide)) (sn_X12_refuse G (d + 1) l0 h6 _ okl0 hwp) (k_i (fun r13 h12 hwp cxh12 => ?_))
      have hex := hex.tr cxh12.1
      have hnn : qn h12 = qn h + 0 := by have := cxh12.2.1; omega
      have hzz : qz h12 = qz h + 0 := by have := cxh12.2.2; omega
      have okl0 := okl0.ex cxh12.1
      exact x_iret (pc := 20) dX12_place_20 rfl hex hnn hzz ⟨_, rfl, hwp⟩

theorem dX12_energy_0 : decode cX12_energy 0 = .ok (.aload_n 0, 1) := by decide +kernel
theorem dX12_energy_1 : decode cX12_energy 1 = .ok (.iload_n 1, 1) := by decide +kernel
theorem dX12_energy_2 : decode cX12_energy 2 = .ok (.invokevirtual 256, 3) := by decide +kernel
theorem dX12_energy_5 : decode cX12_energy 5 = .ok (.ifCond .eq 11, 3) := by decide +kernel
theorem dX12_energy_8 : decode cX12_energy 8 = .ok (.aload_n 0, 1) := by decide +kernel
theorem dX12_energy_9 : decode cX12_energy 9 = .ok (.iload_n 2, 1) := by decide +kernel
theorem dX12_energy_10 : decode cX12_energy 10 = .ok (.invokevirtual 259, 3) := by decide +kernel
theorem dX12_energy_13 : decode cX12_energy 13 = .ok (.ifCond .ne 8, 3) := by decide +kernel
theorem dX12_energy_16 : decode cX12_energy 16 = .ok (.aload_n 0, 1) := by decide +kernel
theorem dX12_energy_17 : decode cX12_energy 17 = .ok (.invokevirtual 262, 3) := by decide +kernel
theorem dX12_energy_20 : decode cX12_energy 20 = .ok (.ireturn, 1) := by decide +kernel
theorem dX12_energy_21 : decode cX12_energy 21 = .ok (.aload_n 0, 1) := by decide +kernel
theorem dX12_energy_22 : decode cX12_energy 22 = .ok (.iconst 0, 1) := by decide +kernel
theorem dX12_energy_23 : decode cX12_energy 23 = .ok (.putfield 75, 3) := by decide +kernel
theorem dX12_energy_26 : decode cX12_energy 26 = .ok (.aload_n 0, 1) := by decide +kernel
theorem dX12_energy_27 : decode cX12_energy 27 = .ok (.iload_n 1, 1) := by decide +kernel
theorem dX12_energy_28 : decode cX12_energy 28 = .ok (.iload_n 2, 1) := by decide +kernel
theorem dX12_energy_29 : decode cX12_energy 29 = .ok (.invokevirtual 253, 3) := by decide +kernel
theorem dX12_energy_32 : decode cX12_energy 32 = .ok (.ireturn, 1) := by decide +kernel
def wp_X12_energy (l0 : Nat) (l1 : Int32) (l2 : Int32) (h : PH) (Q : Int32 → PH → Prop) : Prop := (wp_X12_isPart l0 l1 h (fun r2 h1 => ((r2 = 0 → (wp_X12_refuse l0 h1 (fun r5 h4 => Q r5 h4))) ∧ (¬ (r2 = 0) → (wp_X12_isTime l0 l2 h1 (fun r7 h6 => ((¬ r7 = 0 → (∀ h9, h9 = qsI h6 l0 0 0 → (wp_X12_energyOf l0 l1 l2 h9 (fun r11 h10 => Q r11 h10)))) ∧ (r7 = 0 → (wp_X12_refuse l0 h6 (fun r13 h12 => Q r13 h12))))))))))
set_option maxHeartbeats 4000000 in
set_option maxRecDepth 100000 in
theorem sn_X12_energy (G : GT) (d : Nat) (l0 : Nat) (l1 : Int32) (l2 : Int32) (h : PH) (Q : Int32 → PH → Prop) (okl0 : qOK h 11 l0) (hwp : wp_X12_energy l0 l1 l2 h Q) : Mt G (4 + d) 0 0 mX12_energy [.ref l0, .int l1, .int l2] h (qqi Q) := by
  unfold wp_X12_energy at hwp
  refine Mt.of (by decide) rfl (Nat.le_of_ble_eq_true rfl) ?_
  have hex := qEx.rf h
  have hnn : qn h = qn h + 0 := rfl
  have hzz : qz h = qz h + 0 := rfl
  refine x_lvE (lv2 := [(0, .ref l0), (1, .int l1), (2, .int l2)]) rfl ?_
  refine x_aload_n (pc := 0) dX12_energy_0 rfl ?_
  refine x_iload_n (pc := 1) dX12_energy_1 rfl ?_
  refine x_invV (As := [.int l1]) (st := []) (pc := 2) dX12_energy_2 lRX12_256 fX12_isPart vX12_isPart okl0 rfl (Nat.le_of_ble_eq_true rfl) (q_R (by omega) (by decide)) (q_C hnn hzz (by decide) (by decide)) (sn_X12_isPart G (d + 3) l0 l1 h _ okl0 hwp) (k_b (fun r2 h1 hwp zbr2 cxh1 => ?_))
  have hex := hex.tr cxh1.1
  have hnn : qn h1 = qn h + 0 := by have := cxh1.2.1; omega
  have hzz : qz h1 = qz h + 0 := by have := cxh1.2.2; omega
  have okl0 := okl0.ex cxh1.1
  refine x_if_eq (tgt := 16) (pc := 5) dX12_energy_5 (by decide) (fun c3 => ?_) (fun c3 => ?_)
  · have hwp := hwp.1 c3
    refine x_aload_n (pc := 16) dX12_energy_16 rfl ?_
    refine x_invV (As := []) (st := []) (pc := 17) dX12_energy_17 lRX12_262 fX12_refuse vX12_refuse okl0 rfl (Nat.le_of_ble_eq_true rfl) (q_R (by omega) (by decide)) (q_C hnn hzz (by decide) (by decide)) (sn_X12_refuse G (d + 3) l0 h1 _ okl0 hwp) (k_i (fun r5 h4 hwp cxh4 => ?_))
    have hex := hex.tr cxh4.1
    have hnn : qn h4 = qn h + 0 := by have := cxh4.2.1; omega
    have hzz : qz h4 = qz h + 0 := by have := cxh4.2.2; omega
    have okl0 := okl0.ex cxh4.1
    exact x_iret (pc := 20) dX12_energy_20 rfl hex hnn hzz ⟨_, rfl, hwp⟩
  · have hwp := hwp.2 c3
    refine x_aload_n (pc := 8) dX12_energy_8 rfl ?_
    refine x_iload_n (pc := 9) dX12_energy_9 rfl ?_
    refine x_invV (As := [.int l2]) (st := []) (pc := 10) dX12_energy_10 lRX12_259 fX12_isTime vX12_isTime okl0 rfl (Nat.le_of_ble_eq_true rfl) (q_R (by omega) (by decide)) (q_C hnn hzz (by decide) (by decide)) (sn_X12_isTime G (d + 2) l0 l2 h1 _ okl0 hwp) (k_b (fun r7 h6 hwp zbr7 cxh6 => ?_))
    have hex := hex.tr cxh6.1
    have hnn : qn h6 = qn h + 0 := by have := cxh6.2.1; omega
    have hzz : qz h6 = qz h + 0 := by have := cxh6.2.2; omega
    have okl0 := okl0.ex cxh6.1
    refine x_if_ne (tgt := 21) (pc := 13) dX12_energy_13 (by decide) (fun c8 => ?_) (fun c8 => ?_)
    · have hwp := hwp.1 c8
      refine x_aload_n (pc := 21) dX12_energy_21 rfl ?_
      refine x_iconst (v := 0) (pc := 22) dX12_energy_22 (by decide) ?_
      refine y_putI (pc := 23) dX12_energy_23 qRX12_75 okl0 (fun h9 eh9 nxh9 => ?_)
      have hwp := hwp h9 eh9
      have hex := hex.tr nxh9.1
      have hnn := nxh9.2.1.trans hnn
      have hzz := nxh9.2.2.trans hzz
      have okl0 := okl0.ex nxh9.1
      refine x_aload_n (pc := 26) dX12_energy_26 rfl ?_
      refine x_iload_n (pc := 27) dX12_energy_27 rfl ?_
      refine x_iload_n (pc := 28) dX12_energy_28 rfl ?_
      refine x_invV (As := [.int l1, .int l2]) (st := []) (pc := 29) dX12_energy_29 lRX12_253 fX12_energyOf vX12_energyOf okl0 rfl (Nat.le_of_ble_eq_true rfl) (q_R (by omega) (by decide)) (q_C hnn hzz (by decide) (by decide)) (sn_X12_energyOf G (d + 0) l0 l1 l2 h9 _ okl0 hwp) (k_i (fun r11 h10 hwp cxh10 => ?_))
      have hex := hex.tr cxh10.1
      have hnn : qn h10 = qn h + 0 := by have := cxh10.2.1; omega
      have hzz : qz h10 = qz h + 0 := by have := cxh10.2.2; omega
      have okl0 := okl0.ex cxh10.1
      exact x_iret (pc := 32) dX12_energy_32 rfl hex hnn hzz ⟨_, rfl, hwp⟩
    · have hwp := hwp.2 c8
      refine x_aload_n (pc := 16) dX12_energy_16 rfl ?_
      refine x_invV (As := []) (st := []) (pc := 17) dX12_energy_17 lRX12_262 fX12_refuse vX12_refuse okl0 rfl (Nat.le_of_ble_eq_true rfl) (q_R (by omega) (by decide)) (q_C hnn hzz (by decide) (by decide)) (sn_X12_refuse G (d + 3) l0 h6 _ okl0 hwp) (k_i (fun r13 h12 hwp cxh12 => ?_))
      have hex := hex.tr cxh12.1
      have hnn : qn h12 = qn h + 0 := by have := cxh12.2.1; omega
      have hzz : qz h12 = qz h + 0 := by have := cxh12.2.2; omega
      have okl0 := okl0.ex cxh12.1
      exact x_iret (pc := 20) dX12_energy_20 rfl hex hnn hzz ⟨_, rfl, hwp⟩

theorem dX12_gives_0 : decode cX12_gives 0 = .ok (.aload_n 0, 1) := by decide +kernel
theorem dX12_gives_1 : decode cX12_gives 1 = .ok (.iload_n 1, 1) := by decide +kernel
theorem dX12_gives_2 : decode cX12_gives 2 = .ok (.invokevirtual 256, 3) := by decide +kernel
theorem dX12_gives_5 : decode cX12_gives 5 = .ok (.ifCond .eq 18, 3) := by decide +kernel
theorem dX12_gives_8 : decode cX12_gives 8 = .ok (.aload_n 0, 1) := by decide +kernel
theorem dX12_gives_9 : decode cX12_gives 9 = .ok (.iload_n 2, 1) := by decide +kernel
theorem dX12_gives_10 : decode cX12_gives 10 = .ok (.invokevirtual 259, 3) := by decide +kernel
theorem dX12_gives_13 : decode cX12_gives 13 = .ok (.ifCond .eq 10, 3) := by decide +kernel
theorem dX12_gives_16 : decode cX12_gives 16 = .ok (.iload_n 3, 1) := by decide +kernel
theorem dX12_gives_17 : decode cX12_gives 17 = .ok (.invokestatic 265, 3) := by decide +kernel
theorem dX12_gives_20 : decode cX12_gives 20 = .ok (.ifCond .ne 8, 3) := by decide +kernel
theorem dX12_gives_23 : decode cX12_gives 23 = .ok (.aload_n 0, 1) := by decide +kernel
theorem dX12_gives_24 : decode cX12_gives 24 = .ok (.invokevirtual 262, 3) := by decide +kernel
theorem dX12_gives_27 : decode cX12_gives 27 = .ok (.ireturn, 1) := by decide +kernel
theorem dX12_gives_28 : decode cX12_gives 28 = .ok (.aload_n 0, 1) := by decide +kernel
theorem dX12_gives_29 : decode cX12_gives 29 = .ok (.iconst 0, 1) := by decide +kernel
theorem dX12_gives_30 : decode cX12_gives 30 = .ok (.putfield 75, 3) := by decide +kernel
theorem dX12_gives_33 : decode cX12_gives 33 = .ok (.aload_n 0, 1) := by decide +kernel
theorem dX12_gives_34 : decode cX12_gives 34 = .ok (.iload_n 1, 1) := by decide +kernel
theorem dX12_gives_35 : decode cX12_gives 35 = .ok (.iload_n 2, 1) := by decide +kernel
theorem dX12_gives_36 : decode cX12_gives 36 = .ok (.iload_n 3, 1) := by decide +kernel
theorem dX12_gives_37 : decode cX12_gives 37 = .ok (.invokevirtual 268, 3) := by decide +kernel
theorem dX12_gives_40 : decode cX12_gives 40 = .ok (.ireturn, 1) := by decide +kernel
def wp_X12_gives (l0 : Nat) (l1 : Int32) (l2 : Int32) (l3 : Int32) (h : PH) (Q : Int32 → PH → Prop) : Prop := (wp_X12_isPart l0 l1 h (fun r2 h1 => ((r2 = 0 → (wp_X12_refuse l0 h1 (fun r5 h4 => Q r5 h4))) ∧ (¬ (r2 = 0) → (wp_X12_isTime l0 l2 h1 (fun r7 h6 => ((r7 = 0 → (wp_X12_refuse l0 h6 (fun r10 h9 => Q r10 h9))) ∧ (¬ (r7 = 0) → (wp_X12_isWorld l3 h6 (fun r12 h11 => ((¬ r12 = 0 → (∀ h14, h14 = qsI h11 l0 0 0 → (wp_X12_givesOf l0 l1 l2 l3 h14 (fun r16 h15 => Q r16 h15)))) ∧ (r12 = 0 → (wp_X12_refuse l0 h11 (fun r18 h17 => Q r18 h17))))))))))))))
set_option maxHeartbeats 4000000 in
set_option maxRecDepth 100000 in
theorem sn_X12_gives (G : GT) (d : Nat) (l0 : Nat) (l1 : Int32) (l2 : Int32) (l3 : Int32) (h : PH) (Q : Int32 → PH → Prop) (okl0 : qOK h 11 l0) (hwp : wp_X12_gives l0 l1 l2 l3 h Q) : Mt G (5 + d) 0 0 mX12_gives [.ref l0, .int l1, .int l2, .int l3] h (qqi Q) := by
  unfold wp_X12_gives at hwp
  refine Mt.of (by decide) rfl (Nat.le_of_ble_eq_true rfl) ?_
  have hex := qEx.rf h
  have hnn : qn h = qn h + 0 := rfl
  have hzz : qz h = qz h + 0 := rfl
  refine x_lvE (lv2 := [(0, .ref l0), (1, .int l1), (2, .int l2), (3, .int l3)]) rfl ?_
  refine x_aload_n (pc := 0) dX12_gives_0 rfl ?_
  refine x_iload_n (pc := 1) dX12_gives_1 rfl ?_
  refine x_invV (As := [.int l1]) (st := []) (pc := 2) dX12_gives_2 lRX12_256 fX12_isPart vX12_isPart okl0 rfl (Nat.le_of_ble_eq_true rfl) (q_R (by omega) (by decide)) (q_C hnn hzz (by decide) (by decide)) (sn_X12_isPart G (d + 4) l0 l1 h _ okl0 hwp) (k_b (fun r2 h1 hwp zbr2 cxh1 => ?_))
  have hex := hex.tr cxh1.1
  have hnn : qn h1 = qn h + 0 := by have := cxh1.2.1; omega
  have hzz : qz h1 = qz h + 0 := by have := cxh1.2.2; omega
  have okl0 := okl0.ex cxh1.1
  refine x_if_eq (tgt := 23) (pc := 5) dX12_gives_5 (by decide) (fun c3 => ?_) (fun c3 => ?_)
  · have hwp := hwp.1 c3
    refine x_aload_n (pc := 23) dX12_gives_23 rfl ?_
    refine x_invV (As := []) (st := []) (pc := 24) dX12_gives_24 lRX12_262 fX12_refuse vX12_refuse okl0 rfl (Nat.le_of_ble_eq_true rfl) (q_R (by omega) (by decide)) (q_C hnn hzz (by decide) (by decide)) (sn_X12_refuse G (d + 4) l0 h1 _ okl0 hwp) (k_i (fun r5 h4 hwp cxh4 => ?_))
    have hex := hex.tr cxh4.1
    have hnn : qn h4 = qn h + 0 := by have := cxh4.2.1; omega
    have hzz : qz h4 = qz h + 0 := by have := cxh4.2.2; omega
    have okl0 := okl0.ex cxh4.1
    exact x_iret (pc := 27) dX12_gives_27 rfl hex hnn hzz ⟨_, rfl, hwp⟩
  · have hwp := hwp.2 c3
    refine x_aload_n (pc := 8) dX12_gives_8 rfl ?_
    refine x_iload_n (pc := 9) dX12_gives_9 rfl ?_
    refine x_invV (As := [.int l2]) (st := []) (pc := 10) dX12_gives_10 lRX12_259 fX12_isTime vX12_isTime okl0 rfl (Nat.le_of_ble_eq_true rfl) (q_R (by omega) (by decide)) (q_C hnn hzz (by decide) (by decide)) (sn_X12_isTime G (d + 3) l0 l2 h1 _ okl0 hwp) (k_b (fun r7 h6 hwp zbr7 cxh6 => ?_))
    have hex := hex.tr cxh6.1
    have hnn : qn h6 = qn h + 0 := by have := cxh6.2.1; omega
    have hzz : qz h6 = qz h + 0 := by have := cxh6.2.2; omega
    have okl0 := okl0.ex cxh6.1
    refine x_if_eq (tgt := 23) (pc := 13) dX12_gives_13 (by decide) (fun c8 => ?_) (fun c8 => ?_)
    · have hwp := hwp.1 c8
      refine x_aload_n (pc := 23) dX12_gives_23 rfl ?_
      refine x_invV (As := []) (st := []) (pc := 24) dX12_gives_24 lRX12_262 fX12_refuse vX12_refuse okl0 rfl (Nat.le_of_ble_eq_true rfl) (q_R (by omega) (by decide)) (q_C hnn hzz (by decide) (by decide)) (sn_X12_refuse G (d + 4) l0 h6 _ okl0 hwp) (k_i (fun r10 h9 hwp cxh9 => ?_))
      have hex := hex.tr cxh9.1
      have hnn : qn h9 = qn h + 0 := by have := cxh9.2.1; omega
      have hzz : qz h9 = qz h + 0 := by have := cxh9.2.2; omega
      have okl0 := okl0.ex cxh9.1
      exact x_iret (pc := 27) dX12_gives_27 rfl hex hnn hzz ⟨_, rfl, hwp⟩
    · have hwp := hwp.2 c8
      refine x_iload_n (pc := 16) dX12_gives_16 rfl ?_
      refine x_invS (As := [.int l3]) (st := []) (pc := 17) dX12_gives_17 lRX12_265 fX12_isWorld sX12_isWorld rfl (Nat.le_of_ble_eq_true rfl) (q_R (by omega) (by decide)) (q_C hnn hzz (by decide) (by decide)) (sn_X12_isWorld G (d + 4) l3 h6 _  hwp) (k_b (fun r12 h11 hwp zbr12 cxh11 => ?_))
      have hex := hex.tr cxh11.1
      have hnn : qn h11 = qn h + 0 := by have := cxh11.2.1; omega
      have hzz : qz h11 = qz h + 0 := by have := cxh11.2.2; omega
      have okl0 := okl0.ex cxh11.1
      refine x_if_ne (tgt := 28) (pc := 20) dX12_gives_20 (by decide) (fun c13 => ?_) (fun c13 => ?_)
      · have hwp := hwp.1 c13
        refine x_aload_n (pc := 28) dX12_gives_28 rfl ?_
        refine x_iconst (v := 0) (pc := 29) dX12_gives_29 (by decide) ?_
        refine y_putI (pc := 30) dX12_gives_30 qRX12_75 okl0 (fun h14 eh14 nxh14 => ?_)
        have hwp := hwp h14 eh14
        have hex := hex.tr nxh14.1
        have hnn := nxh14.2.1.trans hnn
        have hzz := nxh14.2.2.trans hzz
        have okl0 := okl0.ex nxh14.1
        refine x_aload_n (pc := 33) dX12_gives_33 rfl ?_
        refine x_iload_n (pc := 34) dX12_gives_34 rfl ?_
        refine x_iload_n (pc := 35) dX12_gives_35 rfl ?_
        refine x_iload_n (pc := 36) dX12_gives_36 rfl ?_
        refine x_invV (As := [.int l1, .int l2, .int l3]) (st := []) (pc := 37) dX12_gives_37 lRX12_268 fX12_givesOf vX12_givesOf okl0 rfl (Nat.le_of_ble_eq_true rfl) (q_R (by omega) (by decide)) (q_C hnn hzz (by decide) (by decide)) (sn_X12_givesOf G (d + 0) l0 l1 l2 l3 h14 _ okl0 hwp) (k_i (fun r16 h15 hwp cxh15 => ?_))
        have hex := hex.tr cxh15.1
        have hnn : qn h15 = qn h + 0 := by have := cxh15.2.1; omega
        have hzz : qz h15 = qz h + 0 := by have := cxh15.2.2; omega
        have okl0 := okl0.ex cxh15.1
        exact x_iret (pc := 40) dX12_gives_40 rfl hex hnn hzz ⟨_, rfl, hwp⟩
      · have hwp := hwp.2 c13
        refine x_aload_n (pc := 23) dX12_gives_23 rfl ?_
        refine x_invV (As := []) (st := []) (pc := 24) dX12_gives_24 lRX12_262 fX12_refuse vX12_refuse okl0 rfl (Nat.le_of_ble_eq_true rfl) (q_R (by omega) (by decide)) (q_C hnn hzz (by decide) (by decide)) (sn_X12_refuse G (d + 4) l0 h11 _ okl0 hwp) (k_i (fun r18 h17 hwp cxh17 => ?_))
        have hex := hex.tr cxh17.1
        have hnn : qn h17 = qn h + 0 := by have := cxh17.2.1; omega
        have hzz : qz h17 = qz h + 0 := by have := cxh17.2.2; omega
        have okl0 := okl0.ex cxh17.1
        exact x_iret (pc := 27) dX12_gives_27 rfl hex hnn hzz ⟨_, rfl, hwp⟩

theorem dX12_sumOf_0 : decode cX12_sumOf 0 = .ok (.iconst 0, 1) := by decide +kernel
theorem dX12_sumOf_1 : decode cX12_sumOf 1 = .ok (.istore_n 3, 1) := by decide +kernel
theorem dX12_sumOf_2 : decode cX12_sumOf 2 = .ok (.iconst 0, 1) := by decide +kernel
theorem dX12_sumOf_3 : decode cX12_sumOf 3 = .ok (.istore 4, 2) := by decide +kernel
theorem dX12_sumOf_5 : decode cX12_sumOf 5 = .ok (.iload 4, 2) := by decide +kernel
theorem dX12_sumOf_7 : decode cX12_sumOf 7 = .ok (.aload_n 0, 1) := by decide +kernel
theorem dX12_sumOf_8 : decode cX12_sumOf 8 = .ok (.getfield 13, 3) := by decide +kernel
theorem dX12_sumOf_11 : decode cX12_sumOf 11 = .ok (.iconst 0, 1) := by decide +kernel
theorem dX12_sumOf_12 : decode cX12_sumOf 12 = .ok (.iaload, 1) := by decide +kernel
theorem dX12_sumOf_13 : decode cX12_sumOf 13 = .ok (.if_icmp .ge 20, 3) := by decide +kernel
theorem dX12_sumOf_16 : decode cX12_sumOf 16 = .ok (.iload_n 3, 1) := by decide +kernel
theorem dX12_sumOf_17 : decode cX12_sumOf 17 = .ok (.aload_n 0, 1) := by decide +kernel
theorem dX12_sumOf_18 : decode cX12_sumOf 18 = .ok (.iload_n 1, 1) := by decide +kernel
theorem dX12_sumOf_19 : decode cX12_sumOf 19 = .ok (.iload 4, 2) := by decide +kernel
theorem dX12_sumOf_21 : decode cX12_sumOf 21 = .ok (.iload_n 2, 1) := by decide +kernel
theorem dX12_sumOf_22 : decode cX12_sumOf 22 = .ok (.invokevirtual 268, 3) := by decide +kernel
theorem dX12_sumOf_25 : decode cX12_sumOf 25 = .ok (.iadd, 1) := by decide +kernel
theorem dX12_sumOf_26 : decode cX12_sumOf 26 = .ok (.istore_n 3, 1) := by decide +kernel
theorem dX12_sumOf_27 : decode cX12_sumOf 27 = .ok (.iinc 4 1, 3) := by decide +kernel
theorem dX12_sumOf_30 : decode cX12_sumOf 30 = .ok (.goto (-25), 3) := by decide +kernel
theorem dX12_sumOf_33 : decode cX12_sumOf 33 = .ok (.iload_n 3, 1) := by decide +kernel
theorem dX12_sumOf_34 : decode cX12_sumOf 34 = .ok (.ireturn, 1) := by decide +kernel
def E_X12_sumOf_5 (G : GT) (d : Nat) (h0 hb : PH) (l0 : Nat) (l1 : Int32) (l2 : Int32) (Q : Int32 → PH → Prop) (s : Int32 × Int32 × PH) : Prop := qEx hb s.2.2 ∧ qn s.2.2 = qn hb ∧ qz s.2.2 = qz hb → Ex G (qrm (5 + d) 0 0) mX12_sumOf (qn h0) (qz h0) (ZN G h0 0 0 (qqi Q)) 5 [(0, .ref l0), (1, .int l1), (2, .int l2), (3, .int s.1), (4, .int s.2.1)] [] s.2.2
def wb_X12_sumOf_5 (l0 : Nat) (l1 : Int32) (l2 : Int32)  (Q : Int32 → PH → Prop) (bk5 : Int32 × Int32 × PH → Prop) (l3 : Int32) (l4 : Int32) (h : PH) : Prop := (∃ b1, qR h l0 14 = some b1 ∧ (vp_in 0 (qL h b1) ∧ (((qI h b1 (0 : Int32).toNatClampNeg) ≤ l4 → Q l3 h) ∧ (¬ ((qI h b1 (0 : Int32).toNatClampNeg) ≤ l4) → (wp_X12_givesOf l0 l1 l4 l2 h (fun r6 h5 => ∀ v7 : Int32, v7 = l3 + r6 → ∀ v8 : Int32, v8 = l4 + 1 → bk5 (v7, v8, h5)))))))
def wp_X12_sumOf_5 (l0 : Nat) (l1 : Int32) (l2 : Int32)  (Q : Int32 → PH → Prop) (bk5 : Int32 × Int32 × PH → Prop) (s : Int32 × Int32 × PH) : Prop := wb_X12_sumOf_5 l0 l1 l2 Q bk5 s.1 s.2.1 s.2.2
set_option maxHeartbeats 4000000 in
set_option maxRecDepth 100000 in
theorem bd_X12_sumOf_5 (G : GT) (d : Nat) (h0 hb : PH) (l0 : Nat) (l1 : Int32) (l2 : Int32) (Q : Int32 → PH → Prop)  (hex : qEx h0 hb) (hnn : qn hb = qn h0 + 0) (hzz : qz hb = qz h0 + 0) (okl0 : qOK hb 11 l0) (bk5 : Int32 × Int32 × PH → Prop) (hbk5 : ∀ s2, bk5 s2 → E_X12_sumOf_5 G d h0 hb l0 l1 l2 Q s2) (l3 : Int32) (l4 : Int32) (h : PH) (hwp : wb_X12_sumOf_5 l0 l1 l2 Q bk5 l3 l4 h) (hx5 : qEx hb h) (hn5 : qn h = qn hb) (hz5 : qz h = qz hb) : Ex G (qrm (5 + d) 0 0) mX12_sumOf (qn h0) (qz h0) (ZN G h0 0 0 (qqi Q)) 5 [(0, .ref l0), (1, .int l1), (2, .int l2), (3, .int l3), (4, .int l4)] [] h := by
  unfold wb_X12_sumOf_5 at hwp
  have hex := hex.tr hx5
  have hnn := hn5.trans hnn
  have hzz := hz5.trans hzz
  have okl0 := okl0.ex hx5
  refine x_iload (pc := 5) dX12_sumOf_5 rfl ?_
  refine x_aload_n (pc := 7) dX12_sumOf_7 rfl ?_
  obtain ⟨b1, e2, hwp⟩ := hwp
  refine x_getR (pc := 8) dX12_sumOf_8 qRX12_13 okl0 e2 (fun okb1 => ?_)
  refine x_iconst (v := 0) (pc := 11) dX12_sumOf_11 (by decide) ?_
  obtain ⟨i3, hwp⟩ := hwp
  refine x_iaload (pc := 12) dX12_sumOf_12 okb1 i3 ?_
  refine x_icmp_ge (tgt := 33) (pc := 13) dX12_sumOf_13 (by decide) (fun c4 => ?_) (fun c4 => ?_)
  · have hwp := hwp.1 c4
    refine x_iload_n (pc := 33) dX12_sumOf_33 rfl ?_
    exact x_iret (pc := 34) dX12_sumOf_34 rfl hex hnn hzz ⟨_, rfl, hwp⟩
  · have hwp := hwp.2 c4
    refine x_iload_n (pc := 16) dX12_sumOf_16 rfl ?_
    refine x_aload_n (pc := 17) dX12_sumOf_17 rfl ?_
    refine x_iload_n (pc := 18) dX12_sumOf_18 rfl ?_
    refine x_iload (pc := 19) dX12_sumOf_19 rfl ?_
    refine x_iload_n (pc := 21) dX12_sumOf_21 rfl ?_
    refine x_invV (As := [.int l1, .int l4, .int l2]) (st := [.int l3]) (pc := 22) dX12_sumOf_22 lRX12_268 fX12_givesOf vX12_givesOf okl0 rfl (Nat.le_of_ble_eq_true rfl) (q_R (by omega) (by decide)) (q_C hnn hzz (by decide) (by decide)) (sn_X12_givesOf G (d + 0) l0 l1 l4 l2 h _ okl0 hwp) (k_i (fun r6 h5 hwp cxh5 => ?_))
    have hex := hex.tr cxh5.1
    have hnn : qn h5 = qn h0 + 0 := by have := cxh5.2.1; omega
    have hzz : qz h5 = qz h0 + 0 := by have := cxh5.2.2; omega
    have hx5 := hx5.tr cxh5.1
    have hn5 : qn h5 = qn hb := by have := cxh5.2.1; omega
    have hz5 : qz h5 = qz hb := by have := cxh5.2.2; omega
    have okl0 := okl0.ex cxh5.1
    have okb1 := okb1.ex cxh5.1
    refine x_iadd (pc := 25) dX12_sumOf_25 ?_
    refine x_nmI (fun v7 ev7 => ?_)
    have hwp := hwp v7 ev7
    refine x_istore_n (lv2 := [(3, .int v7), (0, .ref l0), (1, .int l1), (2, .int l2), (4, .int l4)]) (pc := 26) dX12_sumOf_26 (by decide) rfl ?_
    refine y_iinc (c := 1) (pc := 27) dX12_sumOf_27 rfl (by decide) (by decide) (fun v8 ev8 => ?_)
    have hwp := hwp v8 ev8
    refine x_lvE (lv2 := [(4, .int v8), (3, .int v7), (0, .ref l0), (1, .int l1), (2, .int l2)]) rfl ?_
    refine x_goto (tgt := 5) (pc := 30) dX12_sumOf_30 (by decide) ?_
    refine x_sub [2, 3, 4, 1, 0] rfl ?_
    exact hbk5 _ hwp ⟨hx5, hn5, hz5⟩
theorem lp_X12_sumOf_5 (G : GT) (d : Nat) (h0 hb : PH) (l0 : Nat) (l1 : Int32) (l2 : Int32) (Q : Int32 → PH → Prop)  (hex : qEx h0 hb) (hnn : qn hb = qn h0 + 0) (hzz : qz hb = qz h0 + 0) (okl0 : qOK hb 11 l0) {s : Int32 × Int32 × PH} (hwp : qLoop (wp_X12_sumOf_5 l0 l1 l2 Q) s) : E_X12_sumOf_5 G d h0 hb l0 l1 l2 Q s :=
  qLoop.use (E := E_X12_sumOf_5 G d h0 hb l0 l1 l2 Q) (fun back s hbk hw hx => bd_X12_sumOf_5 G d h0 hb l0 l1 l2 Q hex hnn hzz okl0 back hbk s.1 s.2.1 s.2.2 hw hx.1 hx.2.1 hx.2.2) hwp
def wp_X12_sumOf (l0 : Nat) (l1 : Int32) (l2 : Int32) (h : PH) (Q : Int32 → PH → Prop) : Prop := (qLoop (wp_X12_sumOf_5 l0 l1 l2 Q) (0, 0, h))
set_option maxHeartbeats 4000000 in
set_option maxRecDepth 100000 in
theorem sn_X12_sumOf (G : GT) (d : Nat) (l0 : Nat) (l1 : Int32) (l2 : Int32) (h : PH) (Q : Int32 → PH → Prop) (okl0 : qOK h 11 l0) (hwp : wp_X12_sumOf l0 l1 l2 h Q) : Mt G (5 + d) 0 0 mX12_sumOf [.ref l0, .int l1, .int l2] h (qqi Q) := by
  unfold wp_X12_sumOf at hwp
  refine Mt.of (by decide) rfl (Nat.le_of_ble_eq_true rfl) ?_
  have hex := qEx.rf h
  have hnn : qn h = qn h + 0 := rfl
  have hzz : qz h = qz h + 0 := rfl
  refine x_lvE (lv2 := [(0, .ref l0), (1, .int l1), (2, .int l2)]) rfl ?_
  refine x_iconst (v := 0) (pc := 0) dX12_sumOf_0 (by decide) ?_
  refine x_istore_n (lv2 := [(3, .int 0), (0, .ref l0), (1, .int l1), (2, .int l2)]) (pc := 1) dX12_sumOf_1 (by decide) rfl ?_
  refine x_iconst (v := 0) (pc := 2) dX12_sumOf_2 (by decide) ?_
  refine x_istore (lv2 := [(4, .int 0), (3, .int 0), (0, .ref l0), (1, .int l1), (2, .int l2)]) (pc := 3) dX12_sumOf_3 (by decide) rfl ?_
  refine x_sub [2, 3, 4, 1, 0] rfl ?_
  exact lp_X12_sumOf_5 G d h h l0 l1 l2 Q hex hnn hzz okl0 hwp ⟨qEx.rf _, rfl, rfl⟩

theorem dX12_whole_0 : decode cX12_whole 0 = .ok (.aload_n 0, 1) := by decide +kernel
theorem dX12_whole_1 : decode cX12_whole 1 = .ok (.getfield 13, 3) := by decide +kernel
theorem dX12_whole_4 : decode cX12_whole 4 = .ok (.iconst 0, 1) := by decide +kernel
theorem dX12_whole_5 : decode cX12_whole 5 = .ok (.iaload, 1) := by decide +kernel
theorem dX12_whole_6 : decode cX12_whole 6 = .ok (.ineg, 1) := by decide +kernel
theorem dX12_whole_7 : decode cX12_whole 7 = .ok (.aload_n 0, 1) := by decide +kernel
theorem dX12_whole_8 : decode cX12_whole 8 = .ok (.iload_n 1, 1) := by decide +kernel
theorem dX12_whole_9 : decode cX12_whole 9 = .ok (.invokevirtual 272, 3) := by decide +kernel
theorem dX12_whole_12 : decode cX12_whole 12 = .ok (.imul, 1) := by decide +kernel
theorem dX12_whole_13 : decode cX12_whole 13 = .ok (.istore_n 2, 1) := by decide +kernel
theorem dX12_whole_14 : decode cX12_whole 14 = .ok (.iconst 0, 1) := by decide +kernel
theorem dX12_whole_15 : decode cX12_whole 15 = .ok (.istore_n 3, 1) := by decide +kernel
theorem dX12_whole_16 : decode cX12_whole 16 = .ok (.iload_n 3, 1) := by decide +kernel
theorem dX12_whole_17 : decode cX12_whole 17 = .ok (.aload_n 0, 1) := by decide +kernel
theorem dX12_whole_18 : decode cX12_whole 18 = .ok (.getfield 19, 3) := by decide +kernel
theorem dX12_whole_21 : decode cX12_whole 21 = .ok (.iconst 0, 1) := by decide +kernel
theorem dX12_whole_22 : decode cX12_whole 22 = .ok (.iaload, 1) := by decide +kernel
theorem dX12_whole_23 : decode cX12_whole 23 = .ok (.if_icmp .ge 18, 3) := by decide +kernel
theorem dX12_whole_26 : decode cX12_whole 26 = .ok (.iload_n 2, 1) := by decide +kernel
theorem dX12_whole_27 : decode cX12_whole 27 = .ok (.aload_n 0, 1) := by decide +kernel
theorem dX12_whole_28 : decode cX12_whole 28 = .ok (.iload_n 3, 1) := by decide +kernel
theorem dX12_whole_29 : decode cX12_whole 29 = .ok (.iload_n 1, 1) := by decide +kernel
theorem dX12_whole_30 : decode cX12_whole 30 = .ok (.invokevirtual 275, 3) := by decide +kernel
theorem dX12_whole_33 : decode cX12_whole 33 = .ok (.iadd, 1) := by decide +kernel
theorem dX12_whole_34 : decode cX12_whole 34 = .ok (.istore_n 2, 1) := by decide +kernel
theorem dX12_whole_35 : decode cX12_whole 35 = .ok (.iinc 3 1, 3) := by decide +kernel
theorem dX12_whole_38 : decode cX12_whole 38 = .ok (.goto (-22), 3) := by decide +kernel
theorem dX12_whole_41 : decode cX12_whole 41 = .ok (.iload_n 2, 1) := by decide +kernel
theorem dX12_whole_42 : decode cX12_whole 42 = .ok (.ireturn, 1) := by decide +kernel
def E_X12_whole_16 (G : GT) (d : Nat) (h0 hb : PH) (l0 : Nat) (l1 : Int32) (Q : Int32 → PH → Prop) (s : Int32 × Int32 × PH) : Prop := qEx hb s.2.2 ∧ qn s.2.2 = qn hb ∧ qz s.2.2 = qz hb → Ex G (qrm (6 + d) 0 0) mX12_whole (qn h0) (qz h0) (ZN G h0 0 0 (qqi Q)) 16 [(0, .ref l0), (1, .int l1), (2, .int s.1), (3, .int s.2.1)] [] s.2.2
def wb_X12_whole_16 (l0 : Nat) (l1 : Int32)  (Q : Int32 → PH → Prop) (bk16 : Int32 × Int32 × PH → Prop) (l2 : Int32) (l3 : Int32) (h : PH) : Prop := (∃ b7, qR h l0 16 = some b7 ∧ (vp_in 0 (qL h b7) ∧ (((qI h b7 (0 : Int32).toNatClampNeg) ≤ l3 → Q l2 h) ∧ (¬ ((qI h b7 (0 : Int32).toNatClampNeg) ≤ l3) → (wp_X12_sumOf l0 l3 l1 h (fun r12 h11 => ∀ v13 : Int32, v13 = l2 + r12 → ∀ v14 : Int32, v14 = l3 + 1 → bk16 (v13, v14, h11)))))))
def wp_X12_whole_16 (l0 : Nat) (l1 : Int32)  (Q : Int32 → PH → Prop) (bk16 : Int32 × Int32 × PH → Prop) (s : Int32 × Int32 × PH) : Prop := wb_X12_whole_16 l0 l1 Q bk16 s.1 s.2.1 s.2.2
set_option maxHeartbeats 4000000 in
set_option maxRecDepth 100000 in
theorem bd_X12_whole_16 (G : GT) (d : Nat) (h0 hb : PH) (l0 : Nat) (l1 : Int32) (Q : Int32 → PH → Prop)  (hex : qEx h0 hb) (hnn : qn hb = qn h0 + 0) (hzz : qz hb = qz h0 + 0) (okl0 : qOK hb 11 l0) (bk16 : Int32 × Int32 × PH → Prop) (hbk16 : ∀ s2, bk16 s2 → E_X12_whole_16 G d h0 hb l0 l1 Q s2) (l2 : Int32) (l3 : Int32) (h : PH) (hwp : wb_X12_whole_16 l0 l1 Q bk16 l2 l3 h) (hx16 : qEx hb h) (hn16 : qn h = qn hb) (hz16 : qz h = qz hb) : Ex G (qrm (6 + d) 0 0) mX12_whole (qn h0) (qz h0) (ZN G h0 0 0 (qqi Q)) 16 [(0, .ref l0), (1, .int l1), (2, .int l2), (3, .int l3)] [] h := by
  unfold wb_X12_whole_16 at hwp
  have hex := hex.tr hx16
  have hnn := hn16.trans hnn
  have hzz := hz16.trans hzz
  have okl0 := okl0.ex hx16
  refine x_iload_n (pc := 16) dX12_whole_16 rfl ?_
  refine x_aload_n (pc := 17) dX12_whole_17 rfl ?_
  obtain ⟨b7, e8, hwp⟩ := hwp
  refine x_getR (pc := 18) dX12_whole_18 qRX12_19 okl0 e8 (fun okb7 => ?_)
  refine x_iconst (v := 0) (pc := 21) dX12_whole_21 (by decide) ?_
  obtain ⟨i9, hwp⟩ := hwp
  refine x_iaload (pc := 22) dX12_whole_22 okb7 i9 ?_
  refine x_icmp_ge (tgt := 41) (pc := 23) dX12_whole_23 (by decide) (fun c10 => ?_) (fun c10 => ?_)
  · have hwp := hwp.1 c10
    refine x_iload_n (pc := 41) dX12_whole_41 rfl ?_
    exact x_iret (pc := 42) dX12_whole_42 rfl hex hnn hzz ⟨_, rfl, hwp⟩
  · have hwp := hwp.2 c10
    refine x_iload_n (pc := 26) dX12_whole_26 rfl ?_
    refine x_aload_n (pc := 27) dX12_whole_27 rfl ?_
    refine x_iload_n (pc := 28) dX12_whole_28 rfl ?_
    refine x_iload_n (pc := 29) dX12_whole_29 rfl ?_
    refine x_invV (As := [.int l3, .int l1]) (st := [.int l2]) (pc := 30) dX12_whole_30 lRX12_275 fX12_sumOf vX12_sumOf okl0 rfl (Nat.le_of_ble_eq_true rfl) (q_R (by omega) (by decide)) (q_C hnn hzz (by decide) (by decide)) (sn_X12_sumOf G (d + 0) l0 l3 l1 h _ okl0 hwp) (k_i (fun r12 h11 hwp cxh11 => ?_))
    have hex := hex.tr cxh11.1
    have hnn : qn h11 = qn h0 + 0 := by have := cxh11.2.1; omega
    have hzz : qz h11 = qz h0 + 0 := by have := cxh11.2.2; omega
    have hx16 := hx16.tr cxh11.1
    have hn16 : qn h11 = qn hb := by have := cxh11.2.1; omega
    have hz16 : qz h11 = qz hb := by have := cxh11.2.2; omega
    have okl0 := okl0.ex cxh11.1
    have okb7 := okb7.ex cxh11.1
    refine x_iadd (pc := 33) dX12_whole_33 ?_
    refine x_nmI (fun v13 ev13 => ?_)
    have hwp := hwp v13 ev13
    refine x_istore_n (lv2 := [(2, .int v13), (0, .ref l0), (1, .int l1), (3, .int l3)]) (pc := 34) dX12_whole_34 (by decide) rfl ?_
    refine y_iinc (c := 1) (pc := 35) dX12_whole_35 rfl (by decide) (by decide) (fun v14 ev14 => ?_)
    have hwp := hwp v14 ev14
    refine x_lvE (lv2 := [(3, .int v14), (2, .int v13), (0, .ref l0), (1, .int l1)]) rfl ?_
    refine x_goto (tgt := 16) (pc := 38) dX12_whole_38 (by decide) ?_
    refine x_sub [2, 3, 1, 0] rfl ?_
    exact hbk16 _ hwp ⟨hx16, hn16, hz16⟩
theorem lp_X12_whole_16 (G : GT) (d : Nat) (h0 hb : PH) (l0 : Nat) (l1 : Int32) (Q : Int32 → PH → Prop)  (hex : qEx h0 hb) (hnn : qn hb = qn h0 + 0) (hzz : qz hb = qz h0 + 0) (okl0 : qOK hb 11 l0) {s : Int32 × Int32 × PH} (hwp : qLoop (wp_X12_whole_16 l0 l1 Q) s) : E_X12_whole_16 G d h0 hb l0 l1 Q s :=
  qLoop.use (E := E_X12_whole_16 G d h0 hb l0 l1 Q) (fun back s hbk hw hx => bd_X12_whole_16 G d h0 hb l0 l1 Q hex hnn hzz okl0 back hbk s.1 s.2.1 s.2.2 hw hx.1 hx.2.1 hx.2.2) hwp
def wp_X12_whole (l0 : Nat) (l1 : Int32) (h : PH) (Q : Int32 → PH → Prop) : Prop := (∃ b1, qR h l0 14 = some b1 ∧ (vp_in 0 (qL h b1) ∧ (wp_X12_rubOf l0 l1 h (fun r5 h4 => ∀ v6 : Int32, v6 = (-(qI h b1 (0 : Int32).toNatClampNeg)) * r5 → (qLoop (wp_X12_whole_16 l0 l1 Q) (v6, 0, h4))))))
set_option maxHeartbeats 4000000 in
set_option maxRecDepth 100000 in
theorem sn_X12_whole (G : GT) (d : Nat) (l0 : Nat) (l1 : Int32) (h : PH) (Q : Int32 → PH → Prop) (okl0 : qOK h 11 l0) (hwp : wp_X12_whole l0 l1 h Q) : Mt G (6 + d) 0 0 mX12_whole [.ref l0, .int l1] h (qqi Q) := by
  unfold wp_X12_whole at hwp
  refine Mt.of (by decide) rfl (Nat.le_of_ble_eq_true rfl) ?_
  have hex := qEx.rf h
  have hnn : qn h = qn h + 0 := rfl
  have hzz : qz h = qz h + 0 := rfl
  refine x_lvE (lv2 := [(0, .ref l0), (1, .int l1)]) rfl ?_
  refine x_aload_n (pc := 0) dX12_whole_0 rfl ?_
  obtain ⟨b1, e2, hwp⟩ := hwp
  refine x_getR (pc := 1) dX12_whole_1 qRX12_13 okl0 e2 (fun okb1 => ?_)
  refine x_iconst (v := 0) (pc := 4) dX12_whole_4 (by decide) ?_
  obtain ⟨i3, hwp⟩ := hwp
  refine x_iaload (pc := 5) dX12_whole_5 okb1 i3 ?_
  refine x_ineg (pc := 6) dX12_whole_6 ?_
  refine x_aload_n (pc := 7) dX12_whole_7 rfl ?_
  refine x_iload_n (pc := 8) dX12_whole_8 rfl ?_
  refine x_invV (As := [.int l1]) (st := [.int (-(qI h b1 (0 : Int32).toNatClampNeg))]) (pc := 9) dX12_whole_9 lRX12_272 fX12_rubOf vX12_rubOf okl0 rfl (Nat.le_of_ble_eq_true rfl) (q_R (by omega) (by decide)) (q_C hnn hzz (by decide) (by decide)) (sn_X12_rubOf G (d + 5) l0 l1 h _ okl0 hwp) (k_i (fun r5 h4 hwp cxh4 => ?_))
  have hex := hex.tr cxh4.1
  have hnn : qn h4 = qn h + 0 := by have := cxh4.2.1; omega
  have hzz : qz h4 = qz h + 0 := by have := cxh4.2.2; omega
  have okl0 := okl0.ex cxh4.1
  have okb1 := okb1.ex cxh4.1
  refine x_imul (pc := 12) dX12_whole_12 ?_
  refine x_nmI (fun v6 ev6 => ?_)
  have hwp := hwp v6 ev6
  refine x_istore_n (lv2 := [(2, .int v6), (0, .ref l0), (1, .int l1)]) (pc := 13) dX12_whole_13 (by decide) rfl ?_
  refine x_iconst (v := 0) (pc := 14) dX12_whole_14 (by decide) ?_
  refine x_istore_n (lv2 := [(3, .int 0), (2, .int v6), (0, .ref l0), (1, .int l1)]) (pc := 15) dX12_whole_15 (by decide) rfl ?_
  refine x_sub [2, 3, 1, 0] rfl ?_
  exact lp_X12_whole_16 G d h h4 l0 l1 Q hex hnn hzz okl0 hwp ⟨qEx.rf _, rfl, rfl⟩

theorem dX12_sum_0 : decode cX12_sum 0 = .ok (.aload_n 0, 1) := by decide +kernel
theorem dX12_sum_1 : decode cX12_sum 1 = .ok (.invokevirtual 217, 3) := by decide +kernel
theorem dX12_sum_4 : decode cX12_sum 4 = .ok (.iload_n 1, 1) := by decide +kernel
theorem dX12_sum_5 : decode cX12_sum 5 = .ok (.iconst (-1), 1) := by decide +kernel
theorem dX12_sum_6 : decode cX12_sum 6 = .ok (.if_icmp .eq 11, 3) := by decide +kernel
theorem dX12_sum_9 : decode cX12_sum 9 = .ok (.aload_n 0, 1) := by decide +kernel
theorem dX12_sum_10 : decode cX12_sum 10 = .ok (.iload_n 1, 1) := by decide +kernel
theorem dX12_sum_11 : decode cX12_sum 11 = .ok (.invokevirtual 256, 3) := by decide +kernel
theorem dX12_sum_14 : decode cX12_sum 14 = .ok (.ifCond .eq 10, 3) := by decide +kernel
theorem dX12_sum_17 : decode cX12_sum 17 = .ok (.iload_n 2, 1) := by decide +kernel
theorem dX12_sum_18 : decode cX12_sum 18 = .ok (.invokestatic 265, 3) := by decide +kernel
theorem dX12_sum_21 : decode cX12_sum 21 = .ok (.ifCond .ne 8, 3) := by decide +kernel
theorem dX12_sum_24 : decode cX12_sum 24 = .ok (.aload_n 0, 1) := by decide +kernel
theorem dX12_sum_25 : decode cX12_sum 25 = .ok (.invokevirtual 262, 3) := by decide +kernel
theorem dX12_sum_28 : decode cX12_sum 28 = .ok (.ireturn, 1) := by decide +kernel
theorem dX12_sum_29 : decode cX12_sum 29 = .ok (.aload_n 0, 1) := by decide +kernel
theorem dX12_sum_30 : decode cX12_sum 30 = .ok (.iconst 0, 1) := by decide +kernel
theorem dX12_sum_31 : decode cX12_sum 31 = .ok (.putfield 75, 3) := by decide +kernel
theorem dX12_sum_34 : decode cX12_sum 34 = .ok (.iload_n 1, 1) := by decide +kernel
theorem dX12_sum_35 : decode cX12_sum 35 = .ok (.iconst (-1), 1) := by decide +kernel
theorem dX12_sum_36 : decode cX12_sum 36 = .ok (.if_icmp .ne 11, 3) := by decide +kernel
theorem dX12_sum_39 : decode cX12_sum 39 = .ok (.aload_n 0, 1) := by decide +kernel
theorem dX12_sum_40 : decode cX12_sum 40 = .ok (.iload_n 2, 1) := by decide +kernel
theorem dX12_sum_41 : decode cX12_sum 41 = .ok (.invokevirtual 278, 3) := by decide +kernel
theorem dX12_sum_44 : decode cX12_sum 44 = .ok (.goto 9, 3) := by decide +kernel
theorem dX12_sum_47 : decode cX12_sum 47 = .ok (.aload_n 0, 1) := by decide +kernel
theorem dX12_sum_48 : decode cX12_sum 48 = .ok (.iload_n 1, 1) := by decide +kernel
theorem dX12_sum_49 : decode cX12_sum 49 = .ok (.iload_n 2, 1) := by decide +kernel
theorem dX12_sum_50 : decode cX12_sum 50 = .ok (.invokevirtual 275, 3) := by decide +kernel
theorem dX12_sum_53 : decode cX12_sum 53 = .ok (.ireturn, 1) := by decide +kernel
def wp_X12_sum_17 (l0 : Nat) (l1 : Int32) (l2 : Int32)  (h : PH) (Q : Int32 → PH → Prop) : Prop := (wp_X12_isWorld l2 h (fun r10 h9 => ((¬ r10 = 0 → (∀ h12, h12 = qsI h9 l0 0 0 → ((¬ l1 = (-1) → (wp_X12_sumOf l0 l1 l2 h12 (fun r15 h14 => Q r15 h14))) ∧ (l1 = (-1) → (wp_X12_whole l0 l2 h12 (fun r17 h16 => Q r17 h16)))))) ∧ (r10 = 0 → (wp_X12_refuse l0 h9 (fun r19 h18 => Q r19 h18))))))
set_option maxHeartbeats 4000000 in
set_option maxRecDepth 100000 in
theorem sg_X12_sum_17 (G : GT) (d : Nat) (h0 : PH) (l0 : Nat) (l1 : Int32) (l2 : Int32) (h : PH) (Q : Int32 → PH → Prop) (hex : qEx h0 h) (hnn : qn h = qn h0 + 0) (hzz : qz h = qz h0 + 0) (okl0 : qOK h 11 l0) (hwp : wp_X12_sum_17 l0 l1 l2 h Q) : Ex G (qrm (7 + d) 0 0) mX12_sum (qn h0) (qz h0) (ZN G h0 0 0 (qqi Q)) 17 [(0, .ref l0), (1, .int l1), (2, .int l2)] [] h := by
  unfold wp_X12_sum_17 at hwp
  refine x_iload_n (pc := 17) dX12_sum_17 rfl ?_
  refine x_invS (As := [.int l2]) (st := []) (pc := 18) dX12_sum_18 lRX12_265 fX12_isWorld sX12_isWorld rfl (Nat.le_of_ble_eq_true rfl) (q_R (by omega) (by decide)) (q_C hnn hzz (by decide) (by decide)) (sn_X12_isWorld G (d + 6) l2 h _  hwp) (k_b (fun r10 h9 hwp zbr10 cxh9 => ?_))
  have hex := hex.tr cxh9.1
  have hnn : qn h9 = qn h0 + 0 := by have := cxh9.2.1; omega
  have hzz : qz h9 = qz h0 + 0 := by have := cxh9.2.2; omega
  have okl0 := okl0.ex cxh9.1
  refine x_if_ne (tgt := 29) (pc := 21) dX12_sum_21 (by decide) (fun c11 => ?_) (fun c11 => ?_)
  · have hwp := hwp.1 c11
    refine x_aload_n (pc := 29) dX12_sum_29 rfl ?_
    refine x_iconst (v := 0) (pc := 30) dX12_sum_30 (by decide) ?_
    refine y_putI (pc := 31) dX12_sum_31 qRX12_75 okl0 (fun h12 eh12 nxh12 => ?_)
    have hwp := hwp h12 eh12
    have hex := hex.tr nxh12.1
    have hnn := nxh12.2.1.trans hnn
    have hzz := nxh12.2.2.trans hzz
    have okl0 := okl0.ex nxh12.1
    refine x_iload_n (pc := 34) dX12_sum_34 rfl ?_
    refine x_iconst (v := (-1)) (pc := 35) dX12_sum_35 (by decide) ?_
    refine x_icmp_ne (tgt := 47) (pc := 36) dX12_sum_36 (by decide) (fun c13 => ?_) (fun c13 => ?_)
    · have hwp := hwp.1 c13
      refine x_aload_n (pc := 47) dX12_sum_47 rfl ?_
      refine x_iload_n (pc := 48) dX12_sum_48 rfl ?_
      refine x_iload_n (pc := 49) dX12_sum_49 rfl ?_
      refine x_invV (As := [.int l1, .int l2]) (st := []) (pc := 50) dX12_sum_50 lRX12_275 fX12_sumOf vX12_sumOf okl0 rfl (Nat.le_of_ble_eq_true rfl) (q_R (by omega) (by decide)) (q_C hnn hzz (by decide) (by decide)) (sn_X12_sumOf G (d + 1) l0 l1 l2 h12 _ okl0 hwp) (k_i (fun r15 h14 hwp cxh14 => ?_))
      have hex := hex.tr cxh14.1
      have hnn : qn h14 = qn h0 + 0 := by have := cxh14.2.1; omega
      have hzz : qz h14 = qz h0 + 0 := by have := cxh14.2.2; omega
      have okl0 := okl0.ex cxh14.1
      exact x_iret (pc := 53) dX12_sum_53 rfl hex hnn hzz ⟨_, rfl, hwp⟩
    · have hwp := hwp.2 c13
      refine x_aload_n (pc := 39) dX12_sum_39 rfl ?_
      refine x_iload_n (pc := 40) dX12_sum_40 rfl ?_
      refine x_invV (As := [.int l2]) (st := []) (pc := 41) dX12_sum_41 lRX12_278 fX12_whole vX12_whole okl0 rfl (Nat.le_of_ble_eq_true rfl) (q_R (by omega) (by decide)) (q_C hnn hzz (by decide) (by decide)) (sn_X12_whole G (d + 0) l0 l2 h12 _ okl0 hwp) (k_i (fun r17 h16 hwp cxh16 => ?_))
      have hex := hex.tr cxh16.1
      have hnn : qn h16 = qn h0 + 0 := by have := cxh16.2.1; omega
      have hzz : qz h16 = qz h0 + 0 := by have := cxh16.2.2; omega
      have okl0 := okl0.ex cxh16.1
      refine x_goto (tgt := 53) (pc := 44) dX12_sum_44 (by decide) ?_
      exact x_iret (pc := 53) dX12_sum_53 rfl hex hnn hzz ⟨_, rfl, hwp⟩
  · have hwp := hwp.2 c11
    refine x_aload_n (pc := 24) dX12_sum_24 rfl ?_
    refine x_invV (As := []) (st := []) (pc := 25) dX12_sum_25 lRX12_262 fX12_refuse vX12_refuse okl0 rfl (Nat.le_of_ble_eq_true rfl) (q_R (by omega) (by decide)) (q_C hnn hzz (by decide) (by decide)) (sn_X12_refuse G (d + 6) l0 h9 _ okl0 hwp) (k_i (fun r19 h18 hwp cxh18 => ?_))
    have hex := hex.tr cxh18.1
    have hnn : qn h18 = qn h0 + 0 := by have := cxh18.2.1; omega
    have hzz : qz h18 = qz h0 + 0 := by have := cxh18.2.2; omega
    have okl0 := okl0.ex cxh18.1
    exact x_iret (pc := 28) dX12_sum_28 rfl hex hnn hzz ⟨_, rfl, hwp⟩
def wp_X12_sum (l0 : Nat) (l1 : Int32) (l2 : Int32) (h : PH) (Q : Int32 → PH → Prop) : Prop := (wp_X12_lay l0 h (fun h1 => ((l1 = (-1) → (wp_X12_sum_17 l0 l1 l2 h1 Q)) ∧ (¬ (l1 = (-1)) → (wp_X12_isPart l0 l1 h1 (fun r5 h4 => ((r5 = 0 → (wp_X12_refuse l0 h4 (fun r8 h7 => Q r8 h7))) ∧ (¬ (r5 = 0) → (wp_X12_sum_17 l0 l1 l2 h4 Q)))))))))
set_option maxHeartbeats 4000000 in
set_option maxRecDepth 100000 in
theorem sn_X12_sum (G : GT) (d : Nat) (l0 : Nat) (l1 : Int32) (l2 : Int32) (h : PH) (Q : Int32 → PH → Prop) (okl0 : qOK h 11 l0) (hwp : wp_X12_sum l0 l1 l2 h Q) : Mt G (7 + d) 0 0 mX12_sum [.ref l0, .int l1, .int l2] h (qqi Q) := by
  unfold wp_X12_sum at hwp
  refine Mt.of (by decide) rfl (Nat.le_of_ble_eq_true rfl) ?_
  have hex := qEx.rf h
  have hnn : qn h = qn h + 0 := rfl
  have hzz : qz h = qz h + 0 := rfl
  refine x_lvE (lv2 := [(0, .ref l0), (1, .int l1), (2, .int l2)]) rfl ?_
  refine x_aload_n (pc := 0) dX12_sum_0 rfl ?_
  refine x_invV (As := []) (st := []) (pc := 1) dX12_sum_1 lRX12_217 fX12_lay vX12_lay okl0 rfl (Nat.le_of_ble_eq_true rfl) (q_R (by omega) (by decide)) (q_C hnn hzz (by decide) (by decide)) (sn_X12_lay G (d + 6) l0 h _ okl0 hwp) (k_v (fun h1 hwp cxh1 => ?_))
  have hex := hex.tr cxh1.1
  have hnn : qn h1 = qn h + 0 := by have := cxh1.2.1; omega
  have hzz : qz h1 = qz h + 0 := by have := cxh1.2.2; omega
  have okl0 := okl0.ex cxh1.1
  refine x_iload_n (pc := 4) dX12_sum_4 rfl ?_
  refine x_iconst (v := (-1)) (pc := 5) dX12_sum_5 (by decide) ?_
  refine x_icmp_eq (tgt := 17) (pc := 6) dX12_sum_6 (by decide) (fun c3 => ?_) (fun c3 => ?_)
  · have hwp := hwp.1 c3
    refine x_sub [0, 1, 2] rfl ?_
    exact sg_X12_sum_17 G d h l0 l1 l2 h1 Q hex hnn hzz okl0 hwp
  · have hwp := hwp.2 c3
    refine x_aload_n (pc := 9) dX12_sum_9 rfl ?_
    refine x_iload_n (pc := 10) dX12_sum_10 rfl ?_
    refine x_invV (As := [.int l1]) (st := []) (pc := 11) dX12_sum_11 lRX12_256 fX12_isPart vX12_isPart okl0 rfl (Nat.le_of_ble_eq_true rfl) (q_R (by omega) (by decide)) (q_C hnn hzz (by decide) (by decide)) (sn_X12_isPart G (d + 6) l0 l1 h1 _ okl0 hwp) (k_b (fun r5 h4 hwp zbr5 cxh4 => ?_))
    have hex := hex.tr cxh4.1
    have hnn : qn h4 = qn h + 0 := by have := cxh4.2.1; omega
    have hzz : qz h4 = qz h + 0 := by have := cxh4.2.2; omega
    have okl0 := okl0.ex cxh4.1
    refine x_if_eq (tgt := 24) (pc := 14) dX12_sum_14 (by decide) (fun c6 => ?_) (fun c6 => ?_)
    · have hwp := hwp.1 c6
      refine x_aload_n (pc := 24) dX12_sum_24 rfl ?_
      refine x_invV (As := []) (st := []) (pc := 25) dX12_sum_25 lRX12_262 fX12_refuse vX12_refuse okl0 rfl (Nat.le_of_ble_eq_true rfl) (q_R (by omega) (by decide)) (q_C hnn hzz (by decide) (by decide)) (sn_X12_refuse G (d + 6) l0 h4 _ okl0 hwp) (k_i (fun r8 h7 hwp cxh7 => ?_))
      have hex := hex.tr cxh7.1
      have hnn : qn h7 = qn h + 0 := by have := cxh7.2.1; omega
      have hzz : qz h7 = qz h + 0 := by have := cxh7.2.2; omega
      have okl0 := okl0.ex cxh7.1
      exact x_iret (pc := 28) dX12_sum_28 rfl hex hnn hzz ⟨_, rfl, hwp⟩
    · have hwp := hwp.2 c6
      refine x_sub [0, 1, 2] rfl ?_
      exact sg_X12_sum_17 G d h l0 l1 l2 h4 Q hex hnn hzz okl0 hwp

theorem dX12_layWorld_0 : decode cX12_layWorld 0 = .ok (.aload_n 0, 1) := by decide +kernel
theorem dX12_layWorld_1 : decode cX12_layWorld 1 = .ok (.invokevirtual 217, 3) := by decide +kernel
theorem dX12_layWorld_4 : decode cX12_layWorld 4 = .ok (.iconst 0, 1) := by decide +kernel
theorem dX12_layWorld_5 : decode cX12_layWorld 5 = .ok (.istore_n 2, 1) := by decide +kernel
theorem dX12_layWorld_6 : decode cX12_layWorld 6 = .ok (.iload_n 2, 1) := by decide +kernel
theorem dX12_layWorld_7 : decode cX12_layWorld 7 = .ok (.aload_n 0, 1) := by decide +kernel
theorem dX12_layWorld_8 : decode cX12_layWorld 8 = .ok (.getfield 13, 3) := by decide +kernel
theorem dX12_layWorld_11 : decode cX12_layWorld 11 = .ok (.iconst 0, 1) := by decide +kernel
theorem dX12_layWorld_12 : decode cX12_layWorld 12 = .ok (.iaload, 1) := by decide +kernel
theorem dX12_layWorld_13 : decode cX12_layWorld 13 = .ok (.if_icmp .ge 98, 3) := by decide +kernel
theorem dX12_layWorld_16 : decode cX12_layWorld 16 = .ok (.aload_n 0, 1) := by decide +kernel
theorem dX12_layWorld_17 : decode cX12_layWorld 17 = .ok (.getfield 33, 3) := by decide +kernel
theorem dX12_layWorld_20 : decode cX12_layWorld 20 = .ok (.iload_n 2, 1) := by decide +kernel
theorem dX12_layWorld_21 : decode cX12_layWorld 21 = .ok (.aload_n 0, 1) := by decide +kernel
theorem dX12_layWorld_22 : decode cX12_layWorld 22 = .ok (.iload_n 1, 1) := by decide +kernel
theorem dX12_layWorld_23 : decode cX12_layWorld 23 = .ok (.invokevirtual 272, 3) := by decide +kernel
theorem dX12_layWorld_26 : decode cX12_layWorld 26 = .ok (.ineg, 1) := by decide +kernel
theorem dX12_layWorld_27 : decode cX12_layWorld 27 = .ok (.iastore, 1) := by decide +kernel
theorem dX12_layWorld_28 : decode cX12_layWorld 28 = .ok (.aload_n 0, 1) := by decide +kernel
theorem dX12_layWorld_29 : decode cX12_layWorld 29 = .ok (.getfield 36, 3) := by decide +kernel
theorem dX12_layWorld_32 : decode cX12_layWorld 32 = .ok (.iload_n 2, 1) := by decide +kernel
theorem dX12_layWorld_33 : decode cX12_layWorld 33 = .ok (.aload_n 0, 1) := by decide +kernel
theorem dX12_layWorld_34 : decode cX12_layWorld 34 = .ok (.iload_n 1, 1) := by decide +kernel
theorem dX12_layWorld_35 : decode cX12_layWorld 35 = .ok (.invokevirtual 272, 3) := by decide +kernel
theorem dX12_layWorld_38 : decode cX12_layWorld 38 = .ok (.ineg, 1) := by decide +kernel
theorem dX12_layWorld_39 : decode cX12_layWorld 39 = .ok (.iastore, 1) := by decide +kernel
theorem dX12_layWorld_40 : decode cX12_layWorld 40 = .ok (.iconst 0, 1) := by decide +kernel
theorem dX12_layWorld_41 : decode cX12_layWorld 41 = .ok (.istore_n 3, 1) := by decide +kernel
theorem dX12_layWorld_42 : decode cX12_layWorld 42 = .ok (.iload_n 3, 1) := by decide +kernel
theorem dX12_layWorld_43 : decode cX12_layWorld 43 = .ok (.aload_n 0, 1) := by decide +kernel
theorem dX12_layWorld_44 : decode cX12_layWorld 44 = .ok (.getfield 19, 3) := by decide +kernel
theorem dX12_layWorld_47 : decode cX12_layWorld 47 = .ok (.iconst 0, 1) := by decide +kernel
theorem dX12_layWorld_48 : decode cX12_layWorld 48 = .ok (.iaload, 1) := by decide +kernel
theorem dX12_layWorld_49 : decode cX12_layWorld 49 = .ok (.if_icmp .ge 56, 3) := by decide +kernel
theorem dX12_layWorld_52 : decode cX12_layWorld 52 = .ok (.aload_n 0, 1) := by decide +kernel
theorem dX12_layWorld_53 : decode cX12_layWorld 53 = .ok (.iload_n 3, 1) := by decide +kernel
theorem dX12_layWorld_54 : decode cX12_layWorld 54 = .ok (.iload_n 2, 1) := by decide +kernel
theorem dX12_layWorld_55 : decode cX12_layWorld 55 = .ok (.iload_n 1, 1) := by decide +kernel
theorem dX12_layWorld_56 : decode cX12_layWorld 56 = .ok (.invokevirtual 268, 3) := by decide +kernel
theorem dX12_layWorld_59 : decode cX12_layWorld 59 = .ok (.istore 4, 2) := by decide +kernel
theorem dX12_layWorld_61 : decode cX12_layWorld 61 = .ok (.aload_n 0, 1) := by decide +kernel
theorem dX12_layWorld_62 : decode cX12_layWorld 62 = .ok (.getfield 33, 3) := by decide +kernel
theorem dX12_layWorld_65 : decode cX12_layWorld 65 = .ok (.iload_n 2, 1) := by decide +kernel
theorem dX12_layWorld_66 : decode cX12_layWorld 66 = .ok (.dup2, 1) := by decide +kernel
theorem dX12_layWorld_67 : decode cX12_layWorld 67 = .ok (.iaload, 1) := by decide +kernel
theorem dX12_layWorld_68 : decode cX12_layWorld 68 = .ok (.iload 4, 2) := by decide +kernel
theorem dX12_layWorld_70 : decode cX12_layWorld 70 = .ok (.iadd, 1) := by decide +kernel
theorem dX12_layWorld_71 : decode cX12_layWorld 71 = .ok (.iastore, 1) := by decide +kernel
theorem dX12_layWorld_72 : decode cX12_layWorld 72 = .ok (.aload_n 0, 1) := by decide +kernel
theorem dX12_layWorld_73 : decode cX12_layWorld 73 = .ok (.getfield 22, 3) := by decide +kernel
theorem dX12_layWorld_76 : decode cX12_layWorld 76 = .ok (.iconst 0, 1) := by decide +kernel
theorem dX12_layWorld_77 : decode cX12_layWorld 77 = .ok (.iload_n 3, 1) := by decide +kernel
theorem dX12_layWorld_78 : decode cX12_layWorld 78 = .ok (.invokestatic 194, 3) := by decide +kernel
theorem dX12_layWorld_81 : decode cX12_layWorld 81 = .ok (.iconst 0, 1) := by decide +kernel
theorem dX12_layWorld_82 : decode cX12_layWorld 82 = .ok (.iadd, 1) := by decide +kernel
theorem dX12_layWorld_83 : decode cX12_layWorld 83 = .ok (.iaload, 1) := by decide +kernel
theorem dX12_layWorld_84 : decode cX12_layWorld 84 = .ok (.iconst 4, 1) := by decide +kernel
theorem dX12_layWorld_85 : decode cX12_layWorld 85 = .ok (.if_icmp .eq 14, 3) := by decide +kernel
theorem dX12_layWorld_88 : decode cX12_layWorld 88 = .ok (.aload_n 0, 1) := by decide +kernel
theorem dX12_layWorld_89 : decode cX12_layWorld 89 = .ok (.getfield 36, 3) := by decide +kernel
theorem dX12_layWorld_92 : decode cX12_layWorld 92 = .ok (.iload_n 2, 1) := by decide +kernel
theorem dX12_layWorld_93 : decode cX12_layWorld 93 = .ok (.dup2, 1) := by decide +kernel
theorem dX12_layWorld_94 : decode cX12_layWorld 94 = .ok (.iaload, 1) := by decide +kernel
theorem dX12_layWorld_95 : decode cX12_layWorld 95 = .ok (.iload 4, 2) := by decide +kernel
theorem dX12_layWorld_97 : decode cX12_layWorld 97 = .ok (.isub, 1) := by decide +kernel
theorem dX12_layWorld_98 : decode cX12_layWorld 98 = .ok (.iastore, 1) := by decide +kernel
theorem dX12_layWorld_99 : decode cX12_layWorld 99 = .ok (.iinc 3 1, 3) := by decide +kernel
theorem dX12_layWorld_102 : decode cX12_layWorld 102 = .ok (.goto (-60), 3) := by decide +kernel
theorem dX12_layWorld_105 : decode cX12_layWorld 105 = .ok (.iinc 2 1, 3) := by decide +kernel
theorem dX12_layWorld_108 : decode cX12_layWorld 108 = .ok (.goto (-102), 3) := by decide +kernel
theorem dX12_layWorld_111 : decode cX12_layWorld 111 = .ok (.return_, 1) := by decide +kernel
def E_X12_layWorld_6 (G : GT) (d : Nat) (h0 hb : PH) (l0 : Nat) (l1 : Int32) (Q : PH → Prop) (s : Int32 × PH) : Prop := qEx hb s.2 ∧ qn s.2 = qn hb ∧ qz s.2 = qz hb → Ex G (qrm (5 + d) 0 0) mX12_layWorld (qn h0) (qz h0) (ZN G h0 0 0 (qqv Q)) 6 [(0, .ref l0), (1, .int l1), (2, .int s.1)] [] s.2
def E_X12_layWorld_42 (G : GT) (d : Nat) (h0 hb : PH) (l0 : Nat) (l1 : Int32) (l2 : Int32) (Q : PH → Prop) (s : Int32 × PH) : Prop := qEx hb s.2 ∧ qn s.2 = qn hb ∧ qz s.2 = qz hb → Ex G (qrm (5 + d) 0 0) mX12_layWorld (qn h0) (qz h0) (ZN G h0 0 0 (qqv Q)) 42 [(0, .ref l0), (1, .int l1), (2, .int l2), (3, .int s.1)] [] s.2
def wb_X12_layWorld_42 (l0 : Nat) (l1 : Int32) (l2 : Int32) (bk6 : Int32 × PH → Prop) (Q : PH → Prop) (bk42 : Int32 × PH → Prop) (l3 : Int32) (h : PH) : Prop := (∃ b19, qR h l0 16 = some b19 ∧ (vp_in 0 (qL h b19) ∧ (((qI h b19 (0 : Int32).toNatClampNeg) ≤ l3 → ∀ v23 : Int32, v23 = l2 + 1 → bk6 (v23, h)) ∧ (¬ ((qI h b19 (0 : Int32).toNatClampNeg) ≤ l3) → (wp_X12_givesOf l0 l3 l2 l1 h (fun r25 h24 => (∃ b26, qR h24 l0 21 = some b26 ∧ (vp_in l2 (qL h24 b26) ∧ (vp_in l2 (qL h24 b26) ∧ ∀ h29, h29 = qsI h24 b26 l2.toNatClampNeg ((qI h24 b26 l2.toNatClampNeg) + r25) → (∃ b31, qR h29 l0 17 = some b31 ∧ (wp_X12_slot 0 l3 h29 (fun r34 h33 => (vp_in (r34 + 0) (qL h33 b31) ∧ (((qI h33 b31 (r34 + 0).toNatClampNeg) = 4 → ∀ v37 : Int32, v37 = l3 + 1 → bk42 (v37, h33)) ∧ (¬ ((qI h33 b31 (r34 + 0).toNatClampNeg) = 4) → (∃ b38, qR h33 l0 22 = some b38 ∧ (vp_in l2 (qL h33 b38) ∧ (vp_in l2 (qL h33 b38) ∧ ∀ h41, h41 = qsI h33 b38 l2.toNatClampNeg ((qI h33 b38 l2.toNatClampNeg) - r25) → ∀ v43 : Int32, v43 = l3 + 1 → bk42 (v43, h41)))))))))))))))))))
def wp_X12_layWorld_42 (l0 : Nat) (l1 : Int32) (l2 : Int32) (bk6 : Int32 × PH → Prop) (Q : PH → Prop) (bk42 : Int32 × PH → Prop) (s : Int32 × PH) : Prop := wb_X12_layWorld_42 l0 l1 l2 bk6 Q bk42 s.1 s.2
set_option maxHeartbeats 4000000 in
set_option maxRecDepth 100000 in
theorem bd_X12_layWorld_42 (G : GT) (d : Nat) (h0 hb : PH) (l0 : Nat) (l1 : Int32) (l2 : Int32) (Q : PH → Prop) (hb6 : PH) (bk6 : Int32 × PH → Prop) (hbk6 : ∀ s2, bk6 s2 → E_X12_layWorld_6 G d h0 hb6 l0 l1 Q s2) (hx6 : qEx hb6 hb) (hn6 : qn hb = qn hb6) (hz6 : qz hb = qz hb6) (hex : qEx h0 hb) (hnn : qn hb = qn h0 + 0) (hzz : qz hb = qz h0 + 0) (okl0 : qOK hb 11 l0) (bk42 : Int32 × PH → Prop) (hbk42 : ∀ s2, bk42 s2 → E_X12_layWorld_42 G d h0 hb l0 l1 l2 Q s2) (l3 : Int32) (h : PH) (hwp : wb_X12_layWorld_42 l0 l1 l2 bk6 Q bk42 l3 h) (hx42 : qEx hb h) (hn42 : qn h = qn hb) (hz42 : qz h = qz hb) : Ex G (qrm (5 + d) 0 0) mX12_layWorld (qn h0) (qz h0) (ZN G h0 0 0 (qqv Q)) 42 [(0, .ref l0), (1, .int l1), (2, .int l2), (3, .int l3)] [] h := by
  unfold wb_X12_layWorld_42 at hwp
  have hex := hex.tr hx42
  have hnn := hn42.trans hnn
  have hzz := hz42.trans hzz
  have hx6 := hx6.tr hx42
  have hn6 := hn42.trans hn6
  have hz6 := hz42.trans hz6
  have okl0 := okl0.ex hx42
  refine x_iload_n (pc := 42) dX12_layWorld_42 rfl ?_
  refine x_aload_n (pc := 43) dX12_layWorld_43 rfl ?_
  obtain ⟨b19, e20, hwp⟩ := hwp
  refine x_getR (pc := 44) dX12_layWorld_44 qRX12_19 okl0 e20 (fun okb19 => ?_)
  refine x_iconst (v := 0) (pc := 47) dX12_layWorld_47 (by decide) ?_
  obtain ⟨i21, hwp⟩ := hwp
  refine x_iaload (pc := 48) dX12_layWorld_48 okb19 i21 ?_
  refine x_icmp_ge (tgt := 105) (pc := 49) dX12_layWorld_49 (by decide) (fun c22 => ?_) (fun c22 => ?_)
  · have hwp := hwp.1 c22
    refine y_iinc (c := 1) (pc := 105) dX12_layWorld_105 rfl (by decide) (by decide) (fun v23 ev23 => ?_)
    have hwp := hwp v23 ev23
    refine x_lvE (lv2 := [(2, .int v23), (0, .ref l0), (1, .int l1), (3, .int l3)]) rfl ?_
    refine x_goto (tgt := 6) (pc := 108) dX12_layWorld_108 (by decide) ?_
    refine x_sub [1, 2, 0] rfl ?_
    exact hbk6 _ hwp ⟨hx6, hn6, hz6⟩
  · have hwp := hwp.2 c22
    refine x_aload_n (pc := 52) dX12_layWorld_52 rfl ?_
    refine x_iload_n (pc := 53) dX12_layWorld_53 rfl ?_
    refine x_iload_n (pc := 54) dX12_layWorld_54 rfl ?_
    refine x_iload_n (pc := 55) dX12_layWorld_55 rfl ?_
    refine x_invV (As := [.int l3, .int l2, .int l1]) (st := []) (pc := 56) dX12_layWorld_56 lRX12_268 fX12_givesOf vX12_givesOf okl0 rfl (Nat.le_of_ble_eq_true rfl) (q_R (by omega) (by decide)) (q_C hnn hzz (by decide) (by decide)) (sn_X12_givesOf G (d + 0) l0 l3 l2 l1 h _ okl0 hwp) (k_i (fun r25 h24 hwp cxh24 => ?_))
    have hex := hex.tr cxh24.1
    have hnn : qn h24 = qn h0 + 0 := by have := cxh24.2.1; omega
    have hzz : qz h24 = qz h0 + 0 := by have := cxh24.2.2; omega
    have hx6 := hx6.tr cxh24.1
    have hn6 : qn h24 = qn hb6 := by have := cxh24.2.1; omega
    have hz6 : qz h24 = qz hb6 := by have := cxh24.2.2; omega
    have hx42 := hx42.tr cxh24.1
    have hn42 : qn h24 = qn hb := by have := cxh24.2.1; omega
    have hz42 : qz h24 = qz hb := by have := cxh24.2.2; omega
    have okl0 := okl0.ex cxh24.1
    have okb19 := okb19.ex cxh24.1
    refine x_istore (lv2 := [(4, .int r25), (0, .ref l0), (1, .int l1), (2, .int l2), (3, .int l3)]) (pc := 59) dX12_layWorld_59 (by decide) rfl ?_
    refine x_aload_n (pc := 61) dX12_layWorld_61 rfl ?_
    obtain ⟨b26, e27, hwp⟩ := hwp
    refine x_getR (pc := 62) dX12_layWorld_62 qRX12_33 okl0 e27 (fun okb26 => ?_)
    refine x_iload_n (pc := 65) dX12_layWorld_65 rfl ?_
    refine x_dup2 (pc := 66) dX12_layWorld_66 rfl rfl ?_
    obtain ⟨i28, hwp⟩ := hwp
    refine x_iaload (pc := 67) dX12_layWorld_67 okb26 i28 ?_
    refine x_iload (pc := 68) dX12_layWorld_68 rfl ?_
    refine x_iadd (pc := 70) dX12_layWorld_70 ?_
    obtain ⟨i30, hwp⟩ := hwp
    refine y_iastore (pc := 71) dX12_layWorld_71 okb26 i30 (fun h29 eh29 nxh29 => ?_)
    have hwp := hwp h29 eh29
    have hex := hex.tr nxh29.1
    have hnn := nxh29.2.1.trans hnn
    have hzz := nxh29.2.2.trans hzz
    have hx6 := hx6.tr nxh29.1
    have hn6 := nxh29.2.1.trans hn6
    have hz6 := nxh29.2.2.trans hz6
    have hx42 := hx42.tr nxh29.1
    have hn42 := nxh29.2.1.trans hn42
    have hz42 := nxh29.2.2.trans hz42
    have okl0 := okl0.ex nxh29.1
    have okb19 := okb19.ex nxh29.1
    have okb26 := okb26.ex nxh29.1
    refine x_aload_n (pc := 72) dX12_layWorld_72 rfl ?_
    obtain ⟨b31, e32, hwp⟩ := hwp
    refine x_getR (pc := 73) dX12_layWorld_73 qRX12_22 okl0 e32 (fun okb31 => ?_)
    refine x_iconst (v := 0) (pc := 76) dX12_layWorld_76 (by decide) ?_
    refine x_iload_n (pc := 77) dX12_layWorld_77 rfl ?_
    refine x_invS (As := [.int 0, .int l3]) (st := [.ref b31]) (pc := 78) dX12_layWorld_78 lRX12_194 fX12_slot sX12_slot rfl (Nat.le_of_ble_eq_true rfl) (q_R (by omega) (by decide)) (q_C hnn hzz (by decide) (by decide)) (sn_X12_slot G (d + 4) 0 l3 h29 _  hwp) (k_i (fun r34 h33 hwp cxh33 => ?_))
    have hex := hex.tr cxh33.1
    have hnn : qn h33 = qn h0 + 0 := by have := cxh33.2.1; omega
    have hzz : qz h33 = qz h0 + 0 := by have := cxh33.2.2; omega
    have hx6 := hx6.tr cxh33.1
    have hn6 : qn h33 = qn hb6 := by have := cxh33.2.1; omega
    have hz6 : qz h33 = qz hb6 := by have := cxh33.2.2; omega
    have hx42 := hx42.tr cxh33.1
    have hn42 : qn h33 = qn hb := by have := cxh33.2.1; omega
    have hz42 : qz h33 = qz hb := by have := cxh33.2.2; omega
    have okl0 := okl0.ex cxh33.1
    have okb19 := okb19.ex cxh33.1
    have okb26 := okb26.ex cxh33.1
    have okb31 := okb31.ex cxh33.1
    refine x_iconst (v := 0) (pc := 81) dX12_layWorld_81 (by decide) ?_
    refine x_iadd (pc := 82) dX12_layWorld_82 ?_
    obtain ⟨i35, hwp⟩ := hwp
    refine x_iaload (pc := 83) dX12_layWorld_83 okb31 i35 ?_
    refine x_iconst (v := 4) (pc := 84) dX12_layWorld_84 (by decide) ?_
    refine x_icmp_eq (tgt := 99) (pc := 85) dX12_layWorld_85 (by decide) (fun c36 => ?_) (fun c36 => ?_)
    · have hwp := hwp.1 c36
      refine y_iinc (c := 1) (pc := 99) dX12_layWorld_99 rfl (by decide) (by decide) (fun v37 ev37 => ?_)
      have hwp := hwp v37 ev37
      refine x_lvE (lv2 := [(3, .int v37), (4, .int r25), (0, .ref l0), (1, .int l1), (2, .int l2)]) rfl ?_
      refine x_goto (tgt := 42) (pc := 102) dX12_layWorld_102 (by decide) ?_
      refine x_sub [2, 3, 4, 0] rfl ?_
      exact hbk42 _ hwp ⟨hx42, hn42, hz42⟩
    · have hwp := hwp.2 c36
      refine x_aload_n (pc := 88) dX12_layWorld_88 rfl ?_
      obtain ⟨b38, e39, hwp⟩ := hwp
      refine x_getR (pc := 89) dX12_layWorld_89 qRX12_36 okl0 e39 (fun okb38 => ?_)
      refine x_iload_n (pc := 92) dX12_layWorld_92 rfl ?_
      refine x_dup2 (pc := 93) dX12_layWorld_93 rfl rfl ?_
      obtain ⟨i40, hwp⟩ := hwp
      refine x_iaload (pc := 94) dX12_layWorld_94 okb38 i40 ?_
      refine x_iload (pc := 95) dX12_layWorld_95 rfl ?_
      refine x_isub (pc := 97) dX12_layWorld_97 ?_
      obtain ⟨i42, hwp⟩ := hwp
      refine y_iastore (pc := 98) dX12_layWorld_98 okb38 i42 (fun h41 eh41 nxh41 => ?_)
      have hwp := hwp h41 eh41
      have hex := hex.tr nxh41.1
      have hnn := nxh41.2.1.trans hnn
      have hzz := nxh41.2.2.trans hzz
      have hx6 := hx6.tr nxh41.1
      have hn6 := nxh41.2.1.trans hn6
      have hz6 := nxh41.2.2.trans hz6
      have hx42 := hx42.tr nxh41.1
      have hn42 := nxh41.2.1.trans hn42
      have hz42 := nxh41.2.2.trans hz42
      have okl0 := okl0.ex nxh41.1
      have okb19 := okb19.ex nxh41.1
      have okb26 := okb26.ex nxh41.1
      have okb31 := okb31.ex nxh41.1
      have okb38 := okb38.ex nxh41.1
      refine y_iinc (c := 1) (pc := 99) dX12_layWorld_99 rfl (by decide) (by decide) (fun v43 ev43 => ?_)
      have hwp := hwp v43 ev43
      refine x_lvE (lv2 := [(3, .int v43), (4, .int r25), (0, .ref l0), (1, .int l1), (2, .int l2)]) rfl ?_
      refine x_goto (tgt := 42) (pc := 102) dX12_layWorld_102 (by decide) ?_
      refine x_sub [2, 3, 4, 0] rfl ?_
      exact hbk42 _ hwp ⟨hx42, hn42, hz42⟩
theorem lp_X12_layWorld_42 (G : GT) (d : Nat) (h0 hb : PH) (l0 : Nat) (l1 : Int32) (l2 : Int32) (Q : PH → Prop) (hb6 : PH) (bk6 : Int32 × PH → Prop) (hbk6 : ∀ s2, bk6 s2 → E_X12_layWorld_6 G d h0 hb6 l0 l1 Q s2) (hx6 : qEx hb6 hb) (hn6 : qn hb = qn hb6) (hz6 : qz hb = qz hb6) (hex : qEx h0 hb) (hnn : qn hb = qn h0 + 0) (hzz : qz hb = qz h0 + 0) (okl0 : qOK hb 11 l0) {s : Int32 × PH} (hwp : qLoop (wp_X12_layWorld_42 l0 l1 l2 bk6 Q) s) : E_X12_layWorld_42 G d h0 hb l0 l1 l2 Q s :=
  qLoop.use (E := E_X12_layWorld_42 G d h0 hb l0 l1 l2 Q) (fun back s hbk hw hx => bd_X12_layWorld_42 G d h0 hb l0 l1 l2 Q hb6 bk6 hbk6 hx6 hn6 hz6 hex hnn hzz okl0 back hbk s.1 s.2 hw hx.1 hx.2.1 hx.2.2) hwp
def wb_X12_layWorld_6 (l0 : Nat) (l1 : Int32)  (Q : PH → Prop) (bk6 : Int32 × PH → Prop) (l2 : Int32) (h : PH) : Prop := (∃ b3, qR h l0 14 = some b3 ∧ (vp_in 0 (qL h b3) ∧ (((qI h b3 (0 : Int32).toNatClampNeg) ≤ l2 → Q h) ∧ (¬ ((qI h b3 (0 : Int32).toNatClampNeg) ≤ l2) → (∃ b7, qR h l0 21 = some b7 ∧ (wp_X12_rubOf l0 l1 h (fun r10 h9 => (vp_in l2 (qL h9 b7) ∧ ∀ h11, h11 = qsI h9 b7 l2.toNatClampNeg (-r10) → (∃ b13, qR h11 l0 22 = some b13 ∧ (wp_X12_rubOf l0 l1 h11 (fun r16 h15 => (vp_in l2 (qL h15 b13) ∧ ∀ h17, h17 = qsI h15 b13 l2.toNatClampNeg (-r16) → (qLoop (wp_X12_layWorld_42 l0 l1 l2 bk6 Q) (0, h17))))))))))))))
def wp_X12_layWorld_6 (l0 : Nat) (l1 : Int32)  (Q : PH → Prop) (bk6 : Int32 × PH → Prop) (s : Int32 × PH) : Prop := wb_X12_layWorld_6 l0 l1 Q bk6 s.1 s.2
set_option maxHeartbeats 4000000 in
set_option maxRecDepth 100000 in
theorem bd_X12_layWorld_6 (G : GT) (d : Nat) (h0 hb : PH) (l0 : Nat) (l1 : Int32) (Q : PH → Prop)  (hex : qEx h0 hb) (hnn : qn hb = qn h0 + 0) (hzz : qz hb = qz h0 + 0) (okl0 : qOK hb 11 l0) (bk6 : Int32 × PH → Prop) (hbk6 : ∀ s2, bk6 s2 → E_X12_layWorld_6 G d h0 hb l0 l1 Q s2) (l2 : Int32) (h : PH) (hwp : wb_X12_layWorld_6 l0 l1 Q bk6 l2 h) (hx6 : qEx hb h) (hn6 : qn h = qn hb) (hz6 : qz h = qz hb) : Ex G (qrm (5 + d) 0 0) mX12_layWorld (qn h0) (qz h0) (ZN G h0 0 0 (qqv Q)) 6 [(0, .ref l0), (1, .int l1), (2, .int l2)] [] h := by
  unfold wb_X12_layWorld_6 at hwp
  have hex := hex.tr hx6
  have hnn := hn6.trans hnn
  have hzz := hz6.trans hzz
  have okl0 := okl0.ex hx6
  refine x_iload_n (pc := 6) dX12_layWorld_6 rfl ?_
  refine x_aload_n (pc := 7) dX12_layWorld_7 rfl ?_
  obtain ⟨b3, e4, hwp⟩ := hwp
  refine x_getR (pc := 8) dX12_layWorld_8 qRX12_13 okl0 e4 (fun okb3 => ?_)
  refine x_iconst (v := 0) (pc := 11) dX12_layWorld_11 (by decide) ?_
  obtain ⟨i5, hwp⟩ := hwp
  refine x_iaload (pc := 12) dX12_layWorld_12 okb3 i5 ?_
  refine x_icmp_ge (tgt := 111) (pc := 13) dX12_layWorld_13 (by decide) (fun c6 => ?_) (fun c6 => ?_)
  · have hwp := hwp.1 c6
    exact x_vret (pc := 111) dX12_layWorld_111 rfl hex hnn hzz ⟨rfl, hwp⟩
  · have hwp := hwp.2 c6
    refine x_aload_n (pc := 16) dX12_layWorld_16 rfl ?_
    obtain ⟨b7, e8, hwp⟩ := hwp
    refine x_getR (pc := 17) dX12_layWorld_17 qRX12_33 okl0 e8 (fun okb7 => ?_)
    refine x_iload_n (pc := 20) dX12_layWorld_20 rfl ?_
    refine x_aload_n (pc := 21) dX12_layWorld_21 rfl ?_
    refine x_iload_n (pc := 22) dX12_layWorld_22 rfl ?_
    refine x_invV (As := [.int l1]) (st := [.int l2, .ref b7]) (pc := 23) dX12_layWorld_23 lRX12_272 fX12_rubOf vX12_rubOf okl0 rfl (Nat.le_of_ble_eq_true rfl) (q_R (by omega) (by decide)) (q_C hnn hzz (by decide) (by decide)) (sn_X12_rubOf G (d + 4) l0 l1 h _ okl0 hwp) (k_i (fun r10 h9 hwp cxh9 => ?_))
    have hex := hex.tr cxh9.1
    have hnn : qn h9 = qn h0 + 0 := by have := cxh9.2.1; omega
    have hzz : qz h9 = qz h0 + 0 := by have := cxh9.2.2; omega
    have hx6 := hx6.tr cxh9.1
    have hn6 : qn h9 = qn hb := by have := cxh9.2.1; omega
    have hz6 : qz h9 = qz hb := by have := cxh9.2.2; omega
    have okl0 := okl0.ex cxh9.1
    have okb3 := okb3.ex cxh9.1
    have okb7 := okb7.ex cxh9.1
    refine x_ineg (pc := 26) dX12_layWorld_26 ?_
    obtain ⟨i12, hwp⟩ := hwp
    refine y_iastore (pc := 27) dX12_layWorld_27 okb7 i12 (fun h11 eh11 nxh11 => ?_)
    have hwp := hwp h11 eh11
    have hex := hex.tr nxh11.1
    have hnn := nxh11.2.1.trans hnn
    have hzz := nxh11.2.2.trans hzz
    have hx6 := hx6.tr nxh11.1
    have hn6 := nxh11.2.1.trans hn6
    have hz6 := nxh11.2.2.trans hz6
    have okl0 := okl0.ex nxh11.1
    have okb3 := okb3.ex nxh11.1
    have okb7 := okb7.ex nxh11.1
    refine x_aload_n (pc := 28) dX12_layWorld_28 rfl ?_
    obtain ⟨b13, e14, hwp⟩ := hwp
    refine x_getR (pc := 29) dX12_layWorld_29 qRX12_36 okl0 e14 (fun okb13 => ?_)
    refine x_iload_n (pc := 32) dX12_layWorld_32 rfl ?_
    refine x_aload_n (pc := 33) dX12_layWorld_33 rfl ?_
    refine x_iload_n (pc := 34) dX12_layWorld_34 rfl ?_
    refine x_invV (As := [.int l1]) (st := [.int l2, .ref b13]) (pc := 35) dX12_layWorld_35 lRX12_272 fX12_rubOf vX12_rubOf okl0 rfl (Nat.le_of_ble_eq_true rfl) (q_R (by omega) (by decide)) (q_C hnn hzz (by decide) (by decide)) (sn_X12_rubOf G (d + 4) l0 l1 h11 _ okl0 hwp) (k_i (fun r16 h15 hwp cxh15 => ?_))
    have hex := hex.tr cxh15.1
    have hnn : qn h15 = qn h0 + 0 := by have := cxh15.2.1; omega
    have hzz : qz h15 = qz h0 + 0 := by have := cxh15.2.2; omega
    have hx6 := hx6.tr cxh15.1
    have hn6 : qn h15 = qn hb := by have := cxh15.2.1; omega
    have hz6 : qz h15 = qz hb := by have := cxh15.2.2; omega
    have okl0 := okl0.ex cxh15.1
    have okb3 := okb3.ex cxh15.1
    have okb7 := okb7.ex cxh15.1
    have okb13 := okb13.ex cxh15.1
    refine x_ineg (pc := 38) dX12_layWorld_38 ?_
    obtain ⟨i18, hwp⟩ := hwp
    refine y_iastore (pc := 39) dX12_layWorld_39 okb13 i18 (fun h17 eh17 nxh17 => ?_)
    have hwp := hwp h17 eh17
    have hex := hex.tr nxh17.1
    have hnn := nxh17.2.1.trans hnn
    have hzz := nxh17.2.2.trans hzz
    have hx6 := hx6.tr nxh17.1
    have hn6 := nxh17.2.1.trans hn6
    have hz6 := nxh17.2.2.trans hz6
    have okl0 := okl0.ex nxh17.1
    have okb3 := okb3.ex nxh17.1
    have okb7 := okb7.ex nxh17.1
    have okb13 := okb13.ex nxh17.1
    refine x_iconst (v := 0) (pc := 40) dX12_layWorld_40 (by decide) ?_
    refine x_istore_n (lv2 := [(3, .int 0), (0, .ref l0), (1, .int l1), (2, .int l2)]) (pc := 41) dX12_layWorld_41 (by decide) rfl ?_
    refine x_sub [1, 2, 3, 0] rfl ?_
    exact lp_X12_layWorld_42 G d h0 h17 l0 l1 l2 Q hb bk6 hbk6 hx6 hn6 hz6 hex hnn hzz okl0 hwp ⟨qEx.rf _, rfl, rfl⟩
theorem lp_X12_layWorld_6 (G : GT) (d : Nat) (h0 hb : PH) (l0 : Nat) (l1 : Int32) (Q : PH → Prop)  (hex : qEx h0 hb) (hnn : qn hb = qn h0 + 0) (hzz : qz hb = qz h0 + 0) (okl0 : qOK hb 11 l0) {s : Int32 × PH} (hwp : qLoop (wp_X12_layWorld_6 l0 l1 Q) s) : E_X12_layWorld_6 G d h0 hb l0 l1 Q s :=
  qLoop.use (E := E_X12_layWorld_6 G d h0 hb l0 l1 Q) (fun back s hbk hw hx => bd_X12_layWorld_6 G d h0 hb l0 l1 Q hex hnn hzz okl0 back hbk s.1 s.2 hw hx.1 hx.2.1 hx.2.2) hwp
def wp_X12_layWorld (l0 : Nat) (l1 : Int32) (h : PH) (Q : PH → Prop) : Prop := (wp_X12_lay l0 h (fun h1 => (qLoop (wp_X12_layWorld_6 l0 l1 Q) (0, h1))))
set_option maxHeartbeats 4000000 in
set_option maxRecDepth 100000 in
theorem sn_X12_layWorld (G : GT) (d : Nat) (l0 : Nat) (l1 : Int32) (h : PH) (Q : PH → Prop) (okl0 : qOK h 11 l0) (hwp : wp_X12_layWorld l0 l1 h Q) : Mt G (5 + d) 0 0 mX12_layWorld [.ref l0, .int l1] h (qqv Q) := by
  unfold wp_X12_layWorld at hwp
  refine Mt.of (by decide) rfl (Nat.le_of_ble_eq_true rfl) ?_
  have hex := qEx.rf h
  have hnn : qn h = qn h + 0 := rfl
  have hzz : qz h = qz h + 0 := rfl
  refine x_lvE (lv2 := [(0, .ref l0), (1, .int l1)]) rfl ?_
  refine x_aload_n (pc := 0) dX12_layWorld_0 rfl ?_
  refine x_invV (As := []) (st := []) (pc := 1) dX12_layWorld_1 lRX12_217 fX12_lay vX12_lay okl0 rfl (Nat.le_of_ble_eq_true rfl) (q_R (by omega) (by decide)) (q_C hnn hzz (by decide) (by decide)) (sn_X12_lay G (d + 4) l0 h _ okl0 hwp) (k_v (fun h1 hwp cxh1 => ?_))
  have hex := hex.tr cxh1.1
  have hnn : qn h1 = qn h + 0 := by have := cxh1.2.1; omega
  have hzz : qz h1 = qz h + 0 := by have := cxh1.2.2; omega
  have okl0 := okl0.ex cxh1.1
  refine x_iconst (v := 0) (pc := 4) dX12_layWorld_4 (by decide) ?_
  refine x_istore_n (lv2 := [(2, .int 0), (0, .ref l0), (1, .int l1)]) (pc := 5) dX12_layWorld_5 (by decide) rfl ?_
  refine x_sub [1, 2, 0] rfl ?_
  exact lp_X12_layWorld_6 G d h h1 l0 l1 Q hex hnn hzz okl0 hwp ⟨qEx.rf _, rfl, rfl⟩

theorem dX12_play_0 : decode cX12_play 0 = .ok (.aload_n 0, 1) := by decide +kernel
theorem dX12_play_1 : decode cX12_play 1 = .ok (.iload_n 1, 1) := by decide +kernel
theorem dX12_play_2 : decode cX12_play 2 = .ok (.putfield 281, 3) := by decide +kernel
theorem dX12_play_5 : decode cX12_play 5 = .ok (.aload_n 0, 1) := by decide +kernel
theorem dX12_play_6 : decode cX12_play 6 = .ok (.iload_n 2, 1) := by decide +kernel
theorem dX12_play_7 : decode cX12_play 7 = .ok (.putfield 283, 3) := by decide +kernel
theorem dX12_play_10 : decode cX12_play 10 = .ok (.aload_n 0, 1) := by decide +kernel
theorem dX12_play_11 : decode cX12_play 11 = .ok (.iconst 0, 1) := by decide +kernel
theorem dX12_play_12 : decode cX12_play 12 = .ok (.putfield 286, 3) := by decide +kernel
theorem dX12_play_15 : decode cX12_play 15 = .ok (.aload_n 0, 1) := by decide +kernel
theorem dX12_play_16 : decode cX12_play 16 = .ok (.iload_n 2, 1) := by decide +kernel
theorem dX12_play_17 : decode cX12_play 17 = .ok (.putfield 289, 3) := by decide +kernel
theorem dX12_play_20 : decode cX12_play 20 = .ok (.aload_n 0, 1) := by decide +kernel
theorem dX12_play_21 : decode cX12_play 21 = .ok (.iconst 0, 1) := by decide +kernel
theorem dX12_play_22 : decode cX12_play 22 = .ok (.putfield 292, 3) := by decide +kernel
theorem dX12_play_25 : decode cX12_play 25 = .ok (.aload_n 0, 1) := by decide +kernel
theorem dX12_play_26 : decode cX12_play 26 = .ok (.iconst 0, 1) := by decide +kernel
theorem dX12_play_27 : decode cX12_play 27 = .ok (.putfield 295, 3) := by decide +kernel
theorem dX12_play_30 : decode cX12_play 30 = .ok (.iconst 1, 1) := by decide +kernel
theorem dX12_play_31 : decode cX12_play 31 = .ok (.istore_n 3, 1) := by decide +kernel
theorem dX12_play_32 : decode cX12_play 32 = .ok (.iconst 0, 1) := by decide +kernel
theorem dX12_play_33 : decode cX12_play 33 = .ok (.istore 4, 2) := by decide +kernel
theorem dX12_play_35 : decode cX12_play 35 = .ok (.iload 4, 2) := by decide +kernel
theorem dX12_play_37 : decode cX12_play 37 = .ok (.iconst 2, 1) := by decide +kernel
theorem dX12_play_38 : decode cX12_play 38 = .ok (.if_icmp .ge 155, 3) := by decide +kernel
theorem dX12_play_41 : decode cX12_play 41 = .ok (.aload_n 0, 1) := by decide +kernel
theorem dX12_play_42 : decode cX12_play 42 = .ok (.getfield 292, 3) := by decide +kernel
theorem dX12_play_45 : decode cX12_play 45 = .ok (.sipush 20000, 3) := by decide +kernel
theorem dX12_play_48 : decode cX12_play 48 = .ok (.if_icmp .ge 145, 3) := by decide +kernel
theorem dX12_play_51 : decode cX12_play 51 = .ok (.iload_n 3, 1) := by decide +kernel
theorem dX12_play_52 : decode cX12_play 52 = .ok (.ifCond .eq 10, 3) := by decide +kernel
theorem dX12_play_55 : decode cX12_play 55 = .ok (.aload_n 0, 1) := by decide +kernel
theorem dX12_play_56 : decode cX12_play 56 = .ok (.getfield 281, 3) := by decide +kernel
theorem dX12_play_59 : decode cX12_play 59 = .ok (.goto 13, 3) := by decide +kernel
theorem dX12_play_62 : decode cX12_play 62 = .ok (.aload_n 0, 1) := by decide +kernel
theorem dX12_play_63 : decode cX12_play 63 = .ok (.aload_n 0, 1) := by decide +kernel
theorem dX12_play_64 : decode cX12_play 64 = .ok (.getfield 281, 3) := by decide +kernel
theorem dX12_play_67 : decode cX12_play 67 = .ok (.iconst 1, 1) := by decide +kernel
theorem dX12_play_68 : decode cX12_play 68 = .ok (.isub, 1) := by decide +kernel
theorem dX12_play_69 : decode cX12_play 69 = .ok (.invokevirtual 239, 3) := by decide +kernel
theorem dX12_play_72 : decode cX12_play 72 = .ok (.istore 5, 2) := by decide +kernel
theorem dX12_play_74 : decode cX12_play 74 = .ok (.aload_n 0, 1) := by decide +kernel
theorem dX12_play_75 : decode cX12_play 75 = .ok (.getfield 283, 3) := by decide +kernel
theorem dX12_play_78 : decode cX12_play 78 = .ok (.iload_n 3, 1) := by decide +kernel
theorem dX12_play_79 : decode cX12_play 79 = .ok (.ifCond .eq 13, 3) := by decide +kernel
theorem dX12_play_82 : decode cX12_play 82 = .ok (.aload_n 0, 1) := by decide +kernel
theorem dX12_play_83 : decode cX12_play 83 = .ok (.getfield 33, 3) := by decide +kernel
theorem dX12_play_86 : decode cX12_play 86 = .ok (.iload 5, 2) := by decide +kernel
theorem dX12_play_88 : decode cX12_play 88 = .ok (.iaload, 1) := by decide +kernel
theorem dX12_play_89 : decode cX12_play 89 = .ok (.goto 10, 3) := by decide +kernel
theorem dX12_play_92 : decode cX12_play 92 = .ok (.aload_n 0, 1) := by decide +kernel
theorem dX12_play_93 : decode cX12_play 93 = .ok (.getfield 36, 3) := by decide +kernel
theorem dX12_play_96 : decode cX12_play 96 = .ok (.iload 5, 2) := by decide +kernel
theorem dX12_play_98 : decode cX12_play 98 = .ok (.iaload, 1) := by decide +kernel
theorem dX12_play_99 : decode cX12_play 99 = .ok (.iadd, 1) := by decide +kernel
theorem dX12_play_100 : decode cX12_play 100 = .ok (.istore 6, 2) := by decide +kernel
theorem dX12_play_102 : decode cX12_play 102 = .ok (.iload 6, 2) := by decide +kernel
theorem dX12_play_104 : decode cX12_play 104 = .ok (.ifCond .ge 29, 3) := by decide +kernel
theorem dX12_play_107 : decode cX12_play 107 = .ok (.iload_n 3, 1) := by decide +kernel
theorem dX12_play_108 : decode cX12_play 108 = .ok (.ifCond .ne 7, 3) := by decide +kernel
theorem dX12_play_111 : decode cX12_play 111 = .ok (.iconst 1, 1) := by decide +kernel
theorem dX12_play_112 : decode cX12_play 112 = .ok (.goto 4, 3) := by decide +kernel
theorem dX12_play_115 : decode cX12_play 115 = .ok (.iconst 0, 1) := by decide +kernel
theorem dX12_play_116 : decode cX12_play 116 = .ok (.istore_n 3, 1) := by decide +kernel
theorem dX12_play_117 : decode cX12_play 117 = .ok (.aload_n 0, 1) := by decide +kernel
theorem dX12_play_118 : decode cX12_play 118 = .ok (.dup, 1) := by decide +kernel
theorem dX12_play_119 : decode cX12_play 119 = .ok (.getfield 286, 3) := by decide +kernel
theorem dX12_play_122 : decode cX12_play 122 = .ok (.iconst 1, 1) := by decide +kernel
theorem dX12_play_123 : decode cX12_play 123 = .ok (.iadd, 1) := by decide +kernel
theorem dX12_play_124 : decode cX12_play 124 = .ok (.putfield 286, 3) := by decide +kernel
theorem dX12_play_127 : decode cX12_play 127 = .ok (.iinc 4 1, 3) := by decide +kernel
theorem dX12_play_130 : decode cX12_play 130 = .ok (.goto (-95), 3) := by decide +kernel
theorem dX12_play_133 : decode cX12_play 133 = .ok (.iconst 0, 1) := by decide +kernel
theorem dX12_play_134 : decode cX12_play 134 = .ok (.istore 4, 2) := by decide +kernel
theorem dX12_play_136 : decode cX12_play 136 = .ok (.aload_n 0, 1) := by decide +kernel
theorem dX12_play_137 : decode cX12_play 137 = .ok (.iload 6, 2) := by decide +kernel
theorem dX12_play_139 : decode cX12_play 139 = .ok (.putfield 283, 3) := by decide +kernel
theorem dX12_play_142 : decode cX12_play 142 = .ok (.iload 6, 2) := by decide +kernel
theorem dX12_play_144 : decode cX12_play 144 = .ok (.aload_n 0, 1) := by decide +kernel
theorem dX12_play_145 : decode cX12_play 145 = .ok (.getfield 289, 3) := by decide +kernel
theorem dX12_play_148 : decode cX12_play 148 = .ok (.if_icmp .le 9, 3) := by decide +kernel
theorem dX12_play_151 : decode cX12_play 151 = .ok (.aload_n 0, 1) := by decide +kernel
theorem dX12_play_152 : decode cX12_play 152 = .ok (.iload 6, 2) := by decide +kernel
theorem dX12_play_154 : decode cX12_play 154 = .ok (.putfield 289, 3) := by decide +kernel
theorem dX12_play_157 : decode cX12_play 157 = .ok (.aload_n 0, 1) := by decide +kernel
theorem dX12_play_158 : decode cX12_play 158 = .ok (.iload_n 3, 1) := by decide +kernel
theorem dX12_play_159 : decode cX12_play 159 = .ok (.ifCond .eq 16, 3) := by decide +kernel
theorem dX12_play_162 : decode cX12_play 162 = .ok (.aload_n 0, 1) := by decide +kernel
theorem dX12_play_163 : decode cX12_play 163 = .ok (.aload_n 0, 1) := by decide +kernel
theorem dX12_play_164 : decode cX12_play 164 = .ok (.getfield 281, 3) := by decide +kernel
theorem dX12_play_167 : decode cX12_play 167 = .ok (.iconst 1, 1) := by decide +kernel
theorem dX12_play_168 : decode cX12_play 168 = .ok (.iadd, 1) := by decide +kernel
theorem dX12_play_169 : decode cX12_play 169 = .ok (.invokevirtual 239, 3) := by decide +kernel
theorem dX12_play_172 : decode cX12_play 172 = .ok (.goto 5, 3) := by decide +kernel
theorem dX12_play_175 : decode cX12_play 175 = .ok (.iload 5, 2) := by decide +kernel
theorem dX12_play_177 : decode cX12_play 177 = .ok (.putfield 281, 3) := by decide +kernel
theorem dX12_play_180 : decode cX12_play 180 = .ok (.aload_n 0, 1) := by decide +kernel
theorem dX12_play_181 : decode cX12_play 181 = .ok (.dup, 1) := by decide +kernel
theorem dX12_play_182 : decode cX12_play 182 = .ok (.getfield 292, 3) := by decide +kernel
theorem dX12_play_185 : decode cX12_play 185 = .ok (.iconst 1, 1) := by decide +kernel
theorem dX12_play_186 : decode cX12_play 186 = .ok (.iadd, 1) := by decide +kernel
theorem dX12_play_187 : decode cX12_play 187 = .ok (.putfield 292, 3) := by decide +kernel
theorem dX12_play_190 : decode cX12_play 190 = .ok (.goto (-155), 3) := by decide +kernel
theorem dX12_play_193 : decode cX12_play 193 = .ok (.aload_n 0, 1) := by decide +kernel
theorem dX12_play_194 : decode cX12_play 194 = .ok (.iload 4, 2) := by decide +kernel
theorem dX12_play_196 : decode cX12_play 196 = .ok (.iconst 2, 1) := by decide +kernel
theorem dX12_play_197 : decode cX12_play 197 = .ok (.if_icmp .ne 7, 3) := by decide +kernel
theorem dX12_play_200 : decode cX12_play 200 = .ok (.iconst 1, 1) := by decide +kernel
theorem dX12_play_201 : decode cX12_play 201 = .ok (.goto 4, 3) := by decide +kernel
theorem dX12_play_204 : decode cX12_play 204 = .ok (.iconst 0, 1) := by decide +kernel
theorem dX12_play_205 : decode cX12_play 205 = .ok (.putfield 295, 3) := by decide +kernel
theorem dX12_play_208 : decode cX12_play 208 = .ok (.return_, 1) := by decide +kernel
def E_X12_play_35 (G : GT) (d : Nat) (h0 hb : PH) (l0 : Nat) (Q : PH → Prop) (s : Int32 × Int32 × PH) : Prop := qEx hb s.2.2 ∧ qn s.2.2 = qn hb ∧ qz s.2.2 = qz hb → Ex G (qrm (1 + d) 0 0) mX12_play (qn h0) (qz h0) (ZN G h0 0 0 (qqv Q)) 35 [(0, .ref l0), (3, .int s.1), (4, .int s.2.1)] [] s.2.2
def wp_X12_play_157 (l0 : Nat) (l3 : Int32) (l4 : Int32) (l5 : Int32) (bk35 : Int32 × Int32 × PH → Prop) (h : PH) (Q : PH → Prop) : Prop := ((l3 = 0 → (∀ h36, h36 = qsI h l0 23 l5 → (∀ h37, h37 = qsI h36 l0 27 ((qI h36 l0 27) + 1) → bk35 (l3, l4, h37)))) ∧ (¬ (l3 = 0) → (wp_X12_round l0 ((qI h l0 23) + 1) h (fun r39 h38 => (∀ h40, h40 = qsI h38 l0 23 r39 → (∀ h41, h41 = qsI h40 l0 27 ((qI h40 l0 27) + 1) → bk35 (l3, l4, h41)))))))
set_option maxHeartbeats 4000000 in
set_option maxRecDepth 100000 in
theorem sg_X12_play_157 (G : GT) (d : Nat) (h0 : PH) (l0 : Nat) (l3 : Int32) (l4 : Int32) (l5 : Int32) (h : PH) (Q : PH → Prop) (hb35 : PH) (bk35 : Int32 × Int32 × PH → Prop) (hbk35 : ∀ s2, bk35 s2 → E_X12_play_35 G d h0 hb35 l0 Q s2) (hx35 : qEx hb35 h) (hn35 : qn h = qn hb35) (hz35 : qz h = qz hb35) (hex : qEx h0 h) (hnn : qn h = qn h0 + 0) (hzz : qz h = qz h0 + 0) (okl0 : qOK h 11 l0) (hwp : wp_X12_play_157 l0 l3 l4 l5 bk35 h Q) : Ex G (qrm (1 + d) 0 0) mX12_play (qn h0) (qz h0) (ZN G h0 0 0 (qqv Q)) 157 [(0, .ref l0), (3, .int l3), (4, .int l4), (5, .int l5)] [] h := by
  unfold wp_X12_play_157 at hwp
  refine x_aload_n (pc := 157) dX12_play_157 rfl ?_
  refine x_iload_n (pc := 158) dX12_play_158 rfl ?_
  refine x_if_eq (tgt := 175) (pc := 159) dX12_play_159 (by decide) (fun c35 => ?_) (fun c35 => ?_)
  · have hwp := hwp.1 c35
    refine x_iload (pc := 175) dX12_play_175 rfl ?_
    refine y_putI (pc := 177) dX12_play_177 qRX12_281 okl0 (fun h36 eh36 nxh36 => ?_)
    have hwp := hwp h36 eh36
    have hex := hex.tr nxh36.1
    have hnn := nxh36.2.1.trans hnn
    have hzz := nxh36.2.2.trans hzz
    have hx35 := hx35.tr nxh36.1
    have hn35 := nxh36.2.1.trans hn35
    have hz35 := nxh36.2.2.trans hz35
    have okl0 := okl0.ex nxh36.1
    refine x_aload_n (pc := 180) dX12_play_180 rfl ?_
    refine x_dup (pc := 181) dX12_play_181 rfl ?_
    refine x_getI (pc := 182) dX12_play_182 qRX12_292 okl0 (by decide) ?_
    refine x_iconst (v := 1) (pc := 185) dX12_play_185 (by decide) ?_
    refine x_iadd (pc := 186) dX12_play_186 ?_
    refine y_putI (pc := 187) dX12_play_187 qRX12_292 okl0 (fun h37 eh37 nxh37 => ?_)
    have hwp := hwp h37 eh37
    have hex := hex.tr nxh37.1
    have hnn := nxh37.2.1.trans hnn
    have hzz := nxh37.2.2.trans hzz
    have hx35 := hx35.tr nxh37.1
    have hn35 := nxh37.2.1.trans hn35
    have hz35 := nxh37.2.2.trans hz35
    have okl0 := okl0.ex nxh37.1
    refine x_goto (tgt := 35) (pc := 190) dX12_play_190 (by decide) ?_
    refine x_sub [0, 1, 2] rfl ?_
    exact hbk35 _ hwp ⟨hx35, hn35, hz35⟩
  · have hwp := hwp.2 c35
    refine x_aload_n (pc := 162) dX12_play_162 rfl ?_
    refine x_aload_n (pc := 163) dX12_play_163 rfl ?_
    refine x_getI (pc := 164) dX12_play_164 qRX12_281 okl0 (by decide) ?_
    refine x_iconst (v := 1) (pc := 167) dX12_play_167 (by decide) ?_
    refine x_iadd (pc := 168) dX12_play_168 ?_
    refine x_invV (As := [.int ((qI h l0 23) + 1)]) (st := [.ref l0]) (pc := 169) dX12_play_169 lRX12_239 fX12_round vX12_round okl0 rfl (Nat.le_of_ble_eq_true rfl) (q_R (by omega) (by decide)) (q_C hnn hzz (by decide) (by decide)) (sn_X12_round G (d + 0) l0 ((qI h l0 23) + 1) h _ okl0 hwp) (k_i (fun r39 h38 hwp cxh38 => ?_))
    have hex := hex.tr cxh38.1
    have hnn : qn h38 = qn h0 + 0 := by have := cxh38.2.1; omega
    have hzz : qz h38 = qz h0 + 0 := by have := cxh38.2.2; omega
    have hx35 := hx35.tr cxh38.1
    have hn35 : qn h38 = qn hb35 := by have := cxh38.2.1; omega
    have hz35 : qz h38 = qz hb35 := by have := cxh38.2.2; omega
    have okl0 := okl0.ex cxh38.1
    refine x_goto (tgt := 177) (pc := 172) dX12_play_172 (by decide) ?_
    refine y_putI (pc := 177) dX12_play_177 qRX12_281 okl0 (fun h40 eh40 nxh40 => ?_)
    have hwp := hwp h40 eh40
    have hex := hex.tr nxh40.1
    have hnn := nxh40.2.1.trans hnn
    have hzz := nxh40.2.2.trans hzz
    have hx35 := hx35.tr nxh40.1
    have hn35 := nxh40.2.1.trans hn35
    have hz35 := nxh40.2.2.trans hz35
    have okl0 := okl0.ex nxh40.1
    refine x_aload_n (pc := 180) dX12_play_180 rfl ?_
    refine x_dup (pc := 181) dX12_play_181 rfl ?_
    refine x_getI (pc := 182) dX12_play_182 qRX12_292 okl0 (by decide) ?_
    refine x_iconst (v := 1) (pc := 185) dX12_play_185 (by decide) ?_
    refine x_iadd (pc := 186) dX12_play_186 ?_
    refine y_putI (pc := 187) dX12_play_187 qRX12_292 okl0 (fun h41 eh41 nxh41 => ?_)
    have hwp := hwp h41 eh41
    have hex := hex.tr nxh41.1
    have hnn := nxh41.2.1.trans hnn
    have hzz := nxh41.2.2.trans hzz
    have hx35 := hx35.tr nxh41.1
    have hn35 := nxh41.2.1.trans hn35
    have hz35 := nxh41.2.2.trans hz35
    have okl0 := okl0.ex nxh41.1
    refine x_goto (tgt := 35) (pc := 190) dX12_play_190 (by decide) ?_
    refine x_sub [0, 1, 2] rfl ?_
    exact hbk35 _ hwp ⟨hx35, hn35, hz35⟩
def wp_X12_play_99 (l0 : Nat) (l3 : Int32) (l4 : Int32) (l5 : Int32) (s0 : Int32) (s1 : Int32) (bk35 : Int32 × Int32 × PH → Prop) (h : PH) (Q : PH → Prop) : Prop := ∀ v25 : Int32, v25 = s1 + s0 → ((0 ≤ v25 → (∀ h27, h27 = qsI h l0 24 v25 → ((v25 ≤ (qI h27 l0 26) → (wp_X12_play_157 l0 l3 0 l5 bk35 h27 Q)) ∧ (¬ (v25 ≤ (qI h27 l0 26)) → (∀ h29, h29 = qsI h27 l0 26 v25 → (wp_X12_play_157 l0 l3 0 l5 bk35 h29 Q)))))) ∧ (¬ (0 ≤ v25) → ((¬ l3 = 0 → (∀ h31, h31 = qsI h l0 25 ((qI h l0 25) + 1) → ∀ v32 : Int32, v32 = l4 + 1 → bk35 (0, v32, h31))) ∧ (l3 = 0 → (∀ h33, h33 = qsI h l0 25 ((qI h l0 25) + 1) → ∀ v34 : Int32, v34 = l4 + 1 → bk35 (1, v34, h33))))))
set_option maxHeartbeats 4000000 in
set_option maxRecDepth 100000 in
theorem sg_X12_play_99 (G : GT) (d : Nat) (h0 : PH) (l0 : Nat) (l3 : Int32) (l4 : Int32) (l5 : Int32) (s0 : Int32) (s1 : Int32) (h : PH) (Q : PH → Prop) (hb35 : PH) (bk35 : Int32 × Int32 × PH → Prop) (hbk35 : ∀ s2, bk35 s2 → E_X12_play_35 G d h0 hb35 l0 Q s2) (hx35 : qEx hb35 h) (hn35 : qn h = qn hb35) (hz35 : qz h = qz hb35) (hex : qEx h0 h) (hnn : qn h = qn h0 + 0) (hzz : qz h = qz h0 + 0) (okl0 : qOK h 11 l0) (hwp : wp_X12_play_99 l0 l3 l4 l5 s0 s1 bk35 h Q) : Ex G (qrm (1 + d) 0 0) mX12_play (qn h0) (qz h0) (ZN G h0 0 0 (qqv Q)) 99 [(0, .ref l0), (3, .int l3), (4, .int l4), (5, .int l5)] [.int s0, .int s1] h := by
  unfold wp_X12_play_99 at hwp
  refine x_iadd (pc := 99) dX12_play_99 ?_
  refine x_nmI (fun v25 ev25 => ?_)
  have hwp := hwp v25 ev25
  refine x_istore (lv2 := [(6, .int v25), (0, .ref l0), (3, .int l3), (4, .int l4), (5, .int l5)]) (pc := 100) dX12_play_100 (by decide) rfl ?_
  refine x_iload (pc := 102) dX12_play_102 rfl ?_
  refine x_if_ge (tgt := 133) (pc := 104) dX12_play_104 (by decide) (fun c26 => ?_) (fun c26 => ?_)
  · have hwp := hwp.1 c26
    refine x_iconst (v := 0) (pc := 133) dX12_play_133 (by decide) ?_
    refine x_istore (lv2 := [(4, .int 0), (6, .int v25), (0, .ref l0), (3, .int l3), (5, .int l5)]) (pc := 134) dX12_play_134 (by decide) rfl ?_
    refine x_aload_n (pc := 136) dX12_play_136 rfl ?_
    refine x_iload (pc := 137) dX12_play_137 rfl ?_
    refine y_putI (pc := 139) dX12_play_139 qRX12_283 okl0 (fun h27 eh27 nxh27 => ?_)
    have hwp := hwp h27 eh27
    have hex := hex.tr nxh27.1
    have hnn := nxh27.2.1.trans hnn
    have hzz := nxh27.2.2.trans hzz
    have hx35 := hx35.tr nxh27.1
    have hn35 := nxh27.2.1.trans hn35
    have hz35 := nxh27.2.2.trans hz35
    have okl0 := okl0.ex nxh27.1
    refine x_iload (pc := 142) dX12_play_142 rfl ?_
    refine x_aload_n (pc := 144) dX12_play_144 rfl ?_
    refine x_getI (pc := 145) dX12_play_145 qRX12_289 okl0 (by decide) ?_
    refine x_icmp_le (tgt := 157) (pc := 148) dX12_play_148 (by decide) (fun c28 => ?_) (fun c28 => ?_)
    · have hwp := hwp.1 c28
      refine x_sub [2, 3, 0, 4] rfl ?_
      exact sg_X12_play_157 G d h0 l0 l3 0 l5 h27 Q hb35 bk35 hbk35 hx35 hn35 hz35 hex hnn hzz okl0 hwp
    · have hwp := hwp.2 c28
      refine x_aload_n (pc := 151) dX12_play_151 rfl ?_
      refine x_iload (pc := 152) dX12_play_152 rfl ?_
      refine y_putI (pc := 154) dX12_play_154 qRX12_289 okl0 (fun h29 eh29 nxh29 => ?_)
      have hwp := hwp h29 eh29
      have hex := hex.tr nxh29.1
      have hnn := nxh29.2.1.trans hnn
      have hzz := nxh29.2.2.trans hzz
      have hx35 := hx35.tr nxh29.1
      have hn35 := nxh29.2.1.trans hn35
      have hz35 := nxh29.2.2.trans hz35
      have okl0 := okl0.ex nxh29.1
      refine x_sub [2, 3, 0, 4] rfl ?_
      exact sg_X12_play_157 G d h0 l0 l3 0 l5 h29 Q hb35 bk35 hbk35 hx35 hn35 hz35 hex hnn hzz okl0 hwp
  · have hwp := hwp.2 c26
    refine x_iload_n (pc := 107) dX12_play_107 rfl ?_
    refine x_if_ne (tgt := 115) (pc := 108) dX12_play_108 (by decide) (fun c30 => ?_) (fun c30 => ?_)
    · have hwp := hwp.1 c30
      refine x_iconst (v := 0) (pc := 115) dX12_play_115 (by decide) ?_
      refine x_istore_n (lv2 := [(3, .int 0), (6, .int v25), (0, .ref l0), (4, .int l4), (5, .int l5)]) (pc := 116) dX12_play_116 (by decide) rfl ?_
      refine x_aload_n (pc := 117) dX12_play_117 rfl ?_
      refine x_dup (pc := 118) dX12_play_118 rfl ?_
      refine x_getI (pc := 119) dX12_play_119 qRX12_286 okl0 (by decide) ?_
      refine x_iconst (v := 1) (pc := 122) dX12_play_122 (by decide) ?_
      refine x_iadd (pc := 123) dX12_play_123 ?_
      refine y_putI (pc := 124) dX12_play_124 qRX12_286 okl0 (fun h31 eh31 nxh31 => ?_)
      have hwp := hwp h31 eh31
      have hex := hex.tr nxh31.1
      have hnn := nxh31.2.1.trans hnn
      have hzz := nxh31.2.2.trans hzz
      have hx35 := hx35.tr nxh31.1
      have hn35 := nxh31.2.1.trans hn35
      have hz35 := nxh31.2.2.trans hz35
      have okl0 := okl0.ex nxh31.1
      refine y_iinc (c := 1) (pc := 127) dX12_play_127 rfl (by decide) (by decide) (fun v32 ev32 => ?_)
      have hwp := hwp v32 ev32
      refine x_lvE (lv2 := [(4, .int v32), (3, .int 0), (6, .int v25), (0, .ref l0), (5, .int l5)]) rfl ?_
      refine x_goto (tgt := 35) (pc := 130) dX12_play_130 (by decide) ?_
      refine x_sub [3, 1, 0] rfl ?_
      exact hbk35 _ hwp ⟨hx35, hn35, hz35⟩
    · have hwp := hwp.2 c30
      refine x_iconst (v := 1) (pc := 111) dX12_play_111 (by decide) ?_
      refine x_goto (tgt := 116) (pc := 112) dX12_play_112 (by decide) ?_
      refine x_istore_n (lv2 := [(3, .int 1), (6, .int v25), (0, .ref l0), (4, .int l4), (5, .int l5)]) (pc := 116) dX12_play_116 (by decide) rfl ?_
      refine x_aload_n (pc := 117) dX12_play_117 rfl ?_
      refine x_dup (pc := 118) dX12_play_118 rfl ?_
      refine x_getI (pc := 119) dX12_play_119 qRX12_286 okl0 (by decide) ?_
      refine x_iconst (v := 1) (pc := 122) dX12_play_122 (by decide) ?_
      refine x_iadd (pc := 123) dX12_play_123 ?_
      refine y_putI (pc := 124) dX12_play_124 qRX12_286 okl0 (fun h33 eh33 nxh33 => ?_)
      have hwp := hwp h33 eh33
      have hex := hex.tr nxh33.1
      have hnn := nxh33.2.1.trans hnn
      have hzz := nxh33.2.2.trans hzz
      have hx35 := hx35.tr nxh33.1
      have hn35 := nxh33.2.1.trans hn35
      have hz35 := nxh33.2.2.trans hz35
      have okl0 := okl0.ex nxh33.1
      refine y_iinc (c := 1) (pc := 127) dX12_play_127 rfl (by decide) (by decide) (fun v34 ev34 => ?_)
      have hwp := hwp v34 ev34
      refine x_lvE (lv2 := [(4, .int v34), (3, .int 1), (6, .int v25), (0, .ref l0), (5, .int l5)]) rfl ?_
      refine x_goto (tgt := 35) (pc := 130) dX12_play_130 (by decide) ?_
      refine x_sub [3, 1, 0] rfl ?_
      exact hbk35 _ hwp ⟨hx35, hn35, hz35⟩
def wp_X12_play_72 (l0 : Nat) (l3 : Int32) (l4 : Int32) (s0 : Int32) (bk35 : Int32 × Int32 × PH → Prop) (h : PH) (Q : PH → Prop) : Prop := ((l3 = 0 → (∃ b19, qR h l0 22 = some b19 ∧ (vp_in s0 (qL h b19) ∧ (wp_X12_play_99 l0 l3 l4 s0 (qI h b19 s0.toNatClampNeg) (qI h l0 24) bk35 h Q)))) ∧ (¬ (l3 = 0) → (∃ b22, qR h l0 21 = some b22 ∧ (vp_in s0 (qL h b22) ∧ (wp_X12_play_99 l0 l3 l4 s0 (qI h b22 s0.toNatClampNeg) (qI h l0 24) bk35 h Q)))))
set_option maxHeartbeats 4000000 in
set_option maxRecDepth 100000 in
theorem sg_X12_play_72 (G : GT) (d : Nat) (h0 : PH) (l0 : Nat) (l3 : Int32) (l4 : Int32) (s0 : Int32) (h : PH) (Q : PH → Prop) (hb35 : PH) (bk35 : Int32 × Int32 × PH → Prop) (hbk35 : ∀ s2, bk35 s2 → E_X12_play_35 G d h0 hb35 l0 Q s2) (hx35 : qEx hb35 h) (hn35 : qn h = qn hb35) (hz35 : qz h = qz hb35) (hex : qEx h0 h) (hnn : qn h = qn h0 + 0) (hzz : qz h = qz h0 + 0) (okl0 : qOK h 11 l0) (hwp : wp_X12_play_72 l0 l3 l4 s0 bk35 h Q) : Ex G (qrm (1 + d) 0 0) mX12_play (qn h0) (qz h0) (ZN G h0 0 0 (qqv Q)) 72 [(0, .ref l0), (3, .int l3), (4, .int l4)] [.int s0] h := by
  unfold wp_X12_play_72 at hwp
  refine x_istore (lv2 := [(5, .int s0), (0, .ref l0), (3, .int l3), (4, .int l4)]) (pc := 72) dX12_play_72 (by decide) rfl ?_
  refine x_aload_n (pc := 74) dX12_play_74 rfl ?_
  refine x_getI (pc := 75) dX12_play_75 qRX12_283 okl0 (by decide) ?_
  refine x_iload_n (pc := 78) dX12_play_78 rfl ?_
  refine x_if_eq (tgt := 92) (pc := 79) dX12_play_79 (by decide) (fun c18 => ?_) (fun c18 => ?_)
  · have hwp := hwp.1 c18
    refine x_aload_n (pc := 92) dX12_play_92 rfl ?_
    obtain ⟨b19, e20, hwp⟩ := hwp
    refine x_getR (pc := 93) dX12_play_93 qRX12_36 okl0 e20 (fun okb19 => ?_)
    refine x_iload (pc := 96) dX12_play_96 rfl ?_
    obtain ⟨i21, hwp⟩ := hwp
    refine x_iaload (pc := 98) dX12_play_98 okb19 i21 ?_
    refine x_sub [1, 2, 3, 0] rfl ?_
    exact sg_X12_play_99 G d h0 l0 l3 l4 s0 (qI h b19 s0.toNatClampNeg) (qI h l0 24) h Q hb35 bk35 hbk35 hx35 hn35 hz35 hex hnn hzz okl0 hwp
  · have hwp := hwp.2 c18
    refine x_aload_n (pc := 82) dX12_play_82 rfl ?_
    obtain ⟨b22, e23, hwp⟩ := hwp
    refine x_getR (pc := 83) dX12_play_83 qRX12_33 okl0 e23 (fun okb22 => ?_)
    refine x_iload (pc := 86) dX12_play_86 rfl ?_
    obtain ⟨i24, hwp⟩ := hwp
    refine x_iaload (pc := 88) dX12_play_88 okb22 i24 ?_
    refine x_goto (tgt := 99) (pc := 89) dX12_play_89 (by decide) ?_
    refine x_sub [1, 2, 3, 0] rfl ?_
    exact sg_X12_play_99 G d h0 l0 l3 l4 s0 (qI h b22 s0.toNatClampNeg) (qI h l0 24) h Q hb35 bk35 hbk35 hx35 hn35 hz35 hex hnn hzz okl0 hwp
def wb_X12_play_35 (l0 : Nat)  (Q : PH → Prop) (bk35 : Int32 × Int32 × PH → Prop) (l3 : Int32) (l4 : Int32) (h : PH) : Prop := ((2 ≤ l4 → ((¬ l4 = 2 → (∀ h9, h9 = qsI h l0 28 0 → Q h9)) ∧ (l4 = 2 → (∀ h10, h10 = qsI h l0 28 1 → Q h10)))) ∧ (¬ (2 ≤ l4) → ((20000 ≤ (qI h l0 27) → ((¬ l4 = 2 → (∀ h13, h13 = qsI h l0 28 0 → Q h13)) ∧ (l4 = 2 → (∀ h14, h14 = qsI h l0 28 1 → Q h14)))) ∧ (¬ (20000 ≤ (qI h l0 27)) → ((l3 = 0 → (wp_X12_round l0 ((qI h l0 23) - 1) h (fun r17 h16 => (wp_X12_play_72 l0 l3 l4 r17 bk35 h16 Q)))) ∧ (¬ (l3 = 0) → (wp_X12_play_72 l0 l3 l4 (qI h l0 23) bk35 h Q)))))))
def wp_X12_play_35 (l0 : Nat)  (Q : PH → Prop) (bk35 : Int32 × Int32 × PH → Prop) (s : Int32 × Int32 × PH) : Prop := wb_X12_play_35 l0 Q bk35 s.1 s.2.1 s.2.2
set_option maxHeartbeats 4000000 in
set_option maxRecDepth 100000 in
theorem bd_X12_play_35 (G : GT) (d : Nat) (h0 hb : PH) (l0 : Nat) (Q : PH → Prop)  (hex : qEx h0 hb) (hnn : qn hb = qn h0 + 0) (hzz : qz hb = qz h0 + 0) (okl0 : qOK hb 11 l0) (bk35 : Int32 × Int32 × PH → Prop) (hbk35 : ∀ s2, bk35 s2 → E_X12_play_35 G d h0 hb l0 Q s2) (l3 : Int32) (l4 : Int32) (h : PH) (hwp : wb_X12_play_35 l0 Q bk35 l3 l4 h) (hx35 : qEx hb h) (hn35 : qn h = qn hb) (hz35 : qz h = qz hb) : Ex G (qrm (1 + d) 0 0) mX12_play (qn h0) (qz h0) (ZN G h0 0 0 (qqv Q)) 35 [(0, .ref l0), (3, .int l3), (4, .int l4)] [] h := by
  unfold wb_X12_play_35 at hwp
  have hex := hex.tr hx35
  have hnn := hn35.trans hnn
  have hzz := hz35.trans hzz
  have okl0 := okl0.ex hx35
  refine x_iload (pc := 35) dX12_play_35 rfl ?_
  refine x_iconst (v := 2) (pc := 37) dX12_play_37 (by decide) ?_
  refine x_icmp_ge (tgt := 193) (pc := 38) dX12_play_38 (by decide) (fun c7 => ?_) (fun c7 => ?_)
  · have hwp := hwp.1 c7
    refine x_aload_n (pc := 193) dX12_play_193 rfl ?_
    refine x_iload (pc := 194) dX12_play_194 rfl ?_
    refine x_iconst (v := 2) (pc := 196) dX12_play_196 (by decide) ?_
    refine x_icmp_ne (tgt := 204) (pc := 197) dX12_play_197 (by decide) (fun c8 => ?_) (fun c8 => ?_)
    · have hwp := hwp.1 c8
      refine x_iconst (v := 0) (pc := 204) dX12_play_204 (by decide) ?_
      refine y_putZ (pc := 205) dX12_play_205 qRX12_295 okl0 (by decide) (fun h9 eh9 nxh9 => ?_)
      have hwp := hwp h9 eh9
      have hex := hex.tr nxh9.1
      have hnn := nxh9.2.1.trans hnn
      have hzz := nxh9.2.2.trans hzz
      have hx35 := hx35.tr nxh9.1
      have hn35 := nxh9.2.1.trans hn35
      have hz35 := nxh9.2.2.trans hz35
      have okl0 := okl0.ex nxh9.1
      exact x_vret (pc := 208) dX12_play_208 rfl hex hnn hzz ⟨rfl, hwp⟩
    · have hwp := hwp.2 c8
      refine x_iconst (v := 1) (pc := 200) dX12_play_200 (by decide) ?_
      refine x_goto (tgt := 205) (pc := 201) dX12_play_201 (by decide) ?_
      refine y_putZ (pc := 205) dX12_play_205 qRX12_295 okl0 (by decide) (fun h10 eh10 nxh10 => ?_)
      have hwp := hwp h10 eh10
      have hex := hex.tr nxh10.1
      have hnn := nxh10.2.1.trans hnn
      have hzz := nxh10.2.2.trans hzz
      have hx35 := hx35.tr nxh10.1
      have hn35 := nxh10.2.1.trans hn35
      have hz35 := nxh10.2.2.trans hz35
      have okl0 := okl0.ex nxh10.1
      exact x_vret (pc := 208) dX12_play_208 rfl hex hnn hzz ⟨rfl, hwp⟩
  · have hwp := hwp.2 c7
    refine x_aload_n (pc := 41) dX12_play_41 rfl ?_
    refine x_getI (pc := 42) dX12_play_42 qRX12_292 okl0 (by decide) ?_
    refine x_sipush (v := 20000) (pc := 45) dX12_play_45 (by decide) ?_
    refine x_icmp_ge (tgt := 193) (pc := 48) dX12_play_48 (by decide) (fun c11 => ?_) (fun c11 => ?_)
    · have hwp := hwp.1 c11
      refine x_aload_n (pc := 193) dX12_play_193 rfl ?_
      refine x_iload (pc := 194) dX12_play_194 rfl ?_
      refine x_iconst (v := 2) (pc := 196) dX12_play_196 (by decide) ?_
      refine x_icmp_ne (tgt := 204) (pc := 197) dX12_play_197 (by decide) (fun c12 => ?_) (fun c12 => ?_)
      · have hwp := hwp.1 c12
        refine x_iconst (v := 0) (pc := 204) dX12_play_204 (by decide) ?_
        refine y_putZ (pc := 205) dX12_play_205 qRX12_295 okl0 (by decide) (fun h13 eh13 nxh13 => ?_)
        have hwp := hwp h13 eh13
        have hex := hex.tr nxh13.1
        have hnn := nxh13.2.1.trans hnn
        have hzz := nxh13.2.2.trans hzz
        have hx35 := hx35.tr nxh13.1
        have hn35 := nxh13.2.1.trans hn35
        have hz35 := nxh13.2.2.trans hz35
        have okl0 := okl0.ex nxh13.1
        exact x_vret (pc := 208) dX12_play_208 rfl hex hnn hzz ⟨rfl, hwp⟩
      · have hwp := hwp.2 c12
        refine x_iconst (v := 1) (pc := 200) dX12_play_200 (by decide) ?_
        refine x_goto (tgt := 205) (pc := 201) dX12_play_201 (by decide) ?_
        refine y_putZ (pc := 205) dX12_play_205 qRX12_295 okl0 (by decide) (fun h14 eh14 nxh14 => ?_)
        have hwp := hwp h14 eh14
        have hex := hex.tr nxh14.1
        have hnn := nxh14.2.1.trans hnn
        have hzz := nxh14.2.2.trans hzz
        have hx35 := hx35.tr nxh14.1
        have hn35 := nxh14.2.1.trans hn35
        have hz35 := nxh14.2.2.trans hz35
        have okl0 := okl0.ex nxh14.1
        exact x_vret (pc := 208) dX12_play_208 rfl hex hnn hzz ⟨rfl, hwp⟩
    · have hwp := hwp.2 c11
      refine x_iload_n (pc := 51) dX12_play_51 rfl ?_
      refine x_if_eq (tgt := 62) (pc := 52) dX12_play_52 (by decide) (fun c15 => ?_) (fun c15 => ?_)
      · have hwp := hwp.1 c15
        refine x_aload_n (pc := 62) dX12_play_62 rfl ?_
        refine x_aload_n (pc := 63) dX12_play_63 rfl ?_
        refine x_getI (pc := 64) dX12_play_64 qRX12_281 okl0 (by decide) ?_
        refine x_iconst (v := 1) (pc := 67) dX12_play_67 (by decide) ?_
        refine x_isub (pc := 68) dX12_play_68 ?_
        refine x_invV (As := [.int ((qI h l0 23) - 1)]) (st := []) (pc := 69) dX12_play_69 lRX12_239 fX12_round vX12_round okl0 rfl (Nat.le_of_ble_eq_true rfl) (q_R (by omega) (by decide)) (q_C hnn hzz (by decide) (by decide)) (sn_X12_round G (d + 0) l0 ((qI h l0 23) - 1) h _ okl0 hwp) (k_i (fun r17 h16 hwp cxh16 => ?_))
        have hex := hex.tr cxh16.1
        have hnn : qn h16 = qn h0 + 0 := by have := cxh16.2.1; omega
        have hzz : qz h16 = qz h0 + 0 := by have := cxh16.2.2; omega
        have hx35 := hx35.tr cxh16.1
        have hn35 : qn h16 = qn hb := by have := cxh16.2.1; omega
        have hz35 : qz h16 = qz hb := by have := cxh16.2.2; omega
        have okl0 := okl0.ex cxh16.1
        refine x_sub [0, 1, 2] rfl ?_
        exact sg_X12_play_72 G d h0 l0 l3 l4 r17 h16 Q hb bk35 hbk35 hx35 hn35 hz35 hex hnn hzz okl0 hwp
      · have hwp := hwp.2 c15
        refine x_aload_n (pc := 55) dX12_play_55 rfl ?_
        refine x_getI (pc := 56) dX12_play_56 qRX12_281 okl0 (by decide) ?_
        refine x_goto (tgt := 72) (pc := 59) dX12_play_59 (by decide) ?_
        refine x_sub [0, 1, 2] rfl ?_
        exact sg_X12_play_72 G d h0 l0 l3 l4 (qI h l0 23) h Q hb bk35 hbk35 hx35 hn35 hz35 hex hnn hzz okl0 hwp
theorem lp_X12_play_35 (G : GT) (d : Nat) (h0 hb : PH) (l0 : Nat) (Q : PH → Prop)  (hex : qEx h0 hb) (hnn : qn hb = qn h0 + 0) (hzz : qz hb = qz h0 + 0) (okl0 : qOK hb 11 l0) {s : Int32 × Int32 × PH} (hwp : qLoop (wp_X12_play_35 l0 Q) s) : E_X12_play_35 G d h0 hb l0 Q s :=
  qLoop.use (E := E_X12_play_35 G d h0 hb l0 Q) (fun back s hbk hw hx => bd_X12_play_35 G d h0 hb l0 Q hex hnn hzz okl0 back hbk s.1 s.2.1 s.2.2 hw hx.1 hx.2.1 hx.2.2) hwp
def wp_X12_play (l0 : Nat) (l1 : Int32) (l2 : Int32) (h : PH) (Q : PH → Prop) : Prop := (∀ h1, h1 = qsI h l0 23 l1 → (∀ h2, h2 = qsI h1 l0 24 l2 → (∀ h3, h3 = qsI h2 l0 25 0 → (∀ h4, h4 = qsI h3 l0 26 l2 → (∀ h5, h5 = qsI h4 l0 27 0 → (∀ h6, h6 = qsI h5 l0 28 0 → (qLoop (wp_X12_play_35 l0 Q) (1, 0, h6))))))))
set_option maxHeartbeats 4000000 in
set_option maxRecDepth 100000 in
theorem sn_X12_play (G : GT) (d : Nat) (l0 : Nat) (l1 : Int32) (l2 : Int32) (h : PH) (Q : PH → Prop) (okl0 : qOK h 11 l0) (hwp : wp_X12_play l0 l1 l2 h Q) : Mt G (1 + d) 0 0 mX12_play [.ref l0, .int l1, .int l2] h (qqv Q) := by
  unfold wp_X12_play at hwp
  refine Mt.of (by decide) rfl (Nat.le_of_ble_eq_true rfl) ?_
  have hex := qEx.rf h
  have hnn : qn h = qn h + 0 := rfl
  have hzz : qz h = qz h + 0 := rfl
  refine x_lvE (lv2 := [(0, .ref l0), (1, .int l1), (2, .int l2)]) rfl ?_
  refine x_aload_n (pc := 0) dX12_play_0 rfl ?_
  refine x_iload_n (pc := 1) dX12_play_1 rfl ?_
  refine y_putI (pc := 2) dX12_play_2 qRX12_281 okl0 (fun h1 eh1 nxh1 => ?_)
  have hwp := hwp h1 eh1
  have hex := hex.tr nxh1.1
  have hnn := nxh1.2.1.trans hnn
  have hzz := nxh1.2.2.trans hzz
  have okl0 := okl0.ex nxh1.1
  refine x_aload_n (pc := 5) dX12_play_5 rfl ?_
  refine x_iload_n (pc := 6) dX12_play_6 rfl ?_
  refine y_putI (pc := 7) dX12_play_7 qRX12_283 okl0 (fun h2 eh2 nxh2 => ?_)
  have hwp := hwp h2 eh2
  have hex := hex.tr nxh2.1
  have hnn := nxh2.2.1.trans hnn
  have hzz := nxh2.2.2.trans hzz
  have okl0 := okl0.ex nxh2.1
  refine x_aload_n (pc := 10) dX12_play_10 rfl ?_
  refine x_iconst (v := 0) (pc := 11) dX12_play_11 (by decide) ?_
  refine y_putI (pc := 12) dX12_play_12 qRX12_286 okl0 (fun h3 eh3 nxh3 => ?_)
  have hwp := hwp h3 eh3
  have hex := hex.tr nxh3.1
  have hnn := nxh3.2.1.trans hnn
  have hzz := nxh3.2.2.trans hzz
  have okl0 := okl0.ex nxh3.1
  refine x_aload_n (pc := 15) dX12_play_15 rfl ?_
  refine x_iload_n (pc := 16) dX12_play_16 rfl ?_
  refine y_putI (pc := 17) dX12_play_17 qRX12_289 okl0 (fun h4 eh4 nxh4 => ?_)
  have hwp := hwp h4 eh4
  have hex := hex.tr nxh4.1
  have hnn := nxh4.2.1.trans hnn
  have hzz := nxh4.2.2.trans hzz
  have okl0 := okl0.ex nxh4.1
  refine x_aload_n (pc := 20) dX12_play_20 rfl ?_
  refine x_iconst (v := 0) (pc := 21) dX12_play_21 (by decide) ?_
  refine y_putI (pc := 22) dX12_play_22 qRX12_292 okl0 (fun h5 eh5 nxh5 => ?_)
  have hwp := hwp h5 eh5
  have hex := hex.tr nxh5.1
  have hnn := nxh5.2.1.trans hnn
  have hzz := nxh5.2.2.trans hzz
  have okl0 := okl0.ex nxh5.1
  refine x_aload_n (pc := 25) dX12_play_25 rfl ?_
  refine x_iconst (v := 0) (pc := 26) dX12_play_26 (by decide) ?_
  refine y_putZ (pc := 27) dX12_play_27 qRX12_295 okl0 (by decide) (fun h6 eh6 nxh6 => ?_)
  have hwp := hwp h6 eh6
  have hex := hex.tr nxh6.1
  have hnn := nxh6.2.1.trans hnn
  have hzz := nxh6.2.2.trans hzz
  have okl0 := okl0.ex nxh6.1
  refine x_iconst (v := 1) (pc := 30) dX12_play_30 (by decide) ?_
  refine x_istore_n (lv2 := [(3, .int 1), (0, .ref l0), (1, .int l1), (2, .int l2)]) (pc := 31) dX12_play_31 (by decide) rfl ?_
  refine x_iconst (v := 0) (pc := 32) dX12_play_32 (by decide) ?_
  refine x_istore (lv2 := [(4, .int 0), (3, .int 1), (0, .ref l0), (1, .int l1), (2, .int l2)]) (pc := 33) dX12_play_33 (by decide) rfl ?_
  refine x_sub [2, 1, 0] rfl ?_
  exact lp_X12_play_35 G d h h6 l0 Q hex hnn hzz okl0 hwp ⟨qEx.rf _, rfl, rfl⟩

theorem dX12_run_0 : decode cX12_run 0 = .ok (.aload_n 0, 1) := by decide +kernel
theorem dX12_run_1 : decode cX12_run 1 = .ok (.iconst 0, 1) := by decide +kernel
theorem dX12_run_2 : decode cX12_run 2 = .ok (.putfield 75, 3) := by decide +kernel
theorem dX12_run_5 : decode cX12_run 5 = .ok (.aload_n 0, 1) := by decide +kernel
theorem dX12_run_6 : decode cX12_run 6 = .ok (.iload_n 1, 1) := by decide +kernel
theorem dX12_run_7 : decode cX12_run 7 = .ok (.invokevirtual 259, 3) := by decide +kernel
theorem dX12_run_10 : decode cX12_run 10 = .ok (.ifCond .eq 21, 3) := by decide +kernel
theorem dX12_run_13 : decode cX12_run 13 = .ok (.iload_n 2, 1) := by decide +kernel
theorem dX12_run_14 : decode cX12_run 14 = .ok (.iconst 0, 1) := by decide +kernel
theorem dX12_run_15 : decode cX12_run 15 = .ok (.ldc_w 298, 3) := by decide +kernel
theorem dX12_run_18 : decode cX12_run 18 = .ok (.invokestatic 139, 3) := by decide +kernel
theorem dX12_run_21 : decode cX12_run 21 = .ok (.ifCond .eq 10, 3) := by decide +kernel
theorem dX12_run_24 : decode cX12_run 24 = .ok (.iload_n 3, 1) := by decide +kernel
theorem dX12_run_25 : decode cX12_run 25 = .ok (.invokestatic 265, 3) := by decide +kernel
theorem dX12_run_28 : decode cX12_run 28 = .ok (.ifCond .ne 5, 3) := by decide +kernel
theorem dX12_run_31 : decode cX12_run 31 = .ok (.iconst (-1), 1) := by decide +kernel
theorem dX12_run_32 : decode cX12_run 32 = .ok (.ireturn, 1) := by decide +kernel
theorem dX12_run_33 : decode cX12_run 33 = .ok (.aload_n 0, 1) := by decide +kernel
theorem dX12_run_34 : decode cX12_run 34 = .ok (.iload_n 3, 1) := by decide +kernel
theorem dX12_run_35 : decode cX12_run 35 = .ok (.invokevirtual 299, 3) := by decide +kernel
theorem dX12_run_38 : decode cX12_run 38 = .ok (.aload_n 0, 1) := by decide +kernel
theorem dX12_run_39 : decode cX12_run 39 = .ok (.iload_n 1, 1) := by decide +kernel
theorem dX12_run_40 : decode cX12_run 40 = .ok (.iload_n 2, 1) := by decide +kernel
theorem dX12_run_41 : decode cX12_run 41 = .ok (.invokevirtual 302, 3) := by decide +kernel
theorem dX12_run_44 : decode cX12_run 44 = .ok (.aload_n 0, 1) := by decide +kernel
theorem dX12_run_45 : decode cX12_run 45 = .ok (.iconst 1, 1) := by decide +kernel
theorem dX12_run_46 : decode cX12_run 46 = .ok (.putfield 305, 3) := by decide +kernel
theorem dX12_run_49 : decode cX12_run 49 = .ok (.aload_n 0, 1) := by decide +kernel
theorem dX12_run_50 : decode cX12_run 50 = .ok (.aload_n 0, 1) := by decide +kernel
theorem dX12_run_51 : decode cX12_run 51 = .ok (.getfield 281, 3) := by decide +kernel
theorem dX12_run_54 : decode cX12_run 54 = .ok (.putfield 308, 3) := by decide +kernel
theorem dX12_run_57 : decode cX12_run 57 = .ok (.aload_n 0, 1) := by decide +kernel
theorem dX12_run_58 : decode cX12_run 58 = .ok (.aload_n 0, 1) := by decide +kernel
theorem dX12_run_59 : decode cX12_run 59 = .ok (.getfield 283, 3) := by decide +kernel
theorem dX12_run_62 : decode cX12_run 62 = .ok (.putfield 311, 3) := by decide +kernel
theorem dX12_run_65 : decode cX12_run 65 = .ok (.aload_n 0, 1) := by decide +kernel
theorem dX12_run_66 : decode cX12_run 66 = .ok (.aload_n 0, 1) := by decide +kernel
theorem dX12_run_67 : decode cX12_run 67 = .ok (.getfield 286, 3) := by decide +kernel
theorem dX12_run_70 : decode cX12_run 70 = .ok (.putfield 314, 3) := by decide +kernel
theorem dX12_run_73 : decode cX12_run 73 = .ok (.aload_n 0, 1) := by decide +kernel
theorem dX12_run_74 : decode cX12_run 74 = .ok (.aload_n 0, 1) := by decide +kernel
theorem dX12_run_75 : decode cX12_run 75 = .ok (.getfield 289, 3) := by decide +kernel
theorem dX12_run_78 : decode cX12_run 78 = .ok (.putfield 317, 3) := by decide +kernel
theorem dX12_run_81 : decode cX12_run 81 = .ok (.aload_n 0, 1) := by decide +kernel
theorem dX12_run_82 : decode cX12_run 82 = .ok (.aload_n 0, 1) := by decide +kernel
theorem dX12_run_83 : decode cX12_run 83 = .ok (.getfield 295, 3) := by decide +kernel
theorem dX12_run_86 : decode cX12_run 86 = .ok (.putfield 320, 3) := by decide +kernel
theorem dX12_run_89 : decode cX12_run 89 = .ok (.aload_n 0, 1) := by decide +kernel
theorem dX12_run_90 : decode cX12_run 90 = .ok (.getfield 292, 3) := by decide +kernel
theorem dX12_run_93 : decode cX12_run 93 = .ok (.ireturn, 1) := by decide +kernel
def wp_X12_run (l0 : Nat) (l1 : Int32) (l2 : Int32) (l3 : Int32) (h : PH) (Q : Int32 → PH → Prop) : Prop := (∀ h1, h1 = qsI h l0 0 0 → (wp_X12_isTime l0 l1 h1 (fun r3 h2 => ((r3 = 0 → Q (-1) h2) ∧ (¬ (r3 = 0) → (wp_X12_isIn l2 0 100000 h2 (fun r6 h5 => ((r6 = 0 → Q (-1) h5) ∧ (¬ (r6 = 0) → (wp_X12_isWorld l3 h5 (fun r9 h8 => ((¬ r9 = 0 → (wp_X12_layWorld l0 l3 h8 (fun h11 => (wp_X12_play l0 l1 l2 h11 (fun h13 => (∀ h15, h15 = qsI h13 l0 33 1 → (∀ h16, h16 = qsI h15 l0 29 (qI h15 l0 23) → (∀ h17, h17 = qsI h16 l0 30 (qI h16 l0 24) → (∀ h18, h18 = qsI h17 l0 31 (qI h17 l0 25) → (∀ h19, h19 = qsI h18 l0 32 (qI h18 l0 26) → ((qI h19 l0 28 = 0 ∨ qI h19 l0 28 = 1) ∧ ∀ h20, h20 = qsI h19 l0 34 (qI h19 l0 28) → Q (qI h20 l0 27) h20))))))))))) ∧ (r9 = 0 → Q (-1) h8)))))))))))))
set_option maxHeartbeats 4000000 in
set_option maxRecDepth 100000 in
theorem sn_X12_run (G : GT) (d : Nat) (l0 : Nat) (l1 : Int32) (l2 : Int32) (l3 : Int32) (h : PH) (Q : Int32 → PH → Prop) (okl0 : qOK h 11 l0) (hwp : wp_X12_run l0 l1 l2 l3 h Q) : Mt G (6 + d) 0 0 mX12_run [.ref l0, .int l1, .int l2, .int l3] h (qqi Q) := by
  unfold wp_X12_run at hwp
  refine Mt.of (by decide) rfl (Nat.le_of_ble_eq_true rfl) ?_
  have hex := qEx.rf h
  have hnn : qn h = qn h + 0 := rfl
  have hzz : qz h = qz h + 0 := rfl
  refine x_lvE (lv2 := [(0, .ref l0), (1, .int l1), (2, .int l2), (3, .int l3)]) rfl ?_
  refine x_aload_n (pc := 0) dX12_run_0 rfl ?_
  refine x_iconst (v := 0) (pc := 1) dX12_run_1 (by decide) ?_
  refine y_putI (pc := 2) dX12_run_2 qRX12_75 okl0 (fun h1 eh1 nxh1 => ?_)
  have hwp := hwp h1 eh1
  have hex := hex.tr nxh1.1
  have hnn := nxh1.2.1.trans hnn
  have hzz := nxh1.2.2.trans hzz
  have okl0 := okl0.ex nxh1.1
  refine x_aload_n (pc := 5) dX12_run_5 rfl ?_
  refine x_iload_n (pc := 6) dX12_run_6 rfl ?_
  refine x_invV (As := [.int l1]) (st := []) (pc := 7) dX12_run_7 lRX12_259 fX12_isTime vX12_isTime okl0 rfl (Nat.le_of_ble_eq_true rfl) (q_R (by omega) (by decide)) (q_C hnn hzz (by decide) (by decide)) (sn_X12_isTime G (d + 4) l0 l1 h1 _ okl0 hwp) (k_b (fun r3 h2 hwp zbr3 cxh2 => ?_))
  have hex := hex.tr cxh2.1
  have hnn : qn h2 = qn h + 0 := by have := cxh2.2.1; omega
  have hzz : qz h2 = qz h + 0 := by have := cxh2.2.2; omega
  have okl0 := okl0.ex cxh2.1
  refine x_if_eq (tgt := 31) (pc := 10) dX12_run_10 (by decide) (fun c4 => ?_) (fun c4 => ?_)
  · have hwp := hwp.1 c4
    refine x_iconst (v := (-1)) (pc := 31) dX12_run_31 (by decide) ?_
    exact x_iret (pc := 32) dX12_run_32 rfl hex hnn hzz ⟨_, rfl, hwp⟩
  · have hwp := hwp.2 c4
    refine x_iload_n (pc := 13) dX12_run_13 rfl ?_
    refine x_iconst (v := 0) (pc := 14) dX12_run_14 (by decide) ?_
    refine x_ldcw (v := 100000) (pc := 15) dX12_run_15 kRX12_298 ?_
    refine x_invS (As := [.int l2, .int 0, .int 100000]) (st := []) (pc := 18) dX12_run_18 lRX12_139 fX12_isIn sX12_isIn rfl (Nat.le_of_ble_eq_true rfl) (q_R (by omega) (by decide)) (q_C hnn hzz (by decide) (by decide)) (sn_X12_isIn G (d + 5) l2 0 100000 h2 _  hwp) (k_b (fun r6 h5 hwp zbr6 cxh5 => ?_))
    have hex := hex.tr cxh5.1
    have hnn : qn h5 = qn h + 0 := by have := cxh5.2.1; omega
    have hzz : qz h5 = qz h + 0 := by have := cxh5.2.2; omega
    have okl0 := okl0.ex cxh5.1
    refine x_if_eq (tgt := 31) (pc := 21) dX12_run_21 (by decide) (fun c7 => ?_) (fun c7 => ?_)
    · have hwp := hwp.1 c7
      refine x_iconst (v := (-1)) (pc := 31) dX12_run_31 (by decide) ?_
      exact x_iret (pc := 32) dX12_run_32 rfl hex hnn hzz ⟨_, rfl, hwp⟩
    · have hwp := hwp.2 c7
      refine x_iload_n (pc := 24) dX12_run_24 rfl ?_
      refine x_invS (As := [.int l3]) (st := []) (pc := 25) dX12_run_25 lRX12_265 fX12_isWorld sX12_isWorld rfl (Nat.le_of_ble_eq_true rfl) (q_R (by omega) (by decide)) (q_C hnn hzz (by decide) (by decide)) (sn_X12_isWorld G (d + 5) l3 h5 _  hwp) (k_b (fun r9 h8 hwp zbr9 cxh8 => ?_))
      have hex := hex.tr cxh8.1
      have hnn : qn h8 = qn h + 0 := by have := cxh8.2.1; omega
      have hzz : qz h8 = qz h + 0 := by have := cxh8.2.2; omega
      have okl0 := okl0.ex cxh8.1
      refine x_if_ne (tgt := 33) (pc := 28) dX12_run_28 (by decide) (fun c10 => ?_) (fun c10 => ?_)
      · have hwp := hwp.1 c10
        refine x_aload_n (pc := 33) dX12_run_33 rfl ?_
        refine x_iload_n (pc := 34) dX12_run_34 rfl ?_
        refine x_invV (As := [.int l3]) (st := []) (pc := 35) dX12_run_35 lRX12_299 fX12_layWorld vX12_layWorld okl0 rfl (Nat.le_of_ble_eq_true rfl) (q_R (by omega) (by decide)) (q_C hnn hzz (by decide) (by decide)) (sn_X12_layWorld G (d + 0) l0 l3 h8 _ okl0 hwp) (k_v (fun h11 hwp cxh11 => ?_))
        have hex := hex.tr cxh11.1
        have hnn : qn h11 = qn h + 0 := by have := cxh11.2.1; omega
        have hzz : qz h11 = qz h + 0 := by have := cxh11.2.2; omega
        have okl0 := okl0.ex cxh11.1
        refine x_aload_n (pc := 38) dX12_run_38 rfl ?_
        refine x_iload_n (pc := 39) dX12_run_39 rfl ?_
        refine x_iload_n (pc := 40) dX12_run_40 rfl ?_
        refine x_invV (As := [.int l1, .int l2]) (st := []) (pc := 41) dX12_run_41 lRX12_302 fX12_play vX12_play okl0 rfl (Nat.le_of_ble_eq_true rfl) (q_R (by omega) (by decide)) (q_C hnn hzz (by decide) (by decide)) (sn_X12_play G (d + 4) l0 l1 l2 h11 _ okl0 hwp) (k_v (fun h13 hwp cxh13 => ?_))
        have hex := hex.tr cxh13.1
        have hnn : qn h13 = qn h + 0 := by have := cxh13.2.1; omega
        have hzz : qz h13 = qz h + 0 := by have := cxh13.2.2; omega
        have okl0 := okl0.ex cxh13.1
        refine x_aload_n (pc := 44) dX12_run_44 rfl ?_
        refine x_iconst (v := 1) (pc := 45) dX12_run_45 (by decide) ?_
        refine y_putZ (pc := 46) dX12_run_46 qRX12_305 okl0 (by decide) (fun h15 eh15 nxh15 => ?_)
        have hwp := hwp h15 eh15
        have hex := hex.tr nxh15.1
        have hnn := nxh15.2.1.trans hnn
        have hzz := nxh15.2.2.trans hzz
        have okl0 := okl0.ex nxh15.1
        refine x_aload_n (pc := 49) dX12_run_49 rfl ?_
        refine x_aload_n (pc := 50) dX12_run_50 rfl ?_
        refine x_getI (pc := 51) dX12_run_51 qRX12_281 okl0 (by decide) ?_
        refine y_putI (pc := 54) dX12_run_54 qRX12_308 okl0 (fun h16 eh16 nxh16 => ?_)
        have hwp := hwp h16 eh16
        have hex := hex.tr nxh16.1
        have hnn := nxh16.2.1.trans hnn
        have hzz := nxh16.2.2.trans hzz
        have okl0 := okl0.ex nxh16.1
        refine x_aload_n (pc := 57) dX12_run_57 rfl ?_
        refine x_aload_n (pc := 58) dX12_run_58 rfl ?_
        refine x_getI (pc := 59) dX12_run_59 qRX12_283 okl0 (by decide) ?_
        refine y_putI (pc := 62) dX12_run_62 qRX12_311 okl0 (fun h17 eh17 nxh17 => ?_)
        have hwp := hwp h17 eh17
        have hex := hex.tr nxh17.1
        have hnn := nxh17.2.1.trans hnn
        have hzz := nxh17.2.2.trans hzz
        have okl0 := okl0.ex nxh17.1
        refine x_aload_n (pc := 65) dX12_run_65 rfl ?_
        refine x_aload_n (pc := 66) dX12_run_66 rfl ?_
        refine x_getI (pc := 67) dX12_run_67 qRX12_286 okl0 (by decide) ?_
        refine y_putI (pc := 70) dX12_run_70 qRX12_314 okl0 (fun h18 eh18 nxh18 => ?_)
        have hwp := hwp h18 eh18
        have hex := hex.tr nxh18.1
        have hnn := nxh18.2.1.trans hnn
        have hzz := nxh18.2.2.trans hzz
        have okl0 := okl0.ex nxh18.1
        refine x_aload_n (pc := 73) dX12_run_73 rfl ?_
        refine x_aload_n (pc := 74) dX12_run_74 rfl ?_
        refine x_getI (pc := 75) dX12_run_75 qRX12_289 okl0 (by decide) ?_
        refine y_putI (pc := 78) dX12_run_78 qRX12_317 okl0 (fun h19 eh19 nxh19 => ?_)
        have hwp := hwp h19 eh19
        have hex := hex.tr nxh19.1
        have hnn := nxh19.2.1.trans hnn
        have hzz := nxh19.2.2.trans hzz
        have okl0 := okl0.ex nxh19.1
        refine x_aload_n (pc := 81) dX12_run_81 rfl ?_
        refine x_aload_n (pc := 82) dX12_run_82 rfl ?_
        refine x_getI (pc := 83) dX12_run_83 qRX12_295 okl0 (by decide) ?_
        obtain ⟨z21, hwp⟩ := hwp
        refine y_putZ (pc := 86) dX12_run_86 qRX12_320 okl0 z21 (fun h20 eh20 nxh20 => ?_)
        have hwp := hwp h20 eh20
        have hex := hex.tr nxh20.1
        have hnn := nxh20.2.1.trans hnn
        have hzz := nxh20.2.2.trans hzz
        have okl0 := okl0.ex nxh20.1
        refine x_aload_n (pc := 89) dX12_run_89 rfl ?_
        refine x_getI (pc := 90) dX12_run_90 qRX12_292 okl0 (by decide) ?_
        exact x_iret (pc := 93) dX12_run_93 rfl hex hnn hzz ⟨_, rfl, hwp⟩
      · have hwp := hwp.2 c10
        refine x_iconst (v := (-1)) (pc := 31) dX12_run_31 (by decide) ?_
        exact x_iret (pc := 32) dX12_run_32 rfl hex hnn hzz ⟨_, rfl, hwp⟩

theorem dX12_ran_0 : decode cX12_ran 0 = .ok (.aload_n 0, 1) := by decide +kernel
theorem dX12_ran_1 : decode cX12_ran 1 = .ok (.iconst 0, 1) := by decide +kernel
theorem dX12_ran_2 : decode cX12_ran 2 = .ok (.putfield 75, 3) := by decide +kernel
theorem dX12_ran_5 : decode cX12_ran 5 = .ok (.aload_n 0, 1) := by decide +kernel
theorem dX12_ran_6 : decode cX12_ran 6 = .ok (.getfield 305, 3) := by decide +kernel
theorem dX12_ran_9 : decode cX12_ran 9 = .ok (.ifCond .ne 5, 3) := by decide +kernel
theorem dX12_ran_12 : decode cX12_ran 12 = .ok (.iconst (-1), 1) := by decide +kernel
theorem dX12_ran_13 : decode cX12_ran 13 = .ok (.ireturn, 1) := by decide +kernel
theorem dX12_ran_14 : decode cX12_ran 14 = .ok (.iload_n 1, 1) := by decide +kernel
theorem dX12_ran_15 : decode cX12_ran 15 = .ok (.tableswitch 66 0 4 #[33, 38, 43, 48, 53], 33) := by decide +kernel
theorem dX12_ran_48 : decode cX12_ran 48 = .ok (.aload_n 0, 1) := by decide +kernel
theorem dX12_ran_49 : decode cX12_ran 49 = .ok (.getfield 308, 3) := by decide +kernel
theorem dX12_ran_52 : decode cX12_ran 52 = .ok (.ireturn, 1) := by decide +kernel
theorem dX12_ran_53 : decode cX12_ran 53 = .ok (.aload_n 0, 1) := by decide +kernel
theorem dX12_ran_54 : decode cX12_ran 54 = .ok (.getfield 311, 3) := by decide +kernel
theorem dX12_ran_57 : decode cX12_ran 57 = .ok (.ireturn, 1) := by decide +kernel
theorem dX12_ran_58 : decode cX12_ran 58 = .ok (.aload_n 0, 1) := by decide +kernel
theorem dX12_ran_59 : decode cX12_ran 59 = .ok (.getfield 314, 3) := by decide +kernel
theorem dX12_ran_62 : decode cX12_ran 62 = .ok (.ireturn, 1) := by decide +kernel
theorem dX12_ran_63 : decode cX12_ran 63 = .ok (.aload_n 0, 1) := by decide +kernel
theorem dX12_ran_64 : decode cX12_ran 64 = .ok (.getfield 317, 3) := by decide +kernel
theorem dX12_ran_67 : decode cX12_ran 67 = .ok (.ireturn, 1) := by decide +kernel
theorem dX12_ran_68 : decode cX12_ran 68 = .ok (.aload_n 0, 1) := by decide +kernel
theorem dX12_ran_69 : decode cX12_ran 69 = .ok (.getfield 320, 3) := by decide +kernel
theorem dX12_ran_72 : decode cX12_ran 72 = .ok (.ifCond .eq 7, 3) := by decide +kernel
theorem dX12_ran_75 : decode cX12_ran 75 = .ok (.iconst 1, 1) := by decide +kernel
theorem dX12_ran_76 : decode cX12_ran 76 = .ok (.goto 4, 3) := by decide +kernel
theorem dX12_ran_79 : decode cX12_ran 79 = .ok (.iconst 0, 1) := by decide +kernel
theorem dX12_ran_80 : decode cX12_ran 80 = .ok (.ireturn, 1) := by decide +kernel
theorem dX12_ran_81 : decode cX12_ran 81 = .ok (.iconst (-1), 1) := by decide +kernel
theorem dX12_ran_82 : decode cX12_ran 82 = .ok (.ireturn, 1) := by decide +kernel
def wp_X12_ran (l0 : Nat) (l1 : Int32) (h : PH) (Q : Int32 → PH → Prop) : Prop := (∀ h1, h1 = qsI h l0 0 0 → ((¬ (qI h1 l0 33) = 0 → ((l1 = 0 → Q (qI h1 l0 29) h1) ∧ (l1 = 1 → Q (qI h1 l0 30) h1) ∧ (l1 = 2 → Q (qI h1 l0 31) h1) ∧ (l1 = 3 → Q (qI h1 l0 32) h1) ∧ (l1 = 4 → (((qI h1 l0 34) = 0 → Q 0 h1) ∧ (¬ ((qI h1 l0 34) = 0) → Q 1 h1))) ∧ (¬ l1 = 0 → ¬ l1 = 1 → ¬ l1 = 2 → ¬ l1 = 3 → ¬ l1 = 4 → Q (-1) h1))) ∧ ((qI h1 l0 33) = 0 → Q (-1) h1)))
set_option maxHeartbeats 4000000 in
set_option maxRecDepth 100000 in
theorem sn_X12_ran (G : GT) (d : Nat) (l0 : Nat) (l1 : Int32) (h : PH) (Q : Int32 → PH → Prop) (okl0 : qOK h 11 l0) (hwp : wp_X12_ran l0 l1 h Q) : Mt G (0 + d) 0 0 mX12_ran [.ref l0, .int l1] h (qqi Q) := by
  unfold wp_X12_ran at hwp
  refine Mt.of (by decide) rfl (Nat.le_of_ble_eq_true rfl) ?_
  have hex := qEx.rf h
  have hnn : qn h = qn h + 0 := rfl
  have hzz : qz h = qz h + 0 := rfl
  refine x_lvE (lv2 := [(0, .ref l0), (1, .int l1)]) rfl ?_
  refine x_aload_n (pc := 0) dX12_ran_0 rfl ?_
  refine x_iconst (v := 0) (pc := 1) dX12_ran_1 (by decide) ?_
  refine y_putI (pc := 2) dX12_ran_2 qRX12_75 okl0 (fun h1 eh1 nxh1 => ?_)
  have hwp := hwp h1 eh1
  have hex := hex.tr nxh1.1
  have hnn := nxh1.2.1.trans hnn
  have hzz := nxh1.2.2.trans hzz
  have okl0 := okl0.ex nxh1.1
  refine x_aload_n (pc := 5) dX12_ran_5 rfl ?_
  refine x_getI (pc := 6) dX12_ran_6 qRX12_305 okl0 (by decide) ?_
  refine x_if_ne (tgt := 14) (pc := 9) dX12_ran_9 (by decide) (fun c2 => ?_) (fun c2 => ?_)
  · have hwp := hwp.1 c2
    refine x_iload_n (pc := 14) dX12_ran_14 rfl ?_
    by_cases c3 : l1 = 0
    · have hwp := hwp.1 c3
      refine x_tabIn (tgt := 48) (pc := 15) dX12_ran_15 (by rw [q_teq c3 (n := 0) (by decide)]; decide) (by rw [q_teq c3 (n := 0) (by decide)]; decide) (by rw [q_teq c3 (n := 0) (by decide)]; rfl) (by decide) ?_
      refine x_aload_n (pc := 48) dX12_ran_48 rfl ?_
      refine x_getI (pc := 49) dX12_ran_49 qRX12_308 okl0 (by decide) ?_
      exact x_iret (pc := 52) dX12_ran_52 rfl hex hnn hzz ⟨_, rfl, hwp⟩
    by_cases c4 : l1 = 1
    · have hwp := hwp.2.1 c4
      refine x_tabIn (tgt := 53) (pc := 15) dX12_ran_15 (by rw [q_teq c4 (n := 1) (by decide)]; decide) (by rw [q_teq c4 (n := 1) (by decide)]; decide) (by rw [q_teq c4 (n := 1) (by decide)]; rfl) (by decide) ?_
      refine x_aload_n (pc := 53) dX12_ran_53 rfl ?_
      refine x_getI (pc := 54) dX12_ran_54 qRX12_311 okl0 (by decide) ?_
      exact x_iret (pc := 57) dX12_ran_57 rfl hex hnn hzz ⟨_, rfl, hwp⟩
    by_cases c5 : l1 = 2
    · have hwp := hwp.2.2.1 c5
      refine x_tabIn (tgt := 58) (pc := 15) dX12_ran_15 (by rw [q_teq c5 (n := 2) (by decide)]; decide) (by rw [q_teq c5 (n := 2) (by decide)]; decide) (by rw [q_teq c5 (n := 2) (by decide)]; rfl) (by decide) ?_
      refine x_aload_n (pc := 58) dX12_ran_58 rfl ?_
      refine x_getI (pc := 59) dX12_ran_59 qRX12_314 okl0 (by decide) ?_
      exact x_iret (pc := 62) dX12_ran_62 rfl hex hnn hzz ⟨_, rfl, hwp⟩
    by_cases c6 : l1 = 3
    · have hwp := hwp.2.2.2.1 c6
      refine x_tabIn (tgt := 63) (pc := 15) dX12_ran_15 (by rw [q_teq c6 (n := 3) (by decide)]; decide) (by rw [q_teq c6 (n := 3) (by decide)]; decide) (by rw [q_teq c6 (n := 3) (by decide)]; rfl) (by decide) ?_
      refine x_aload_n (pc := 63) dX12_ran_63 rfl ?_
      refine x_getI (pc := 64) dX12_ran_64 qRX12_317 okl0 (by decide) ?_
      exact x_iret (pc := 67) dX12_ran_67 rfl hex hnn hzz ⟨_, rfl, hwp⟩
    by_cases c7 : l1 = 4
    · have hwp := hwp.2.2.2.2.1 c7
      refine x_tabIn (tgt := 68) (pc := 15) dX12_ran_15 (by rw [q_teq c7 (n := 4) (by decide)]; decide) (by rw [q_teq c7 (n := 4) (by decide)]; decide) (by rw [q_teq c7 (n := 4) (by decide)]; rfl) (by decide) ?_
      refine x_aload_n (pc := 68) dX12_ran_68 rfl ?_
      refine x_getI (pc := 69) dX12_ran_69 qRX12_320 okl0 (by decide) ?_
      refine x_if_eq (tgt := 79) (pc := 72) dX12_ran_72 (by decide) (fun c8 => ?_) (fun c8 => ?_)
      · have hwp := hwp.1 c8
        refine x_iconst (v := 0) (pc := 79) dX12_ran_79 (by decide) ?_
        exact x_iret (pc := 80) dX12_ran_80 rfl hex hnn hzz ⟨_, rfl, hwp⟩
      · have hwp := hwp.2 c8
        refine x_iconst (v := 1) (pc := 75) dX12_ran_75 (by decide) ?_
        refine x_goto (tgt := 80) (pc := 76) dX12_ran_76 (by decide) ?_
        exact x_iret (pc := 80) dX12_ran_80 rfl hex hnn hzz ⟨_, rfl, hwp⟩
    have hwp := hwp.2.2.2.2.2 c3 c4 c5 c6 c7
    refine x_tabOut (tgt := 81) (pc := 15) dX12_ran_15 (by have := q_tne c3 (n := 0) (by decide); have := q_tne c4 (n := 1) (by decide); have := q_tne c5 (n := 2) (by decide); have := q_tne c6 (n := 3) (by decide); have := q_tne c7 (n := 4) (by decide); omega) (by decide) ?_
    refine x_iconst (v := (-1)) (pc := 81) dX12_ran_81 (by decide) ?_
    exact x_iret (pc := 82) dX12_ran_82 rfl hex hnn hzz ⟨_, rfl, hwp⟩
  · have hwp := hwp.2 c2
    refine x_iconst (v := (-1)) (pc := 12) dX12_ran_12 (by decide) ?_
    exact x_iret (pc := 13) dX12_ran_13 rfl hex hnn hzz ⟨_, rfl, hwp⟩

theorem dX12_stands_0 : decode cX12_stands 0 = .ok (.aload_n 0, 1) := by decide +kernel
theorem dX12_stands_1 : decode cX12_stands 1 = .ok (.iconst 0, 1) := by decide +kernel
theorem dX12_stands_2 : decode cX12_stands 2 = .ok (.putfield 75, 3) := by decide +kernel
theorem dX12_stands_5 : decode cX12_stands 5 = .ok (.iload_n 1, 1) := by decide +kernel
theorem dX12_stands_6 : decode cX12_stands 6 = .ok (.invokestatic 265, 3) := by decide +kernel
theorem dX12_stands_9 : decode cX12_stands 9 = .ok (.ifCond .ne 5, 3) := by decide +kernel
theorem dX12_stands_12 : decode cX12_stands 12 = .ok (.iconst (-1), 1) := by decide +kernel
theorem dX12_stands_13 : decode cX12_stands 13 = .ok (.ireturn, 1) := by decide +kernel
theorem dX12_stands_14 : decode cX12_stands 14 = .ok (.aload_n 0, 1) := by decide +kernel
theorem dX12_stands_15 : decode cX12_stands 15 = .ok (.iload_n 1, 1) := by decide +kernel
theorem dX12_stands_16 : decode cX12_stands 16 = .ok (.invokevirtual 299, 3) := by decide +kernel
theorem dX12_stands_19 : decode cX12_stands 19 = .ok (.aload_n 0, 1) := by decide +kernel
theorem dX12_stands_20 : decode cX12_stands 20 = .ok (.iconst 0, 1) := by decide +kernel
theorem dX12_stands_21 : decode cX12_stands 21 = .ok (.putfield 323, 3) := by decide +kernel
theorem dX12_stands_24 : decode cX12_stands 24 = .ok (.iconst 0, 1) := by decide +kernel
theorem dX12_stands_25 : decode cX12_stands 25 = .ok (.istore_n 2, 1) := by decide +kernel
theorem dX12_stands_26 : decode cX12_stands 26 = .ok (.iload_n 2, 1) := by decide +kernel
theorem dX12_stands_27 : decode cX12_stands 27 = .ok (.aload_n 0, 1) := by decide +kernel
theorem dX12_stands_28 : decode cX12_stands 28 = .ok (.getfield 13, 3) := by decide +kernel
theorem dX12_stands_31 : decode cX12_stands 31 = .ok (.iconst 0, 1) := by decide +kernel
theorem dX12_stands_32 : decode cX12_stands 32 = .ok (.iaload, 1) := by decide +kernel
theorem dX12_stands_33 : decode cX12_stands 33 = .ok (.if_icmp .ge 56, 3) := by decide +kernel
theorem dX12_stands_36 : decode cX12_stands 36 = .ok (.aload_n 0, 1) := by decide +kernel
theorem dX12_stands_37 : decode cX12_stands 37 = .ok (.getfield 33, 3) := by decide +kernel
theorem dX12_stands_40 : decode cX12_stands 40 = .ok (.iload_n 2, 1) := by decide +kernel
theorem dX12_stands_41 : decode cX12_stands 41 = .ok (.iaload, 1) := by decide +kernel
theorem dX12_stands_42 : decode cX12_stands 42 = .ok (.ifCond .ge 41, 3) := by decide +kernel
theorem dX12_stands_45 : decode cX12_stands 45 = .ok (.aload_n 0, 1) := by decide +kernel
theorem dX12_stands_46 : decode cX12_stands 46 = .ok (.getfield 36, 3) := by decide +kernel
theorem dX12_stands_49 : decode cX12_stands 49 = .ok (.aload_n 0, 1) := by decide +kernel
theorem dX12_stands_50 : decode cX12_stands 50 = .ok (.iload_n 2, 1) := by decide +kernel
theorem dX12_stands_51 : decode cX12_stands 51 = .ok (.iconst 1, 1) := by decide +kernel
theorem dX12_stands_52 : decode cX12_stands 52 = .ok (.isub, 1) := by decide +kernel
theorem dX12_stands_53 : decode cX12_stands 53 = .ok (.invokevirtual 239, 3) := by decide +kernel
theorem dX12_stands_56 : decode cX12_stands 56 = .ok (.iaload, 1) := by decide +kernel
theorem dX12_stands_57 : decode cX12_stands 57 = .ok (.ifCond .lt 6, 3) := by decide +kernel
theorem dX12_stands_60 : decode cX12_stands 60 = .ok (.goto 23, 3) := by decide +kernel
theorem dX12_stands_63 : decode cX12_stands 63 = .ok (.aload_n 0, 1) := by decide +kernel
theorem dX12_stands_64 : decode cX12_stands 64 = .ok (.getfield 39, 3) := by decide +kernel
theorem dX12_stands_67 : decode cX12_stands 67 = .ok (.aload_n 0, 1) := by decide +kernel
theorem dX12_stands_68 : decode cX12_stands 68 = .ok (.getfield 323, 3) := by decide +kernel
theorem dX12_stands_71 : decode cX12_stands 71 = .ok (.iload_n 2, 1) := by decide +kernel
theorem dX12_stands_72 : decode cX12_stands 72 = .ok (.iastore, 1) := by decide +kernel
theorem dX12_stands_73 : decode cX12_stands 73 = .ok (.aload_n 0, 1) := by decide +kernel
theorem dX12_stands_74 : decode cX12_stands 74 = .ok (.dup, 1) := by decide +kernel
theorem dX12_stands_75 : decode cX12_stands 75 = .ok (.getfield 323, 3) := by decide +kernel
theorem dX12_stands_78 : decode cX12_stands 78 = .ok (.iconst 1, 1) := by decide +kernel
theorem dX12_stands_79 : decode cX12_stands 79 = .ok (.iadd, 1) := by decide +kernel
theorem dX12_stands_80 : decode cX12_stands 80 = .ok (.putfield 323, 3) := by decide +kernel
theorem dX12_stands_83 : decode cX12_stands 83 = .ok (.iinc 2 1, 3) := by decide +kernel
theorem dX12_stands_86 : decode cX12_stands 86 = .ok (.goto (-60), 3) := by decide +kernel
theorem dX12_stands_89 : decode cX12_stands 89 = .ok (.aload_n 0, 1) := by decide +kernel
theorem dX12_stands_90 : decode cX12_stands 90 = .ok (.getfield 323, 3) := by decide +kernel
theorem dX12_stands_93 : decode cX12_stands 93 = .ok (.ireturn, 1) := by decide +kernel
def E_X12_stands_26 (G : GT) (d : Nat) (h0 hb : PH) (l0 : Nat) (Q : Int32 → PH → Prop) (s : Int32 × PH) : Prop := qEx hb s.2 ∧ qn s.2 = qn hb ∧ qz s.2 = qz hb → Ex G (qrm (6 + d) 0 0) mX12_stands (qn h0) (qz h0) (ZN G h0 0 0 (qqi Q)) 26 [(0, .ref l0), (2, .int s.1)] [] s.2
def wb_X12_stands_26 (l0 : Nat)  (Q : Int32 → PH → Prop) (bk26 : Int32 × PH → Prop) (l2 : Int32) (h : PH) : Prop := (∃ b8, qR h l0 14 = some b8 ∧ (vp_in 0 (qL h b8) ∧ (((qI h b8 (0 : Int32).toNatClampNeg) ≤ l2 → Q (qI h l0 36) h) ∧ (¬ ((qI h b8 (0 : Int32).toNatClampNeg) ≤ l2) → (∃ b12, qR h l0 21 = some b12 ∧ (vp_in l2 (qL h b12) ∧ ((0 ≤ (qI h b12 l2.toNatClampNeg) → ∀ v16 : Int32, v16 = l2 + 1 → bk26 (v16, h)) ∧ (¬ (0 ≤ (qI h b12 l2.toNatClampNeg)) → (∃ b17, qR h l0 22 = some b17 ∧ (wp_X12_round l0 (l2 - 1) h (fun r20 h19 => (vp_in r20 (qL h19 b17) ∧ (((qI h19 b17 r20.toNatClampNeg) < 0 → (∃ b23, qR h19 l0 35 = some b23 ∧ (vp_in (qI h19 l0 36) (qL h19 b23) ∧ ∀ h25, h25 = qsI h19 b23 (qI h19 l0 36).toNatClampNeg l2 → (∀ h27, h27 = qsI h25 l0 36 ((qI h25 l0 36) + 1) → ∀ v28 : Int32, v28 = l2 + 1 → bk26 (v28, h27))))) ∧ (¬ ((qI h19 b17 r20.toNatClampNeg) < 0) → ∀ v29 : Int32, v29 = l2 + 1 → bk26 (v29, h19)))))))))))))))
def wp_X12_stands_26 (l0 : Nat)  (Q : Int32 → PH → Prop) (bk26 : Int32 × PH → Prop) (s : Int32 × PH) : Prop := wb_X12_stands_26 l0 Q bk26 s.1 s.2
set_option maxHeartbeats 4000000 in
set_option maxRecDepth 100000 in
theorem bd_X12_stands_26 (G : GT) (d : Nat) (h0 hb : PH) (l0 : Nat) (Q : Int32 → PH → Prop)  (hex : qEx h0 hb) (hnn : qn hb = qn h0 + 0) (hzz : qz hb = qz h0 + 0) (okl0 : qOK hb 11 l0) (bk26 : Int32 × PH → Prop) (hbk26 : ∀ s2, bk26 s2 → E_X12_stands_26 G d h0 hb l0 Q s2) (l2 : Int32) (h : PH) (hwp : wb_X12_stands_26 l0 Q bk26 l2 h) (hx26 : qEx hb h) (hn26 : qn h = qn hb) (hz26 : qz h = qz hb) : Ex G (qrm (6 + d) 0 0) mX12_stands (qn h0) (qz h0) (ZN G h0 0 0 (qqi Q)) 26 [(0, .ref l0), (2, .int l2)] [] h := by
  unfold wb_X12_stands_26 at hwp
  have hex := hex.tr hx26
  have hnn := hn26.trans hnn
  have hzz := hz26.trans hzz
  have okl0 := okl0.ex hx26
  refine x_iload_n (pc := 26) dX12_stands_26 rfl ?_
  refine x_aload_n (pc := 27) dX12_stands_27 rfl ?_
  obtain ⟨b8, e9, hwp⟩ := hwp
  refine x_getR (pc := 28) dX12_stands_28 qRX12_13 okl0 e9 (fun okb8 => ?_)
  refine x_iconst (v := 0) (pc := 31) dX12_stands_31 (by decide) ?_
  obtain ⟨i10, hwp⟩ := hwp
  refine x_iaload (pc := 32) dX12_stands_32 okb8 i10 ?_
  refine x_icmp_ge (tgt := 89) (pc := 33) dX12_stands_33 (by decide) (fun c11 => ?_) (fun c11 => ?_)
  · have hwp := hwp.1 c11
    refine x_aload_n (pc := 89) dX12_stands_89 rfl ?_
    refine x_getI (pc := 90) dX12_stands_90 qRX12_323 okl0 (by decide) ?_
    exact x_iret (pc := 93) dX12_stands_93 rfl hex hnn hzz ⟨_, rfl, hwp⟩
  · have hwp := hwp.2 c11
    refine x_aload_n (pc := 36) dX12_stands_36 rfl ?_
    obtain ⟨b12, e13, hwp⟩ := hwp
    refine x_getR (pc := 37) dX12_stands_37 qRX12_33 okl0 e13 (fun okb12 => ?_)
    refine x_iload_n (pc := 40) dX12_stands_40 rfl ?_
    obtain ⟨i14, hwp⟩ := hwp
    refine x_iaload (pc := 41) dX12_stands_41 okb12 i14 ?_
    refine x_if_ge (tgt := 83) (pc := 42) dX12_stands_42 (by decide) (fun c15 => ?_) (fun c15 => ?_)
    · have hwp := hwp.1 c15
      refine y_iinc (c := 1) (pc := 83) dX12_stands_83 rfl (by decide) (by decide) (fun v16 ev16 => ?_)
      have hwp := hwp v16 ev16
      refine x_lvE (lv2 := [(2, .int v16), (0, .ref l0)]) rfl ?_
      refine x_goto (tgt := 26) (pc := 86) dX12_stands_86 (by decide) ?_
      refine x_sub [1, 0] rfl ?_
      exact hbk26 _ hwp ⟨hx26, hn26, hz26⟩
    · have hwp := hwp.2 c15
      refine x_aload_n (pc := 45) dX12_stands_45 rfl ?_
      obtain ⟨b17, e18, hwp⟩ := hwp
      refine x_getR (pc := 46) dX12_stands_46 qRX12_36 okl0 e18 (fun okb17 => ?_)
      refine x_aload_n (pc := 49) dX12_stands_49 rfl ?_
      refine x_iload_n (pc := 50) dX12_stands_50 rfl ?_
      refine x_iconst (v := 1) (pc := 51) dX12_stands_51 (by decide) ?_
      refine x_isub (pc := 52) dX12_stands_52 ?_
      refine x_invV (As := [.int (l2 - 1)]) (st := [.ref b17]) (pc := 53) dX12_stands_53 lRX12_239 fX12_round vX12_round okl0 rfl (Nat.le_of_ble_eq_true rfl) (q_R (by omega) (by decide)) (q_C hnn hzz (by decide) (by decide)) (sn_X12_round G (d + 5) l0 (l2 - 1) h _ okl0 hwp) (k_i (fun r20 h19 hwp cxh19 => ?_))
      have hex := hex.tr cxh19.1
      have hnn : qn h19 = qn h0 + 0 := by have := cxh19.2.1; omega
      have hzz : qz h19 = qz h0 + 0 := by have := cxh19.2.2; omega
      have hx26 := hx26.tr cxh19.1
      have hn26 : qn h19 = qn hb := by have := cxh19.2.1; omega
      have hz26 : qz h19 = qz hb := by have := cxh19.2.2; omega
      have okl0 := okl0.ex cxh19.1
      have okb8 := okb8.ex cxh19.1
      have okb12 := okb12.ex cxh19.1
      have okb17 := okb17.ex cxh19.1
      obtain ⟨i21, hwp⟩ := hwp
      refine x_iaload (pc := 56) dX12_stands_56 okb17 i21 ?_
      refine x_if_lt (tgt := 63) (pc := 57) dX12_stands_57 (by decide) (fun c22 => ?_) (fun c22 => ?_)
      · have hwp := hwp.1 c22
        refine x_aload_n (pc := 63) dX12_stands_63 rfl ?_
        obtain ⟨b23, e24, hwp⟩ := hwp
        refine x_getR (pc := 64) dX12_stands_64 qRX12_39 okl0 e24 (fun okb23 => ?_)
        refine x_aload_n (pc := 67) dX12_stands_67 rfl ?_
        refine x_getI (pc := 68) dX12_stands_68 qRX12_323 okl0 (by decide) ?_
        refine x_iload_n (pc := 71) dX12_stands_71 rfl ?_
        obtain ⟨i26, hwp⟩ := hwp
        refine y_iastore (pc := 72) dX12_stands_72 okb23 i26 (fun h25 eh25 nxh25 => ?_)
        have hwp := hwp h25 eh25
        have hex := hex.tr nxh25.1
        have hnn := nxh25.2.1.trans hnn
        have hzz := nxh25.2.2.trans hzz
        have hx26 := hx26.tr nxh25.1
        have hn26 := nxh25.2.1.trans hn26
        have hz26 := nxh25.2.2.trans hz26
        have okl0 := okl0.ex nxh25.1
        have okb8 := okb8.ex nxh25.1
        have okb12 := okb12.ex nxh25.1
        have okb17 := okb17.ex nxh25.1
        have okb23 := okb23.ex nxh25.1
        refine x_aload_n (pc := 73) dX12_stands_73 rfl ?_
        refine x_dup (pc := 74) dX12_stands_74 rfl ?_
        refine x_getI (pc := 75) dX12_stands_75 qRX12_323 okl0 (by decide) ?_
        refine x_iconst (v := 1) (pc := 78) dX12_stands_78 (by decide) ?_
        refine x_iadd (pc := 79) dX12_stands_79 ?_
        refine y_putI (pc := 80) dX12_stands_80 qRX12_323 okl0 (fun h27 eh27 nxh27 => ?_)
        have hwp := hwp h27 eh27
        have hex := hex.tr nxh27.1
        have hnn := nxh27.2.1.trans hnn
        have hzz := nxh27.2.2.trans hzz
        have hx26 := hx26.tr nxh27.1
        have hn26 := nxh27.2.1.trans hn26
        have hz26 := nxh27.2.2.trans hz26
        have okl0 := okl0.ex nxh27.1
        have okb8 := okb8.ex nxh27.1
        have okb12 := okb12.ex nxh27.1
        have okb17 := okb17.ex nxh27.1
        have okb23 := okb23.ex nxh27.1
        refine y_iinc (c := 1) (pc := 83) dX12_stands_83 rfl (by decide) (by decide) (fun v28 ev28 => ?_)
        have hwp := hwp v28 ev28
        refine x_lvE (lv2 := [(2, .int v28), (0, .ref l0)]) rfl ?_
        refine x_goto (tgt := 26) (pc := 86) dX12_stands_86 (by decide) ?_
        refine x_sub [1, 0] rfl ?_
        exact hbk26 _ hwp ⟨hx26, hn26, hz26⟩
      · have hwp := hwp.2 c22
        refine x_goto (tgt := 83) (pc := 60) dX12_stands_60 (by decide) ?_
        refine y_iinc (c := 1) (pc := 83) dX12_stands_83 rfl (by decide) (by decide) (fun v29 ev29 => ?_)
        have hwp := hwp v29 ev29
        refine x_lvE (lv2 := [(2, .int v29), (0, .ref l0)]) rfl ?_
        refine x_goto (tgt := 26) (pc := 86) dX12_stands_86 (by decide) ?_
        refine x_sub [1, 0] rfl ?_
        exact hbk26 _ hwp ⟨hx26, hn26, hz26⟩
theorem lp_X12_stands_26 (G : GT) (d : Nat) (h0 hb : PH) (l0 : Nat) (Q : Int32 → PH → Prop)  (hex : qEx h0 hb) (hnn : qn hb = qn h0 + 0) (hzz : qz hb = qz h0 + 0) (okl0 : qOK hb 11 l0) {s : Int32 × PH} (hwp : qLoop (wp_X12_stands_26 l0 Q) s) : E_X12_stands_26 G d h0 hb l0 Q s :=
  qLoop.use (E := E_X12_stands_26 G d h0 hb l0 Q) (fun back s hbk hw hx => bd_X12_stands_26 G d h0 hb l0 Q hex hnn hzz okl0 back hbk s.1 s.2 hw hx.1 hx.2.1 hx.2.2) hwp
def wp_X12_stands (l0 : Nat) (l1 : Int32) (h : PH) (Q : Int32 → PH → Prop) : Prop := (∀ h1, h1 = qsI h l0 0 0 → (wp_X12_isWorld l1 h1 (fun r3 h2 => ((¬ r3 = 0 → (wp_X12_layWorld l0 l1 h2 (fun h5 => (∀ h7, h7 = qsI h5 l0 36 0 → (qLoop (wp_X12_stands_26 l0 Q) (0, h7)))))) ∧ (r3 = 0 → Q (-1) h2)))))
set_option maxHeartbeats 4000000 in
set_option maxRecDepth 100000 in
theorem sn_X12_stands (G : GT) (d : Nat) (l0 : Nat) (l1 : Int32) (h : PH) (Q : Int32 → PH → Prop) (okl0 : qOK h 11 l0) (hwp : wp_X12_stands l0 l1 h Q) : Mt G (6 + d) 0 0 mX12_stands [.ref l0, .int l1] h (qqi Q) := by
  unfold wp_X12_stands at hwp
  refine Mt.of (by decide) rfl (Nat.le_of_ble_eq_true rfl) ?_
  have hex := qEx.rf h
  have hnn : qn h = qn h + 0 := rfl
  have hzz : qz h = qz h + 0 := rfl
  refine x_lvE (lv2 := [(0, .ref l0), (1, .int l1)]) rfl ?_
  refine x_aload_n (pc := 0) dX12_stands_0 rfl ?_
  refine x_iconst (v := 0) (pc := 1) dX12_stands_1 (by decide) ?_
  refine y_putI (pc := 2) dX12_stands_2 qRX12_75 okl0 (fun h1 eh1 nxh1 => ?_)
  have hwp := hwp h1 eh1
  have hex := hex.tr nxh1.1
  have hnn := nxh1.2.1.trans hnn
  have hzz := nxh1.2.2.trans hzz
  have okl0 := okl0.ex nxh1.1
  refine x_iload_n (pc := 5) dX12_stands_5 rfl ?_
  refine x_invS (As := [.int l1]) (st := []) (pc := 6) dX12_stands_6 lRX12_265 fX12_isWorld sX12_isWorld rfl (Nat.le_of_ble_eq_true rfl) (q_R (by omega) (by decide)) (q_C hnn hzz (by decide) (by decide)) (sn_X12_isWorld G (d + 5) l1 h1 _  hwp) (k_b (fun r3 h2 hwp zbr3 cxh2 => ?_))
  have hex := hex.tr cxh2.1
  have hnn : qn h2 = qn h + 0 := by have := cxh2.2.1; omega
  have hzz : qz h2 = qz h + 0 := by have := cxh2.2.2; omega
  have okl0 := okl0.ex cxh2.1
  refine x_if_ne (tgt := 14) (pc := 9) dX12_stands_9 (by decide) (fun c4 => ?_) (fun c4 => ?_)
  · have hwp := hwp.1 c4
    refine x_aload_n (pc := 14) dX12_stands_14 rfl ?_
    refine x_iload_n (pc := 15) dX12_stands_15 rfl ?_
    refine x_invV (As := [.int l1]) (st := []) (pc := 16) dX12_stands_16 lRX12_299 fX12_layWorld vX12_layWorld okl0 rfl (Nat.le_of_ble_eq_true rfl) (q_R (by omega) (by decide)) (q_C hnn hzz (by decide) (by decide)) (sn_X12_layWorld G (d + 0) l0 l1 h2 _ okl0 hwp) (k_v (fun h5 hwp cxh5 => ?_))
    have hex := hex.tr cxh5.1
    have hnn : qn h5 = qn h + 0 := by have := cxh5.2.1; omega
    have hzz : qz h5 = qz h + 0 := by have := cxh5.2.2; omega
    have okl0 := okl0.ex cxh5.1
    refine x_aload_n (pc := 19) dX12_stands_19 rfl ?_
    refine x_iconst (v := 0) (pc := 20) dX12_stands_20 (by decide) ?_
    refine y_putI (pc := 21) dX12_stands_21 qRX12_323 okl0 (fun h7 eh7 nxh7 => ?_)
    have hwp := hwp h7 eh7
    have hex := hex.tr nxh7.1
    have hnn := nxh7.2.1.trans hnn
    have hzz := nxh7.2.2.trans hzz
    have okl0 := okl0.ex nxh7.1
    refine x_iconst (v := 0) (pc := 24) dX12_stands_24 (by decide) ?_
    refine x_istore_n (lv2 := [(2, .int 0), (0, .ref l0), (1, .int l1)]) (pc := 25) dX12_stands_25 (by decide) rfl ?_
    refine x_sub [1, 0] rfl ?_
    exact lp_X12_stands_26 G d h h7 l0 Q hex hnn hzz okl0 hwp ⟨qEx.rf _, rfl, rfl⟩
  · have hwp := hwp.2 c4
    refine x_iconst (v := (-1)) (pc := 12) dX12_stands_12 (by decide) ?_
    exact x_iret (pc := 13) dX12_stands_13 rfl hex hnn hzz ⟨_, rfl, hwp⟩

theorem dX12_stand_0 : decode cX12_stand 0 = .ok (.aload_n 0, 1) := by decide +kernel
theorem dX12_stand_1 : decode cX12_stand 1 = .ok (.iconst 0, 1) := by decide +kernel
theorem dX12_stand_2 : decode cX12_stand 2 = .ok (.putfield 75, 3) := by decide +kernel
theorem dX12_stand_5 : decode cX12_stand 5 = .ok (.iload_n 1, 1) := by decide +kernel
theorem dX12_stand_6 : decode cX12_stand 6 = .ok (.ifCond .lt 20, 3) := by decide +kernel
theorem dX12_stand_9 : decode cX12_stand 9 = .ok (.iload_n 1, 1) := by decide +kernel
theorem dX12_stand_10 : decode cX12_stand 10 = .ok (.aload_n 0, 1) := by decide +kernel
theorem dX12_stand_11 : decode cX12_stand 11 = .ok (.getfield 323, 3) := by decide +kernel
theorem dX12_stand_14 : decode cX12_stand 14 = .ok (.if_icmp .ge 12, 3) := by decide +kernel
theorem dX12_stand_17 : decode cX12_stand 17 = .ok (.aload_n 0, 1) := by decide +kernel
theorem dX12_stand_18 : decode cX12_stand 18 = .ok (.getfield 39, 3) := by decide +kernel
theorem dX12_stand_21 : decode cX12_stand 21 = .ok (.iload_n 1, 1) := by decide +kernel
theorem dX12_stand_22 : decode cX12_stand 22 = .ok (.iaload, 1) := by decide +kernel
theorem dX12_stand_23 : decode cX12_stand 23 = .ok (.goto 4, 3) := by decide +kernel
theorem dX12_stand_26 : decode cX12_stand 26 = .ok (.iconst (-1), 1) := by decide +kernel
theorem dX12_stand_27 : decode cX12_stand 27 = .ok (.ireturn, 1) := by decide +kernel
def wp_X12_stand (l0 : Nat) (l1 : Int32) (h : PH) (Q : Int32 → PH → Prop) : Prop := (∀ h1, h1 = qsI h l0 0 0 → ((l1 < 0 → Q (-1) h1) ∧ (¬ (l1 < 0) → (((qI h1 l0 36) ≤ l1 → Q (-1) h1) ∧ (¬ ((qI h1 l0 36) ≤ l1) → (∃ b4, qR h1 l0 35 = some b4 ∧ (vp_in l1 (qL h1 b4) ∧ Q (qI h1 b4 l1.toNatClampNeg) h1)))))))
set_option maxHeartbeats 4000000 in
set_option maxRecDepth 100000 in
theorem sn_X12_stand (G : GT) (d : Nat) (l0 : Nat) (l1 : Int32) (h : PH) (Q : Int32 → PH → Prop) (okl0 : qOK h 11 l0) (hwp : wp_X12_stand l0 l1 h Q) : Mt G (0 + d) 0 0 mX12_stand [.ref l0, .int l1] h (qqi Q) := by
  unfold wp_X12_stand at hwp
  refine Mt.of (by decide) rfl (Nat.le_of_ble_eq_true rfl) ?_
  have hex := qEx.rf h
  have hnn : qn h = qn h + 0 := rfl
  have hzz : qz h = qz h + 0 := rfl
  refine x_lvE (lv2 := [(0, .ref l0), (1, .int l1)]) rfl ?_
  refine x_aload_n (pc := 0) dX12_stand_0 rfl ?_
  refine x_iconst (v := 0) (pc := 1) dX12_stand_1 (by decide) ?_
  refine y_putI (pc := 2) dX12_stand_2 qRX12_75 okl0 (fun h1 eh1 nxh1 => ?_)
  have hwp := hwp h1 eh1
  have hex := hex.tr nxh1.1
  have hnn := nxh1.2.1.trans hnn
  have hzz := nxh1.2.2.trans hzz
  have okl0 := okl0.ex nxh1.1
  refine x_iload_n (pc := 5) dX12_stand_5 rfl ?_
  refine x_if_lt (tgt := 26) (pc := 6) dX12_stand_6 (by decide) (fun c2 => ?_) (fun c2 => ?_)
  · have hwp := hwp.1 c2
    refine x_iconst (v := (-1)) (pc := 26) dX12_stand_26 (by decide) ?_
    exact x_iret (pc := 27) dX12_stand_27 rfl hex hnn hzz ⟨_, rfl, hwp⟩
  · have hwp := hwp.2 c2
    refine x_iload_n (pc := 9) dX12_stand_9 rfl ?_
    refine x_aload_n (pc := 10) dX12_stand_10 rfl ?_
    refine x_getI (pc := 11) dX12_stand_11 qRX12_323 okl0 (by decide) ?_
    refine x_icmp_ge (tgt := 26) (pc := 14) dX12_stand_14 (by decide) (fun c3 => ?_) (fun c3 => ?_)
    · have hwp := hwp.1 c3
      refine x_iconst (v := (-1)) (pc := 26) dX12_stand_26 (by decide) ?_
      exact x_iret (pc := 27) dX12_stand_27 rfl hex hnn hzz ⟨_, rfl, hwp⟩
    · have hwp := hwp.2 c3
      refine x_aload_n (pc := 17) dX12_stand_17 rfl ?_
      obtain ⟨b4, e5, hwp⟩ := hwp
      refine x_getR (pc := 18) dX12_stand_18 qRX12_39 okl0 e5 (fun okb4 => ?_)
      refine x_iload_n (pc := 21) dX12_stand_21 rfl ?_
      obtain ⟨i6, hwp⟩ := hwp
      refine x_iaload (pc := 22) dX12_stand_22 okb4 i6 ?_
      refine x_goto (tgt := 27) (pc := 23) dX12_stand_23 (by decide) ?_
      exact x_iret (pc := 27) dX12_stand_27 rfl hex hnn hzz ⟨_, rfl, hwp⟩

theorem dX12_lays_0 : decode cX12_lays 0 = .ok (.bipush 60, 2) := by decide +kernel
theorem dX12_lays_2 : decode cX12_lays 2 = .ok (.aload_n 0, 1) := by decide +kernel
theorem dX12_lays_3 : decode cX12_lays 3 = .ok (.getfield 326, 3) := by decide +kernel
theorem dX12_lays_6 : decode cX12_lays 6 = .ok (.iadd, 1) := by decide +kernel
theorem dX12_lays_7 : decode cX12_lays 7 = .ok (.istore 5, 2) := by decide +kernel
theorem dX12_lays_9 : decode cX12_lays 9 = .ok (.aload_n 0, 1) := by decide +kernel
theorem dX12_lays_10 : decode cX12_lays 10 = .ok (.getfield 42, 3) := by decide +kernel
theorem dX12_lays_13 : decode cX12_lays 13 = .ok (.iload 5, 2) := by decide +kernel
theorem dX12_lays_15 : decode cX12_lays 15 = .ok (.iload_n 1, 1) := by decide +kernel
theorem dX12_lays_16 : decode cX12_lays 16 = .ok (.iastore, 1) := by decide +kernel
theorem dX12_lays_17 : decode cX12_lays 17 = .ok (.aload_n 0, 1) := by decide +kernel
theorem dX12_lays_18 : decode cX12_lays 18 = .ok (.getfield 45, 3) := by decide +kernel
theorem dX12_lays_21 : decode cX12_lays 21 = .ok (.iload 5, 2) := by decide +kernel
theorem dX12_lays_23 : decode cX12_lays 23 = .ok (.iload_n 2, 1) := by decide +kernel
theorem dX12_lays_24 : decode cX12_lays 24 = .ok (.iastore, 1) := by decide +kernel
theorem dX12_lays_25 : decode cX12_lays 25 = .ok (.aload_n 0, 1) := by decide +kernel
theorem dX12_lays_26 : decode cX12_lays 26 = .ok (.getfield 48, 3) := by decide +kernel
theorem dX12_lays_29 : decode cX12_lays 29 = .ok (.iload 5, 2) := by decide +kernel
theorem dX12_lays_31 : decode cX12_lays 31 = .ok (.iload_n 3, 1) := by decide +kernel
theorem dX12_lays_32 : decode cX12_lays 32 = .ok (.iastore, 1) := by decide +kernel
theorem dX12_lays_33 : decode cX12_lays 33 = .ok (.aload_n 0, 1) := by decide +kernel
theorem dX12_lays_34 : decode cX12_lays 34 = .ok (.getfield 51, 3) := by decide +kernel
theorem dX12_lays_37 : decode cX12_lays 37 = .ok (.iload 5, 2) := by decide +kernel
theorem dX12_lays_39 : decode cX12_lays 39 = .ok (.iload 4, 2) := by decide +kernel
theorem dX12_lays_41 : decode cX12_lays 41 = .ok (.iastore, 1) := by decide +kernel
theorem dX12_lays_42 : decode cX12_lays 42 = .ok (.aload_n 0, 1) := by decide +kernel
theorem dX12_lays_43 : decode cX12_lays 43 = .ok (.dup, 1) := by decide +kernel
theorem dX12_lays_44 : decode cX12_lays 44 = .ok (.getfield 326, 3) := by decide +kernel
theorem dX12_lays_47 : decode cX12_lays 47 = .ok (.iconst 1, 1) := by decide +kernel
theorem dX12_lays_48 : decode cX12_lays 48 = .ok (.iadd, 1) := by decide +kernel
theorem dX12_lays_49 : decode cX12_lays 49 = .ok (.putfield 326, 3) := by decide +kernel
theorem dX12_lays_52 : decode cX12_lays 52 = .ok (.aload_n 0, 1) := by decide +kernel
theorem dX12_lays_53 : decode cX12_lays 53 = .ok (.getfield 326, 3) := by decide +kernel
theorem dX12_lays_56 : decode cX12_lays 56 = .ok (.iconst 1, 1) := by decide +kernel
theorem dX12_lays_57 : decode cX12_lays 57 = .ok (.isub, 1) := by decide +kernel
theorem dX12_lays_58 : decode cX12_lays 58 = .ok (.ireturn, 1) := by decide +kernel
def wp_X12_lays (l0 : Nat) (l1 : Int32) (l2 : Int32) (l3 : Int32) (l4 : Int32) (h : PH) (Q : Int32 → PH → Prop) : Prop := ∀ v1 : Int32, v1 = 60 + (qI h l0 41) → (∃ b2, qR h l0 37 = some b2 ∧ (vp_in v1 (qL h b2) ∧ ∀ h4, h4 = qsI h b2 v1.toNatClampNeg l1 → (∃ b6, qR h4 l0 38 = some b6 ∧ (vp_in v1 (qL h4 b6) ∧ ∀ h8, h8 = qsI h4 b6 v1.toNatClampNeg l2 → (∃ b10, qR h8 l0 39 = some b10 ∧ (vp_in v1 (qL h8 b10) ∧ ∀ h12, h12 = qsI h8 b10 v1.toNatClampNeg l3 → (∃ b14, qR h12 l0 40 = some b14 ∧ (vp_in v1 (qL h12 b14) ∧ ∀ h16, h16 = qsI h12 b14 v1.toNatClampNeg l4 → (∀ h18, h18 = qsI h16 l0 41 ((qI h16 l0 41) + 1) → Q ((qI h18 l0 41) - 1) h18)))))))))
set_option maxHeartbeats 4000000 in
set_option maxRecDepth 100000 in
theorem sn_X12_lays (G : GT) (d : Nat) (l0 : Nat) (l1 : Int32) (l2 : Int32) (l3 : Int32) (l4 : Int32) (h : PH) (Q : Int32 → PH → Prop) (okl0 : qOK h 11 l0) (hwp : wp_X12_lays l0 l1 l2 l3 l4 h Q) : Mt G (0 + d) 0 0 mX12_lays [.ref l0, .int l1, .int l2, .int l3, .int l4] h (qqi Q) := by
  unfold wp_X12_lays at hwp
  refine Mt.of (by decide) rfl (Nat.le_of_ble_eq_true rfl) ?_
  have hex := qEx.rf h
  have hnn : qn h = qn h + 0 := rfl
  have hzz : qz h = qz h + 0 := rfl
  refine x_lvE (lv2 := [(0, .ref l0), (1, .int l1), (2, .int l2), (3, .int l3), (4, .int l4)]) rfl ?_
  refine x_bipush (v := 60) (pc := 0) dX12_lays_0 (by decide) ?_
  refine x_aload_n (pc := 2) dX12_lays_2 rfl ?_
  refine x_getI (pc := 3) dX12_lays_3 qRX12_326 okl0 (by decide) ?_
  refine x_iadd (pc := 6) dX12_lays_6 ?_
  refine x_nmI (fun v1 ev1 => ?_)
  have hwp := hwp v1 ev1
  refine x_istore (lv2 := [(5, .int v1), (0, .ref l0), (1, .int l1), (2, .int l2), (3, .int l3), (4, .int l4)]) (pc := 7) dX12_lays_7 (by decide) rfl ?_
  refine x_aload_n (pc := 9) dX12_lays_9 rfl ?_
  obtain ⟨b2, e3, hwp⟩ := hwp
  refine x_getR (pc := 10) dX12_lays_10 qRX12_42 okl0 e3 (fun okb2 => ?_)
  refine x_iload (pc := 13) dX12_lays_13 rfl ?_
  refine x_iload_n (pc := 15) dX12_lays_15 rfl ?_
  obtain ⟨i5, hwp⟩ := hwp
  refine y_iastore (pc := 16) dX12_lays_16 okb2 i5 (fun h4 eh4 nxh4 => ?_)
  have hwp := hwp h4 eh4
  have hex := hex.tr nxh4.1
  have hnn := nxh4.2.1.trans hnn
  have hzz := nxh4.2.2.trans hzz
  have okl0 := okl0.ex nxh4.1
  have okb2 := okb2.ex nxh4.1
  refine x_aload_n (pc := 17) dX12_lays_17 rfl ?_
  obtain ⟨b6, e7, hwp⟩ := hwp
  refine x_getR (pc := 18) dX12_lays_18 qRX12_45 okl0 e7 (fun okb6 => ?_)
  refine x_iload (pc := 21) dX12_lays_21 rfl ?_
  refine x_iload_n (pc := 23) dX12_lays_23 rfl ?_
  obtain ⟨i9, hwp⟩ := hwp
  refine y_iastore (pc := 24) dX12_lays_24 okb6 i9 (fun h8 eh8 nxh8 => ?_)
  have hwp := hwp h8 eh8
  have hex := hex.tr nxh8.1
  have hnn := nxh8.2.1.trans hnn
  have hzz := nxh8.2.2.trans hzz
  have okl0 := okl0.ex nxh8.1
  have okb2 := okb2.ex nxh8.1
  have okb6 := okb6.ex nxh8.1
  refine x_aload_n (pc := 25) dX12_lays_25 rfl ?_
  obtain ⟨b10, e11, hwp⟩ := hwp
  refine x_getR (pc := 26) dX12_lays_26 qRX12_48 okl0 e11 (fun okb10 => ?_)
  refine x_iload (pc := 29) dX12_lays_29 rfl ?_
  refine x_iload_n (pc := 31) dX12_lays_31 rfl ?_
  obtain ⟨i13, hwp⟩ := hwp
  refine y_iastore (pc := 32) dX12_lays_32 okb10 i13 (fun h12 eh12 nxh12 => ?_)
  have hwp := hwp h12 eh12
  have hex := hex.tr nxh12.1
  have hnn := nxh12.2.1.trans hnn
  have hzz := nxh12.2.2.trans hzz
  have okl0 := okl0.ex nxh12.1
  have okb2 := okb2.ex nxh12.1
  have okb6 := okb6.ex nxh12.1
  have okb10 := okb10.ex nxh12.1
  refine x_aload_n (pc := 33) dX12_lays_33 rfl ?_
  obtain ⟨b14, e15, hwp⟩ := hwp
  refine x_getR (pc := 34) dX12_lays_34 qRX12_51 okl0 e15 (fun okb14 => ?_)
  refine x_iload (pc := 37) dX12_lays_37 rfl ?_
  refine x_iload (pc := 39) dX12_lays_39 rfl ?_
  obtain ⟨i17, hwp⟩ := hwp
  refine y_iastore (pc := 41) dX12_lays_41 okb14 i17 (fun h16 eh16 nxh16 => ?_)
  have hwp := hwp h16 eh16
  have hex := hex.tr nxh16.1
  have hnn := nxh16.2.1.trans hnn
  have hzz := nxh16.2.2.trans hzz
  have okl0 := okl0.ex nxh16.1
  have okb2 := okb2.ex nxh16.1
  have okb6 := okb6.ex nxh16.1
  have okb10 := okb10.ex nxh16.1
  have okb14 := okb14.ex nxh16.1
  refine x_aload_n (pc := 42) dX12_lays_42 rfl ?_
  refine x_dup (pc := 43) dX12_lays_43 rfl ?_
  refine x_getI (pc := 44) dX12_lays_44 qRX12_326 okl0 (by decide) ?_
  refine x_iconst (v := 1) (pc := 47) dX12_lays_47 (by decide) ?_
  refine x_iadd (pc := 48) dX12_lays_48 ?_
  refine y_putI (pc := 49) dX12_lays_49 qRX12_326 okl0 (fun h18 eh18 nxh18 => ?_)
  have hwp := hwp h18 eh18
  have hex := hex.tr nxh18.1
  have hnn := nxh18.2.1.trans hnn
  have hzz := nxh18.2.2.trans hzz
  have okl0 := okl0.ex nxh18.1
  have okb2 := okb2.ex nxh18.1
  have okb6 := okb6.ex nxh18.1
  have okb10 := okb10.ex nxh18.1
  have okb14 := okb14.ex nxh18.1
  refine x_aload_n (pc := 52) dX12_lays_52 rfl ?_
  refine x_getI (pc := 53) dX12_lays_53 qRX12_326 okl0 (by decide) ?_
  refine x_iconst (v := 1) (pc := 56) dX12_lays_56 (by decide) ?_
  refine x_isub (pc := 57) dX12_lays_57 ?_
  exact x_iret (pc := 58) dX12_lays_58 rfl hex hnn hzz ⟨_, rfl, hwp⟩

theorem dX12_valueAtHand_0 : decode cX12_valueAtHand 0 = .ok (.aload_n 0, 1) := by decide +kernel
theorem dX12_valueAtHand_1 : decode cX12_valueAtHand 1 = .ok (.bipush 114, 2) := by decide +kernel
theorem dX12_valueAtHand_3 : decode cX12_valueAtHand 3 = .ok (.bipush 105, 2) := by decide +kernel
theorem dX12_valueAtHand_5 : decode cX12_valueAtHand 5 = .ok (.bipush 103, 2) := by decide +kernel
theorem dX12_valueAtHand_7 : decode cX12_valueAtHand 7 = .ok (.bipush 104, 2) := by decide +kernel
theorem dX12_valueAtHand_9 : decode cX12_valueAtHand 9 = .ok (.bipush 116, 2) := by decide +kernel
theorem dX12_valueAtHand_11 : decode cX12_valueAtHand 11 = .ok (.invokestatic 126, 3) := by decide +kernel
theorem dX12_valueAtHand_14 : decode cX12_valueAtHand 14 = .ok (.invokevirtual 149, 3) := by decide +kernel
theorem dX12_valueAtHand_17 : decode cX12_valueAtHand 17 = .ok (.ifCond .eq 5, 3) := by decide +kernel
theorem dX12_valueAtHand_20 : decode cX12_valueAtHand 20 = .ok (.iconst 0, 1) := by decide +kernel
theorem dX12_valueAtHand_21 : decode cX12_valueAtHand 21 = .ok (.ireturn, 1) := by decide +kernel
theorem dX12_valueAtHand_22 : decode cX12_valueAtHand 22 = .ok (.aload_n 0, 1) := by decide +kernel
theorem dX12_valueAtHand_23 : decode cX12_valueAtHand 23 = .ok (.bipush 108, 2) := by decide +kernel
theorem dX12_valueAtHand_25 : decode cX12_valueAtHand 25 = .ok (.bipush 101, 2) := by decide +kernel
theorem dX12_valueAtHand_27 : decode cX12_valueAtHand 27 = .ok (.bipush 102, 2) := by decide +kernel
theorem dX12_valueAtHand_29 : decode cX12_valueAtHand 29 = .ok (.bipush 116, 2) := by decide +kernel
theorem dX12_valueAtHand_31 : decode cX12_valueAtHand 31 = .ok (.iconst 0, 1) := by decide +kernel
theorem dX12_valueAtHand_32 : decode cX12_valueAtHand 32 = .ok (.invokestatic 126, 3) := by decide +kernel
theorem dX12_valueAtHand_35 : decode cX12_valueAtHand 35 = .ok (.invokevirtual 149, 3) := by decide +kernel
theorem dX12_valueAtHand_38 : decode cX12_valueAtHand 38 = .ok (.ifCond .eq 5, 3) := by decide +kernel
theorem dX12_valueAtHand_41 : decode cX12_valueAtHand 41 = .ok (.iconst 1, 1) := by decide +kernel
theorem dX12_valueAtHand_42 : decode cX12_valueAtHand 42 = .ok (.ireturn, 1) := by decide +kernel
theorem dX12_valueAtHand_43 : decode cX12_valueAtHand 43 = .ok (.aload_n 0, 1) := by decide +kernel
theorem dX12_valueAtHand_44 : decode cX12_valueAtHand 44 = .ok (.bipush 114, 2) := by decide +kernel
theorem dX12_valueAtHand_46 : decode cX12_valueAtHand 46 = .ok (.bipush 105, 2) := by decide +kernel
theorem dX12_valueAtHand_48 : decode cX12_valueAtHand 48 = .ok (.bipush 103, 2) := by decide +kernel
theorem dX12_valueAtHand_50 : decode cX12_valueAtHand 50 = .ok (.bipush 104, 2) := by decide +kernel
theorem dX12_valueAtHand_52 : decode cX12_valueAtHand 52 = .ok (.bipush 116, 2) := by decide +kernel
theorem dX12_valueAtHand_54 : decode cX12_valueAtHand 54 = .ok (.bipush 115, 2) := by decide +kernel
theorem dX12_valueAtHand_56 : decode cX12_valueAtHand 56 = .ok (.invokestatic 159, 3) := by decide +kernel
theorem dX12_valueAtHand_59 : decode cX12_valueAtHand 59 = .ok (.invokevirtual 149, 3) := by decide +kernel
theorem dX12_valueAtHand_62 : decode cX12_valueAtHand 62 = .ok (.ifCond .eq 5, 3) := by decide +kernel
theorem dX12_valueAtHand_65 : decode cX12_valueAtHand 65 = .ok (.iconst 2, 1) := by decide +kernel
theorem dX12_valueAtHand_66 : decode cX12_valueAtHand 66 = .ok (.ireturn, 1) := by decide +kernel
theorem dX12_valueAtHand_67 : decode cX12_valueAtHand 67 = .ok (.aload_n 0, 1) := by decide +kernel
theorem dX12_valueAtHand_68 : decode cX12_valueAtHand 68 = .ok (.bipush 108, 2) := by decide +kernel
theorem dX12_valueAtHand_70 : decode cX12_valueAtHand 70 = .ok (.bipush 101, 2) := by decide +kernel
theorem dX12_valueAtHand_72 : decode cX12_valueAtHand 72 = .ok (.bipush 102, 2) := by decide +kernel
theorem dX12_valueAtHand_74 : decode cX12_valueAtHand 74 = .ok (.bipush 116, 2) := by decide +kernel
theorem dX12_valueAtHand_76 : decode cX12_valueAtHand 76 = .ok (.bipush 115, 2) := by decide +kernel
theorem dX12_valueAtHand_78 : decode cX12_valueAtHand 78 = .ok (.invokestatic 126, 3) := by decide +kernel
theorem dX12_valueAtHand_81 : decode cX12_valueAtHand 81 = .ok (.invokevirtual 149, 3) := by decide +kernel
theorem dX12_valueAtHand_84 : decode cX12_valueAtHand 84 = .ok (.ifCond .eq 5, 3) := by decide +kernel
theorem dX12_valueAtHand_87 : decode cX12_valueAtHand 87 = .ok (.iconst 3, 1) := by decide +kernel
theorem dX12_valueAtHand_88 : decode cX12_valueAtHand 88 = .ok (.ireturn, 1) := by decide +kernel
theorem dX12_valueAtHand_89 : decode cX12_valueAtHand 89 = .ok (.aload_n 0, 1) := by decide +kernel
theorem dX12_valueAtHand_90 : decode cX12_valueAtHand 90 = .ok (.bipush 119, 2) := by decide +kernel
theorem dX12_valueAtHand_92 : decode cX12_valueAtHand 92 = .ok (.bipush 101, 2) := by decide +kernel
theorem dX12_valueAtHand_94 : decode cX12_valueAtHand 94 = .ok (.bipush 116, 2) := by decide +kernel
theorem dX12_valueAtHand_96 : decode cX12_valueAtHand 96 = .ok (.iconst 0, 1) := by decide +kernel
theorem dX12_valueAtHand_97 : decode cX12_valueAtHand 97 = .ok (.iconst 0, 1) := by decide +kernel
theorem dX12_valueAtHand_98 : decode cX12_valueAtHand 98 = .ok (.invokestatic 126, 3) := by decide +kernel
theorem dX12_valueAtHand_101 : decode cX12_valueAtHand 101 = .ok (.invokevirtual 149, 3) := by decide +kernel
theorem dX12_valueAtHand_104 : decode cX12_valueAtHand 104 = .ok (.ifCond .eq 5, 3) := by decide +kernel
theorem dX12_valueAtHand_107 : decode cX12_valueAtHand 107 = .ok (.iconst 4, 1) := by decide +kernel
theorem dX12_valueAtHand_108 : decode cX12_valueAtHand 108 = .ok (.ireturn, 1) := by decide +kernel
theorem dX12_valueAtHand_109 : decode cX12_valueAtHand 109 = .ok (.aload_n 0, 1) := by decide +kernel
theorem dX12_valueAtHand_110 : decode cX12_valueAtHand 110 = .ok (.bipush 103, 2) := by decide +kernel
theorem dX12_valueAtHand_112 : decode cX12_valueAtHand 112 = .ok (.bipush 105, 2) := by decide +kernel
theorem dX12_valueAtHand_114 : decode cX12_valueAtHand 114 = .ok (.bipush 118, 2) := by decide +kernel
theorem dX12_valueAtHand_116 : decode cX12_valueAtHand 116 = .ok (.bipush 101, 2) := by decide +kernel
theorem dX12_valueAtHand_118 : decode cX12_valueAtHand 118 = .ok (.bipush 115, 2) := by decide +kernel
theorem dX12_valueAtHand_120 : decode cX12_valueAtHand 120 = .ok (.invokestatic 126, 3) := by decide +kernel
theorem dX12_valueAtHand_123 : decode cX12_valueAtHand 123 = .ok (.invokevirtual 149, 3) := by decide +kernel
theorem dX12_valueAtHand_126 : decode cX12_valueAtHand 126 = .ok (.ifCond .eq 5, 3) := by decide +kernel
theorem dX12_valueAtHand_129 : decode cX12_valueAtHand 129 = .ok (.iconst 5, 1) := by decide +kernel
theorem dX12_valueAtHand_130 : decode cX12_valueAtHand 130 = .ok (.ireturn, 1) := by decide +kernel
theorem dX12_valueAtHand_131 : decode cX12_valueAtHand 131 = .ok (.aload_n 0, 1) := by decide +kernel
theorem dX12_valueAtHand_132 : decode cX12_valueAtHand 132 = .ok (.bipush 116, 2) := by decide +kernel
theorem dX12_valueAtHand_134 : decode cX12_valueAtHand 134 = .ok (.bipush 97, 2) := by decide +kernel
theorem dX12_valueAtHand_136 : decode cX12_valueAtHand 136 = .ok (.bipush 107, 2) := by decide +kernel
theorem dX12_valueAtHand_138 : decode cX12_valueAtHand 138 = .ok (.bipush 101, 2) := by decide +kernel
theorem dX12_valueAtHand_140 : decode cX12_valueAtHand 140 = .ok (.bipush 115, 2) := by decide +kernel
theorem dX12_valueAtHand_142 : decode cX12_valueAtHand 142 = .ok (.invokestatic 126, 3) := by decide +kernel
theorem dX12_valueAtHand_145 : decode cX12_valueAtHand 145 = .ok (.invokevirtual 149, 3) := by decide +kernel
theorem dX12_valueAtHand_148 : decode cX12_valueAtHand 148 = .ok (.ifCond .eq 6, 3) := by decide +kernel
theorem dX12_valueAtHand_151 : decode cX12_valueAtHand 151 = .ok (.bipush 6, 2) := by decide +kernel
theorem dX12_valueAtHand_153 : decode cX12_valueAtHand 153 = .ok (.ireturn, 1) := by decide +kernel
theorem dX12_valueAtHand_154 : decode cX12_valueAtHand 154 = .ok (.aload_n 0, 1) := by decide +kernel
theorem dX12_valueAtHand_155 : decode cX12_valueAtHand 155 = .ok (.bipush 104, 2) := by decide +kernel
theorem dX12_valueAtHand_157 : decode cX12_valueAtHand 157 = .ok (.bipush 105, 2) := by decide +kernel
theorem dX12_valueAtHand_159 : decode cX12_valueAtHand 159 = .ok (.bipush 103, 2) := by decide +kernel
theorem dX12_valueAtHand_161 : decode cX12_valueAtHand 161 = .ok (.bipush 104, 2) := by decide +kernel
theorem dX12_valueAtHand_163 : decode cX12_valueAtHand 163 = .ok (.iconst 0, 1) := by decide +kernel
theorem dX12_valueAtHand_164 : decode cX12_valueAtHand 164 = .ok (.invokestatic 126, 3) := by decide +kernel
theorem dX12_valueAtHand_167 : decode cX12_valueAtHand 167 = .ok (.invokevirtual 149, 3) := by decide +kernel
theorem dX12_valueAtHand_170 : decode cX12_valueAtHand 170 = .ok (.ifCond .eq 8, 3) := by decide +kernel
theorem dX12_valueAtHand_173 : decode cX12_valueAtHand 173 = .ok (.bipush 7, 2) := by decide +kernel
theorem dX12_valueAtHand_175 : decode cX12_valueAtHand 175 = .ok (.goto 4, 3) := by decide +kernel
theorem dX12_valueAtHand_178 : decode cX12_valueAtHand 178 = .ok (.iconst (-1), 1) := by decide +kernel
theorem dX12_valueAtHand_179 : decode cX12_valueAtHand 179 = .ok (.ireturn, 1) := by decide +kernel
def wp_X12_valueAtHand (l0 : Nat) (h : PH) (Q : Int32 → PH → Prop) : Prop := (wp_X12_spelt 114 105 103 104 116 h (fun r2 h1 => (wp_X12_isKey l0 r2 h1 (fun r4 h3 => ((r4 = 0 → (wp_X12_spelt 108 101 102 116 0 h3 (fun r7 h6 => (wp_X12_isKey l0 r7 h6 (fun r9 h8 => ((r9 = 0 → (wp_X12_six 114 105 103 104 116 115 h8 (fun r12 h11 => (wp_X12_isKey l0 r12 h11 (fun r14 h13 => ((r14 = 0 → (wp_X12_spelt 108 101 102 116 115 h13 (fun r17 h16 => (wp_X12_isKey l0 r17 h16 (fun r19 h18 => ((r19 = 0 → (wp_X12_spelt 119 101 116 0 0 h18 (fun r22 h21 => (wp_X12_isKey l0 r22 h21 (fun r24 h23 => ((r24 = 0 → (wp_X12_spelt 103 105 118 101 115 h23 (fun r27 h26 => (wp_X12_isKey l0 r27 h26 (fun r29 h28 => ((r29 = 0 → (wp_X12_spelt 116 97 107 101 115 h28 (fun r32 h31 => (wp_X12_isKey l0 r32 h31 (fun r34 h33 => ((r34 = 0 → (wp_X12_spelt 104 105 103 104 0 h33 (fun r37 h36 => (wp_X12_isKey l0 r37 h36 (fun r39 h38 => ((r39 = 0 → Q (-1) h38) ∧ (¬ (r39 = 0) → Q 7 h38))))))) ∧ (¬ (r34 = 0) → Q 6 h33))))))) ∧ (¬ (r29 = 0) → Q 5 h28))))))) ∧ (¬ (r24 = 0) → Q 4 h23))))))) ∧ (¬ (r19 = 0) → Q 3 h18))))))) ∧ (¬ (r14 = 0) → Q 2 h13))))))) ∧ (¬ (r9 = 0) → Q 1 h8))))))) ∧ (¬ (r4 = 0) → Q 0 h3))))))
set_option maxHeartbeats 4000000 in
set_option maxRecDepth 100000 in
theorem sn_X12_valueAtHand (G : GT) (d : Nat) (l0 : Nat) (h : PH) (Q : Int32 → PH → Prop) (okl0 : qOK h 11 l0) (hwp : wp_X12_valueAtHand l0 h Q) : Mt G (2 + d) 0 0 mX12_valueAtHand [.ref l0] h (qqi Q) := by
  unfold wp_X12_valueAtHand at hwp
  refine Mt.of (by decide) rfl (Nat.le_of_ble_eq_true rfl) ?_
  have hex := qEx.rf h
  have hnn : qn h = qn h + 0 := rfl
  have hzz : qz h = qz h + 0 := rfl
  refine x_lvE (lv2 := [(0, .ref l0)]) rfl ?_
  refine x_aload_n (pc := 0) dX12_valueAtHand_0 rfl ?_
  refine x_bipush (v := 114) (pc := 1) dX12_valueAtHand_1 (by decide) ?_
  refine x_bipush (v := 105) (pc := 3) dX12_valueAtHand_3 (by decide) ?_
  refine x_bipush (v := 103) (pc := 5) dX12_valueAtHand_5 (by decide) ?_
  refine x_bipush (v := 104) (pc := 7) dX12_valueAtHand_7 (by decide) ?_
  refine x_bipush (v := 116) (pc := 9) dX12_valueAtHand_9 (by decide) ?_
  refine x_invS (As := [.int 114, .int 105, .int 103, .int 104, .int 116]) (st := [.ref l0]) (pc := 11) dX12_valueAtHand_11 lRX12_126 fX12_spelt sX12_spelt rfl (Nat.le_of_ble_eq_true rfl) (q_R (by omega) (by decide)) (q_C hnn hzz (by decide) (by decide)) (sn_X12_spelt G (d + 1) 114 105 103 104 116 h _  hwp) (k_j (fun r2 h1 hwp cxh1 => ?_))
  have hex := hex.tr cxh1.1
  have hnn : qn h1 = qn h + 0 := by have := cxh1.2.1; omega
  have hzz : qz h1 = qz h + 0 := by have := cxh1.2.2; omega
  have okl0 := okl0.ex cxh1.1
  refine x_invV (As := [.long r2]) (st := []) (pc := 14) dX12_valueAtHand_14 lRX12_149 fX12_isKey vX12_isKey okl0 rfl (Nat.le_of_ble_eq_true rfl) (q_R (by omega) (by decide)) (q_C hnn hzz (by decide) (by decide)) (sn_X12_isKey G (d + 1) l0 r2 h1 _ okl0 hwp) (k_b (fun r4 h3 hwp zbr4 cxh3 => ?_))
  have hex := hex.tr cxh3.1
  have hnn : qn h3 = qn h + 0 := by have := cxh3.2.1; omega
  have hzz : qz h3 = qz h + 0 := by have := cxh3.2.2; omega
  have okl0 := okl0.ex cxh3.1
  refine x_if_eq (tgt := 22) (pc := 17) dX12_valueAtHand_17 (by decide) (fun c5 => ?_) (fun c5 => ?_)
  · have hwp := hwp.1 c5
    refine x_aload_n (pc := 22) dX12_valueAtHand_22 rfl ?_
    refine x_bipush (v := 108) (pc := 23) dX12_valueAtHand_23 (by decide) ?_
    refine x_bipush (v := 101) (pc := 25) dX12_valueAtHand_25 (by decide) ?_
    refine x_bipush (v := 102) (pc := 27) dX12_valueAtHand_27 (by decide) ?_
    refine x_bipush (v := 116) (pc := 29) dX12_valueAtHand_29 (by decide) ?_
    refine x_iconst (v := 0) (pc := 31) dX12_valueAtHand_31 (by decide) ?_
    refine x_invS (As := [.int 108, .int 101, .int 102, .int 116, .int 0]) (st := [.ref l0]) (pc := 32) dX12_valueAtHand_32 lRX12_126 fX12_spelt sX12_spelt rfl (Nat.le_of_ble_eq_true rfl) (q_R (by omega) (by decide)) (q_C hnn hzz (by decide) (by decide)) (sn_X12_spelt G (d + 1) 108 101 102 116 0 h3 _  hwp) (k_j (fun r7 h6 hwp cxh6 => ?_))
    have hex := hex.tr cxh6.1
    have hnn : qn h6 = qn h + 0 := by have := cxh6.2.1; omega
    have hzz : qz h6 = qz h + 0 := by have := cxh6.2.2; omega
    have okl0 := okl0.ex cxh6.1
    refine x_invV (As := [.long r7]) (st := []) (pc := 35) dX12_valueAtHand_35 lRX12_149 fX12_isKey vX12_isKey okl0 rfl (Nat.le_of_ble_eq_true rfl) (q_R (by omega) (by decide)) (q_C hnn hzz (by decide) (by decide)) (sn_X12_isKey G (d + 1) l0 r7 h6 _ okl0 hwp) (k_b (fun r9 h8 hwp zbr9 cxh8 => ?_))
    have hex := hex.tr cxh8.1
    have hnn : qn h8 = qn h + 0 := by have := cxh8.2.1; omega
    have hzz : qz h8 = qz h + 0 := by have := cxh8.2.2; omega
    have okl0 := okl0.ex cxh8.1
    refine x_if_eq (tgt := 43) (pc := 38) dX12_valueAtHand_38 (by decide) (fun c10 => ?_) (fun c10 => ?_)
    · have hwp := hwp.1 c10
      refine x_aload_n (pc := 43) dX12_valueAtHand_43 rfl ?_
      refine x_bipush (v := 114) (pc := 44) dX12_valueAtHand_44 (by decide) ?_
      refine x_bipush (v := 105) (pc := 46) dX12_valueAtHand_46 (by decide) ?_
      refine x_bipush (v := 103) (pc := 48) dX12_valueAtHand_48 (by decide) ?_
      refine x_bipush (v := 104) (pc := 50) dX12_valueAtHand_50 (by decide) ?_
      refine x_bipush (v := 116) (pc := 52) dX12_valueAtHand_52 (by decide) ?_
      refine x_bipush (v := 115) (pc := 54) dX12_valueAtHand_54 (by decide) ?_
      refine x_invS (As := [.int 114, .int 105, .int 103, .int 104, .int 116, .int 115]) (st := [.ref l0]) (pc := 56) dX12_valueAtHand_56 lRX12_159 fX12_six sX12_six rfl (Nat.le_of_ble_eq_true rfl) (q_R (by omega) (by decide)) (q_C hnn hzz (by decide) (by decide)) (sn_X12_six G (d + 0) 114 105 103 104 116 115 h8 _  hwp) (k_j (fun r12 h11 hwp cxh11 => ?_))
      have hex := hex.tr cxh11.1
      have hnn : qn h11 = qn h + 0 := by have := cxh11.2.1; omega
      have hzz : qz h11 = qz h + 0 := by have := cxh11.2.2; omega
      have okl0 := okl0.ex cxh11.1
      refine x_invV (As := [.long r12]) (st := []) (pc := 59) dX12_valueAtHand_59 lRX12_149 fX12_isKey vX12_isKey okl0 rfl (Nat.le_of_ble_eq_true rfl) (q_R (by omega) (by decide)) (q_C hnn hzz (by decide) (by decide)) (sn_X12_isKey G (d + 1) l0 r12 h11 _ okl0 hwp) (k_b (fun r14 h13 hwp zbr14 cxh13 => ?_))
      have hex := hex.tr cxh13.1
      have hnn : qn h13 = qn h + 0 := by have := cxh13.2.1; omega
      have hzz : qz h13 = qz h + 0 := by have := cxh13.2.2; omega
      have okl0 := okl0.ex cxh13.1
      refine x_if_eq (tgt := 67) (pc := 62) dX12_valueAtHand_62 (by decide) (fun c15 => ?_) (fun c15 => ?_)
      · have hwp := hwp.1 c15
        refine x_aload_n (pc := 67) dX12_valueAtHand_67 rfl ?_
        refine x_bipush (v := 108) (pc := 68) dX12_valueAtHand_68 (by decide) ?_
        refine x_bipush (v := 101) (pc := 70) dX12_valueAtHand_70 (by decide) ?_
        refine x_bipush (v := 102) (pc := 72) dX12_valueAtHand_72 (by decide) ?_
        refine x_bipush (v := 116) (pc := 74) dX12_valueAtHand_74 (by decide) ?_
        refine x_bipush (v := 115) (pc := 76) dX12_valueAtHand_76 (by decide) ?_
        refine x_invS (As := [.int 108, .int 101, .int 102, .int 116, .int 115]) (st := [.ref l0]) (pc := 78) dX12_valueAtHand_78 lRX12_126 fX12_spelt sX12_spelt rfl (Nat.le_of_ble_eq_true rfl) (q_R (by omega) (by decide)) (q_C hnn hzz (by decide) (by decide)) (sn_X12_spelt G (d + 1) 108 101 102 116 115 h13 _  hwp) (k_j (fun r17 h16 hwp cxh16 => ?_))
        have hex := hex.tr cxh16.1
        have hnn : qn h16 = qn h + 0 := by have := cxh16.2.1; omega
        have hzz : qz h16 = qz h + 0 := by have := cxh16.2.2; omega
        have okl0 := okl0.ex cxh16.1
        refine x_invV (As := [.long r17]) (st := []) (pc := 81) dX12_valueAtHand_81 lRX12_149 fX12_isKey vX12_isKey okl0 rfl (Nat.le_of_ble_eq_true rfl) (q_R (by omega) (by decide)) (q_C hnn hzz (by decide) (by decide)) (sn_X12_isKey G (d + 1) l0 r17 h16 _ okl0 hwp) (k_b (fun r19 h18 hwp zbr19 cxh18 => ?_))
        have hex := hex.tr cxh18.1
        have hnn : qn h18 = qn h + 0 := by have := cxh18.2.1; omega
        have hzz : qz h18 = qz h + 0 := by have := cxh18.2.2; omega
        have okl0 := okl0.ex cxh18.1
        refine x_if_eq (tgt := 89) (pc := 84) dX12_valueAtHand_84 (by decide) (fun c20 => ?_) (fun c20 => ?_)
        · have hwp := hwp.1 c20
          refine x_aload_n (pc := 89) dX12_valueAtHand_89 rfl ?_
          refine x_bipush (v := 119) (pc := 90) dX12_valueAtHand_90 (by decide) ?_
          refine x_bipush (v := 101) (pc := 92) dX12_valueAtHand_92 (by decide) ?_
          refine x_bipush (v := 116) (pc := 94) dX12_valueAtHand_94 (by decide) ?_
          refine x_iconst (v := 0) (pc := 96) dX12_valueAtHand_96 (by decide) ?_
          refine x_iconst (v := 0) (pc := 97) dX12_valueAtHand_97 (by decide) ?_
          refine x_invS (As := [.int 119, .int 101, .int 116, .int 0, .int 0]) (st := [.ref l0]) (pc := 98) dX12_valueAtHand_98 lRX12_126 fX12_spelt sX12_spelt rfl (Nat.le_of_ble_eq_true rfl) (q_R (by omega) (by decide)) (q_C hnn hzz (by decide) (by decide)) (sn_X12_spelt G (d + 1) 119 101 116 0 0 h18 _  hwp) (k_j (fun r22 h21 hwp cxh21 => ?_))
          have hex := hex.tr cxh21.1
          have hnn : qn h21 = qn h + 0 := by have := cxh21.2.1; omega
          have hzz : qz h21 = qz h + 0 := by have := cxh21.2.2; omega
          have okl0 := okl0.ex cxh21.1
          refine x_invV (As := [.long r22]) (st := []) (pc := 101) dX12_valueAtHand_101 lRX12_149 fX12_isKey vX12_isKey okl0 rfl (Nat.le_of_ble_eq_true rfl) (q_R (by omega) (by decide)) (q_C hnn hzz (by decide) (by decide)) (sn_X12_isKey G (d + 1) l0 r22 h21 _ okl0 hwp) (k_b (fun r24 h23 hwp zbr24 cxh23 => ?_))
          have hex := hex.tr cxh23.1
          have hnn : qn h23 = qn h + 0 := by have := cxh23.2.1; omega
          have hzz : qz h23 = qz h + 0 := by have := cxh23.2.2; omega
          have okl0 := okl0.ex cxh23.1
          refine x_if_eq (tgt := 109) (pc := 104) dX12_valueAtHand_104 (by decide) (fun c25 => ?_) (fun c25 => ?_)
          · have hwp := hwp.1 c25
            refine x_aload_n (pc := 109) dX12_valueAtHand_109 rfl ?_
            refine x_bipush (v := 103) (pc := 110) dX12_valueAtHand_110 (by decide) ?_
            refine x_bipush (v := 105) (pc := 112) dX12_valueAtHand_112 (by decide) ?_
            refine x_bipush (v := 118) (pc := 114) dX12_valueAtHand_114 (by decide) ?_
            refine x_bipush (v := 101) (pc := 116) dX12_valueAtHand_116 (by decide) ?_
            refine x_bipush (v := 115) (pc := 118) dX12_valueAtHand_118 (by decide) ?_
            refine x_invS (As := [.int 103, .int 105, .int 118, .int 101, .int 115]) (st := [.ref l0]) (pc := 120) dX12_valueAtHand_120 lRX12_126 fX12_spelt sX12_spelt rfl (Nat.le_of_ble_eq_true rfl) (q_R (by omega) (by decide)) (q_C hnn hzz (by decide) (by decide)) (sn_X12_spelt G (d + 1) 103 105 118 101 115 h23 _  hwp) (k_j (fun r27 h26 hwp cxh26 => ?_))
            have hex := hex.tr cxh26.1
            have hnn : qn h26 = qn h + 0 := by have := cxh26.2.1; omega
            have hzz : qz h26 = qz h + 0 := by have := cxh26.2.2; omega
            have okl0 := okl0.ex cxh26.1
            refine x_invV (As := [.long r27]) (st := []) (pc := 123) dX12_valueAtHand_123 lRX12_149 fX12_isKey vX12_isKey okl0 rfl (Nat.le_of_ble_eq_true rfl) (q_R (by omega) (by decide)) (q_C hnn hzz (by decide) (by decide)) (sn_X12_isKey G (d + 1) l0 r27 h26 _ okl0 hwp) (k_b (fun r29 h28 hwp zbr29 cxh28 => ?_))
            have hex := hex.tr cxh28.1
            have hnn : qn h28 = qn h + 0 := by have := cxh28.2.1; omega
            have hzz : qz h28 = qz h + 0 := by have := cxh28.2.2; omega
            have okl0 := okl0.ex cxh28.1
            refine x_if_eq (tgt := 131) (pc := 126) dX12_valueAtHand_126 (by decide) (fun c30 => ?_) (fun c30 => ?_)
            · have hwp := hwp.1 c30
              refine x_aload_n (pc := 131) dX12_valueAtHand_131 rfl ?_
              refine x_bipush (v := 116) (pc := 132) dX12_valueAtHand_132 (by decide) ?_
              refine x_bipush (v := 97) (pc := 134) dX12_valueAtHand_134 (by decide) ?_
              refine x_bipush (v := 107) (pc := 136) dX12_valueAtHand_136 (by decide) ?_
              refine x_bipush (v := 101) (pc := 138) dX12_valueAtHand_138 (by decide) ?_
              refine x_bipush (v := 115) (pc := 140) dX12_valueAtHand_140 (by decide) ?_
              refine x_invS (As := [.int 116, .int 97, .int 107, .int 101, .int 115]) (st := [.ref l0]) (pc := 142) dX12_valueAtHand_142 lRX12_126 fX12_spelt sX12_spelt rfl (Nat.le_of_ble_eq_true rfl) (q_R (by omega) (by decide)) (q_C hnn hzz (by decide) (by decide)) (sn_X12_spelt G (d + 1) 116 97 107 101 115 h28 _  hwp) (k_j (fun r32 h31 hwp cxh31 => ?_))
              have hex := hex.tr cxh31.1
              have hnn : qn h31 = qn h + 0 := by have := cxh31.2.1; omega
              have hzz : qz h31 = qz h + 0 := by have := cxh31.2.2; omega
              have okl0 := okl0.ex cxh31.1
              refine x_invV (As := [.long r32]) (st := []) (pc := 145) dX12_valueAtHand_145 lRX12_149 fX12_isKey vX12_isKey okl0 rfl (Nat.le_of_ble_eq_true rfl) (q_R (by omega) (by decide)) (q_C hnn hzz (by decide) (by decide)) (sn_X12_isKey G (d + 1) l0 r32 h31 _ okl0 hwp) (k_b (fun r34 h33 hwp zbr34 cxh33 => ?_))
              have hex := hex.tr cxh33.1
              have hnn : qn h33 = qn h + 0 := by have := cxh33.2.1; omega
              have hzz : qz h33 = qz h + 0 := by have := cxh33.2.2; omega
              have okl0 := okl0.ex cxh33.1
              refine x_if_eq (tgt := 154) (pc := 148) dX12_valueAtHand_148 (by decide) (fun c35 => ?_) (fun c35 => ?_)
              · have hwp := hwp.1 c35
                refine x_aload_n (pc := 154) dX12_valueAtHand_154 rfl ?_
                refine x_bipush (v := 104) (pc := 155) dX12_valueAtHand_155 (by decide) ?_
                refine x_bipush (v := 105) (pc := 157) dX12_valueAtHand_157 (by decide) ?_
                refine x_bipush (v := 103) (pc := 159) dX12_valueAtHand_159 (by decide) ?_
                refine x_bipush (v := 104) (pc := 161) dX12_valueAtHand_161 (by decide) ?_
                refine x_iconst (v := 0) (pc := 163) dX12_valueAtHand_163 (by decide) ?_
                refine x_invS (As := [.int 104, .int 105, .int 103, .int 104, .int 0]) (st := [.ref l0]) (pc := 164) dX12_valueAtHand_164 lRX12_126 fX12_spelt sX12_spelt rfl (Nat.le_of_ble_eq_true rfl) (q_R (by omega) (by decide)) (q_C hnn hzz (by decide) (by decide)) (sn_X12_spelt G (d + 1) 104 105 103 104 0 h33 _  hwp) (k_j (fun r37 h36 hwp cxh36 => ?_))
                have hex := hex.tr cxh36.1
                have hnn : qn h36 = qn h + 0 := by have := cxh36.2.1; omega
                have hzz : qz h36 = qz h + 0 := by have := cxh36.2.2; omega
                have okl0 := okl0.ex cxh36.1
                refine x_invV (As := [.long r37]) (st := []) (pc := 167) dX12_valueAtHand_167 lRX12_149 fX12_isKey vX12_isKey okl0 rfl (Nat.le_of_ble_eq_true rfl) (q_R (by omega) (by decide)) (q_C hnn hzz (by decide) (by decide)) (sn_X12_isKey G (d + 1) l0 r37 h36 _ okl0 hwp) (k_b (fun r39 h38 hwp zbr39 cxh38 => ?_))
                have hex := hex.tr cxh38.1
                have hnn : qn h38 = qn h + 0 := by have := cxh38.2.1; omega
                have hzz : qz h38 = qz h + 0 := by have := cxh38.2.2; omega
                have okl0 := okl0.ex cxh38.1
                refine x_if_eq (tgt := 178) (pc := 170) dX12_valueAtHand_170 (by decide) (fun c40 => ?_) (fun c40 => ?_)
                · have hwp := hwp.1 c40
                  refine x_iconst (v := (-1)) (pc := 178) dX12_valueAtHand_178 (by decide) ?_
                  exact x_iret (pc := 179) dX12_valueAtHand_179 rfl hex hnn hzz ⟨_, rfl, hwp⟩
                · have hwp := hwp.2 c40
                  refine x_bipush (v := 7) (pc := 173) dX12_valueAtHand_173 (by decide) ?_
                  refine x_goto (tgt := 179) (pc := 175) dX12_valueAtHand_175 (by decide) ?_
                  exact x_iret (pc := 179) dX12_valueAtHand_179 rfl hex hnn hzz ⟨_, rfl, hwp⟩
              · have hwp := hwp.2 c35
                refine x_bipush (v := 6) (pc := 151) dX12_valueAtHand_151 (by decide) ?_
                exact x_iret (pc := 153) dX12_valueAtHand_153 rfl hex hnn hzz ⟨_, rfl, hwp⟩
            · have hwp := hwp.2 c30
              refine x_iconst (v := 5) (pc := 129) dX12_valueAtHand_129 (by decide) ?_
              exact x_iret (pc := 130) dX12_valueAtHand_130 rfl hex hnn hzz ⟨_, rfl, hwp⟩
          · have hwp := hwp.2 c25
            refine x_iconst (v := 4) (pc := 107) dX12_valueAtHand_107 (by decide) ?_
            exact x_iret (pc := 108) dX12_valueAtHand_108 rfl hex hnn hzz ⟨_, rfl, hwp⟩
        · have hwp := hwp.2 c20
          refine x_iconst (v := 3) (pc := 87) dX12_valueAtHand_87 (by decide) ?_
          exact x_iret (pc := 88) dX12_valueAtHand_88 rfl hex hnn hzz ⟨_, rfl, hwp⟩
      · have hwp := hwp.2 c15
        refine x_iconst (v := 2) (pc := 65) dX12_valueAtHand_65 (by decide) ?_
        exact x_iret (pc := 66) dX12_valueAtHand_66 rfl hex hnn hzz ⟨_, rfl, hwp⟩
    · have hwp := hwp.2 c10
      refine x_iconst (v := 1) (pc := 41) dX12_valueAtHand_41 (by decide) ?_
      exact x_iret (pc := 42) dX12_valueAtHand_42 rfl hex hnn hzz ⟨_, rfl, hwp⟩
  · have hwp := hwp.2 c5
    refine x_iconst (v := 0) (pc := 20) dX12_valueAtHand_20 (by decide) ?_
    exact x_iret (pc := 21) dX12_valueAtHand_21 rfl hex hnn hzz ⟨_, rfl, hwp⟩

theorem dX12_readValue_0 : decode cX12_readValue 0 = .ok (.aload_n 0, 1) := by decide +kernel
theorem dX12_readValue_1 : decode cX12_readValue 1 = .ok (.getfield 98, 3) := by decide +kernel
theorem dX12_readValue_4 : decode cX12_readValue 4 = .ok (.iconst 3, 1) := by decide +kernel
theorem dX12_readValue_5 : decode cX12_readValue 5 = .ok (.if_icmp .ne 20, 3) := by decide +kernel
theorem dX12_readValue_8 : decode cX12_readValue 8 = .ok (.aload_n 0, 1) := by decide +kernel
theorem dX12_readValue_9 : decode cX12_readValue 9 = .ok (.bipush 100, 2) := by decide +kernel
theorem dX12_readValue_11 : decode cX12_readValue 11 = .ok (.aload_n 0, 1) := by decide +kernel
theorem dX12_readValue_12 : decode cX12_readValue 12 = .ok (.getfield 115, 3) := by decide +kernel
theorem dX12_readValue_15 : decode cX12_readValue 15 = .ok (.iadd, 1) := by decide +kernel
theorem dX12_readValue_16 : decode cX12_readValue 16 = .ok (.putfield 143, 3) := by decide +kernel
theorem dX12_readValue_19 : decode cX12_readValue 19 = .ok (.aload_n 0, 1) := by decide +kernel
theorem dX12_readValue_20 : decode cX12_readValue 20 = .ok (.invokevirtual 146, 3) := by decide +kernel
theorem dX12_readValue_23 : decode cX12_readValue 23 = .ok (.iconst 1, 1) := by decide +kernel
theorem dX12_readValue_24 : decode cX12_readValue 24 = .ok (.ireturn, 1) := by decide +kernel
theorem dX12_readValue_25 : decode cX12_readValue 25 = .ok (.aload_n 0, 1) := by decide +kernel
theorem dX12_readValue_26 : decode cX12_readValue 26 = .ok (.invokevirtual 329, 3) := by decide +kernel
theorem dX12_readValue_29 : decode cX12_readValue 29 = .ok (.istore_n 1, 1) := by decide +kernel
theorem dX12_readValue_30 : decode cX12_readValue 30 = .ok (.iload_n 1, 1) := by decide +kernel
theorem dX12_readValue_31 : decode cX12_readValue 31 = .ok (.iconst (-1), 1) := by decide +kernel
theorem dX12_readValue_32 : decode cX12_readValue 32 = .ok (.if_icmp .ne 9, 3) := by decide +kernel
theorem dX12_readValue_35 : decode cX12_readValue 35 = .ok (.aload_n 0, 1) := by decide +kernel
theorem dX12_readValue_36 : decode cX12_readValue 36 = .ok (.iconst 1, 1) := by decide +kernel
theorem dX12_readValue_37 : decode cX12_readValue 37 = .ok (.invokevirtual 136, 3) := by decide +kernel
theorem dX12_readValue_40 : decode cX12_readValue 40 = .ok (.ireturn, 1) := by decide +kernel
theorem dX12_readValue_41 : decode cX12_readValue 41 = .ok (.aload_n 0, 1) := by decide +kernel
theorem dX12_readValue_42 : decode cX12_readValue 42 = .ok (.iload_n 1, 1) := by decide +kernel
theorem dX12_readValue_43 : decode cX12_readValue 43 = .ok (.putfield 143, 3) := by decide +kernel
theorem dX12_readValue_46 : decode cX12_readValue 46 = .ok (.aload_n 0, 1) := by decide +kernel
theorem dX12_readValue_47 : decode cX12_readValue 47 = .ok (.invokevirtual 146, 3) := by decide +kernel
theorem dX12_readValue_50 : decode cX12_readValue 50 = .ok (.iconst 1, 1) := by decide +kernel
theorem dX12_readValue_51 : decode cX12_readValue 51 = .ok (.ireturn, 1) := by decide +kernel
def wp_X12_readValue (l0 : Nat) (h : PH) (Q : Int32 → PH → Prop) : Prop := ((¬ (qI h l0 7) = 3 → (wp_X12_valueAtHand l0 h (fun r3 h2 => ((¬ r3 = (-1) → (∀ h5, h5 = qsI h2 l0 13 r3 → (wp_X12_go l0 h5 (fun h6 => Q 1 h6)))) ∧ (r3 = (-1) → (wp_X12_bad l0 1 h2 (fun r9 h8 => ((r9 = 0 ∨ r9 = 1) ∧ Q r9 h8)))))))) ∧ ((qI h l0 7) = 3 → (∀ h11, h11 = qsI h l0 13 (100 + (qI h l0 8)) → (wp_X12_go l0 h11 (fun h12 => Q 1 h12)))))
set_option maxHeartbeats 4000000 in
set_option maxRecDepth 100000 in
theorem sn_X12_readValue (G : GT) (d : Nat) (l0 : Nat) (h : PH) (Q : Int32 → PH → Prop) (okl0 : qOK h 11 l0) (hwp : wp_X12_readValue l0 h Q) : Mt G (3 + d) 0 0 mX12_readValue [.ref l0] h (qqb Q) := by
  unfold wp_X12_readValue at hwp
  refine Mt.of (by decide) rfl (Nat.le_of_ble_eq_true rfl) ?_
  have hex := qEx.rf h
  have hnn : qn h = qn h + 0 := rfl
  have hzz : qz h = qz h + 0 := rfl
  refine x_lvE (lv2 := [(0, .ref l0)]) rfl ?_
  refine x_aload_n (pc := 0) dX12_readValue_0 rfl ?_
  refine x_getI (pc := 1) dX12_readValue_1 qRX12_98 okl0 (by decide) ?_
  refine x_iconst (v := 3) (pc := 4) dX12_readValue_4 (by decide) ?_
  refine x_icmp_ne (tgt := 25) (pc := 5) dX12_readValue_5 (by decide) (fun c1 => ?_) (fun c1 => ?_)
  · have hwp := hwp.1 c1
    refine x_aload_n (pc := 25) dX12_readValue_25 rfl ?_
    refine x_invV (As := []) (st := []) (pc := 26) dX12_readValue_26 lRX12_329 fX12_valueAtHand vX12_valueAtHand okl0 rfl (Nat.le_of_ble_eq_true rfl) (q_R (by omega) (by decide)) (q_C hnn hzz (by decide) (by decide)) (sn_X12_valueAtHand G (d + 0) l0 h _ okl0 hwp) (k_i (fun r3 h2 hwp cxh2 => ?_))
    have hex := hex.tr cxh2.1
    have hnn : qn h2 = qn h + 0 := by have := cxh2.2.1; omega
    have hzz : qz h2 = qz h + 0 := by have := cxh2.2.2; omega
    have okl0 := okl0.ex cxh2.1
    refine x_istore_n (lv2 := [(1, .int r3), (0, .ref l0)]) (pc := 29) dX12_readValue_29 (by decide) rfl ?_
    refine x_iload_n (pc := 30) dX12_readValue_30 rfl ?_
    refine x_iconst (v := (-1)) (pc := 31) dX12_readValue_31 (by decide) ?_
    refine x_icmp_ne (tgt := 41) (pc := 32) dX12_readValue_32 (by decide) (fun c4 => ?_) (fun c4 => ?_)
    · have hwp := hwp.1 c4
      refine x_aload_n (pc := 41) dX12_readValue_41 rfl ?_
      refine x_iload_n (pc := 42) dX12_readValue_42 rfl ?_
      refine y_putI (pc := 43) dX12_readValue_43 qRX12_143 okl0 (fun h5 eh5 nxh5 => ?_)
      have hwp := hwp h5 eh5
      have hex := hex.tr nxh5.1
      have hnn := nxh5.2.1.trans hnn
      have hzz := nxh5.2.2.trans hzz
      have okl0 := okl0.ex nxh5.1
      refine x_aload_n (pc := 46) dX12_readValue_46 rfl ?_
      refine x_invV (As := []) (st := []) (pc := 47) dX12_readValue_47 lRX12_146 fX12_go vX12_go okl0 rfl (Nat.le_of_ble_eq_true rfl) (q_R (by omega) (by decide)) (q_C hnn hzz (by decide) (by decide)) (sn_X12_go G (d + 1) l0 h5 _ okl0 hwp) (k_v (fun h6 hwp cxh6 => ?_))
      have hex := hex.tr cxh6.1
      have hnn : qn h6 = qn h + 0 := by have := cxh6.2.1; omega
      have hzz : qz h6 = qz h + 0 := by have := cxh6.2.2; omega
      have okl0 := okl0.ex cxh6.1
      refine x_iconst (v := 1) (pc := 50) dX12_readValue_50 (by decide) ?_
      exact x_zret (pc := 51) dX12_readValue_51 rfl hex hnn hzz (by decide) ⟨_, rfl, by decide, hwp⟩
    · have hwp := hwp.2 c4
      refine x_aload_n (pc := 35) dX12_readValue_35 rfl ?_
      refine x_iconst (v := 1) (pc := 36) dX12_readValue_36 (by decide) ?_
      refine x_invV (As := [.int 1]) (st := []) (pc := 37) dX12_readValue_37 lRX12_136 fX12_bad vX12_bad okl0 rfl (Nat.le_of_ble_eq_true rfl) (q_R (by omega) (by decide)) (q_C hnn hzz (by decide) (by decide)) (sn_X12_bad G (d + 2) l0 1 h2 _ okl0 hwp) (k_b (fun r9 h8 hwp zbr9 cxh8 => ?_))
      have hex := hex.tr cxh8.1
      have hnn : qn h8 = qn h + 0 := by have := cxh8.2.1; omega
      have hzz : qz h8 = qz h + 0 := by have := cxh8.2.2; omega
      have okl0 := okl0.ex cxh8.1
      exact x_zret (pc := 40) dX12_readValue_40 rfl hex hnn hzz hwp.1 ⟨_, rfl, hwp.1, hwp.2⟩
  · have hwp := hwp.2 c1
    refine x_aload_n (pc := 8) dX12_readValue_8 rfl ?_
    refine x_bipush (v := 100) (pc := 9) dX12_readValue_9 (by decide) ?_
    refine x_aload_n (pc := 11) dX12_readValue_11 rfl ?_
    refine x_getI (pc := 12) dX12_readValue_12 qRX12_115 okl0 (by decide) ?_
    refine x_iadd (pc := 15) dX12_readValue_15 ?_
    refine y_putI (pc := 16) dX12_readValue_16 qRX12_143 okl0 (fun h11 eh11 nxh11 => ?_)
    have hwp := hwp h11 eh11
    have hex := hex.tr nxh11.1
    have hnn := nxh11.2.1.trans hnn
    have hzz := nxh11.2.2.trans hzz
    have okl0 := okl0.ex nxh11.1
    refine x_aload_n (pc := 19) dX12_readValue_19 rfl ?_
    refine x_invV (As := []) (st := []) (pc := 20) dX12_readValue_20 lRX12_146 fX12_go vX12_go okl0 rfl (Nat.le_of_ble_eq_true rfl) (q_R (by omega) (by decide)) (q_C hnn hzz (by decide) (by decide)) (sn_X12_go G (d + 1) l0 h11 _ okl0 hwp) (k_v (fun h12 hwp cxh12 => ?_))
    have hex := hex.tr cxh12.1
    have hnn : qn h12 = qn h + 0 := by have := cxh12.2.1; omega
    have hzz : qz h12 = qz h + 0 := by have := cxh12.2.2; omega
    have okl0 := okl0.ex cxh12.1
    refine x_iconst (v := 1) (pc := 23) dX12_readValue_23 (by decide) ?_
    exact x_zret (pc := 24) dX12_readValue_24 rfl hex hnn hzz (by decide) ⟨_, rfl, by decide, hwp⟩

theorem dX12_readAnd_0 : decode cX12_readAnd 0 = .ok (.aload_n 0, 1) := by decide +kernel
theorem dX12_readAnd_1 : decode cX12_readAnd 1 = .ok (.invokevirtual 342, 3) := by decide +kernel
theorem dX12_readAnd_4 : decode cX12_readAnd 4 = .ok (.ifCond .ne 5, 3) := by decide +kernel
theorem dX12_readAnd_7 : decode cX12_readAnd 7 = .ok (.iconst 0, 1) := by decide +kernel
theorem dX12_readAnd_8 : decode cX12_readAnd 8 = .ok (.ireturn, 1) := by decide +kernel
theorem dX12_readAnd_9 : decode cX12_readAnd 9 = .ok (.aload_n 0, 1) := by decide +kernel
theorem dX12_readAnd_10 : decode cX12_readAnd 10 = .ok (.getfield 335, 3) := by decide +kernel
theorem dX12_readAnd_13 : decode cX12_readAnd 13 = .ok (.istore_n 1, 1) := by decide +kernel
theorem dX12_readAnd_14 : decode cX12_readAnd 14 = .ok (.aload_n 0, 1) := by decide +kernel
theorem dX12_readAnd_15 : decode cX12_readAnd 15 = .ok (.bipush 97, 2) := by decide +kernel
theorem dX12_readAnd_17 : decode cX12_readAnd 17 = .ok (.bipush 110, 2) := by decide +kernel
theorem dX12_readAnd_19 : decode cX12_readAnd 19 = .ok (.bipush 100, 2) := by decide +kernel
theorem dX12_readAnd_21 : decode cX12_readAnd 21 = .ok (.iconst 0, 1) := by decide +kernel
theorem dX12_readAnd_22 : decode cX12_readAnd 22 = .ok (.iconst 0, 1) := by decide +kernel
theorem dX12_readAnd_23 : decode cX12_readAnd 23 = .ok (.invokestatic 126, 3) := by decide +kernel
theorem dX12_readAnd_26 : decode cX12_readAnd 26 = .ok (.invokevirtual 149, 3) := by decide +kernel
theorem dX12_readAnd_29 : decode cX12_readAnd 29 = .ok (.ifCond .eq 31, 3) := by decide +kernel
theorem dX12_readAnd_32 : decode cX12_readAnd 32 = .ok (.aload_n 0, 1) := by decide +kernel
theorem dX12_readAnd_33 : decode cX12_readAnd 33 = .ok (.invokevirtual 146, 3) := by decide +kernel
theorem dX12_readAnd_36 : decode cX12_readAnd 36 = .ok (.aload_n 0, 1) := by decide +kernel
theorem dX12_readAnd_37 : decode cX12_readAnd 37 = .ok (.invokevirtual 342, 3) := by decide +kernel
theorem dX12_readAnd_40 : decode cX12_readAnd 40 = .ok (.ifCond .ne 5, 3) := by decide +kernel
theorem dX12_readAnd_43 : decode cX12_readAnd 43 = .ok (.iconst 0, 1) := by decide +kernel
theorem dX12_readAnd_44 : decode cX12_readAnd 44 = .ok (.ireturn, 1) := by decide +kernel
theorem dX12_readAnd_45 : decode cX12_readAnd 45 = .ok (.aload_n 0, 1) := by decide +kernel
theorem dX12_readAnd_46 : decode cX12_readAnd 46 = .ok (.iconst 2, 1) := by decide +kernel
theorem dX12_readAnd_47 : decode cX12_readAnd 47 = .ok (.iload_n 1, 1) := by decide +kernel
theorem dX12_readAnd_48 : decode cX12_readAnd 48 = .ok (.aload_n 0, 1) := by decide +kernel
theorem dX12_readAnd_49 : decode cX12_readAnd 49 = .ok (.getfield 335, 3) := by decide +kernel
theorem dX12_readAnd_52 : decode cX12_readAnd 52 = .ok (.iconst 0, 1) := by decide +kernel
theorem dX12_readAnd_53 : decode cX12_readAnd 53 = .ok (.invokevirtual 338, 3) := by decide +kernel
theorem dX12_readAnd_56 : decode cX12_readAnd 56 = .ok (.istore_n 1, 1) := by decide +kernel
theorem dX12_readAnd_57 : decode cX12_readAnd 57 = .ok (.goto (-43), 3) := by decide +kernel
theorem dX12_readAnd_60 : decode cX12_readAnd 60 = .ok (.aload_n 0, 1) := by decide +kernel
theorem dX12_readAnd_61 : decode cX12_readAnd 61 = .ok (.iload_n 1, 1) := by decide +kernel
theorem dX12_readAnd_62 : decode cX12_readAnd 62 = .ok (.putfield 335, 3) := by decide +kernel
theorem dX12_readAnd_65 : decode cX12_readAnd 65 = .ok (.iconst 1, 1) := by decide +kernel
theorem dX12_readAnd_66 : decode cX12_readAnd 66 = .ok (.ireturn, 1) := by decide +kernel
def E_X12_readAnd_14 (G : GT) (d : Nat) (h0 hb : PH) (l0 : Nat) (Q : Int32 → PH → Prop) (s : Int32 × PH) : Prop := qEx hb s.2 ∧ qn s.2 = qn hb ∧ qz s.2 = qz hb → Ex G (qrm (4 + d) 0 0) mX12_readAnd (qn h0) (qz h0) (ZN G h0 0 0 (qqb Q)) 14 [(0, .ref l0), (1, .int s.1)] [] s.2
def wb_X12_readAnd_14 (rc_X12_readAnd : Nat → PH → (Int32 → PH → Prop) → Prop) (rc_X12_readOne : Nat → PH → (Int32 → PH → Prop) → Prop) (rc_X12_readOr : Nat → PH → (Int32 → PH → Prop) → Prop) (l0 : Nat)  (Q : Int32 → PH → Prop) (bk14 : Int32 × PH → Prop) (l1 : Int32) (h : PH) : Prop := (wp_X12_spelt 97 110 100 0 0 h (fun r6 h5 => (wp_X12_isKey l0 r6 h5 (fun r8 h7 => ((r8 = 0 → (∀ h10, h10 = qsI h7 l0 47 l1 → Q 1 h10)) ∧ (¬ (r8 = 0) → (wp_X12_go l0 h7 (fun h11 => (rc_X12_readOne l0 h11 (fun r14 h13 => ((¬ r14 = 0 → (wp_X12_lays l0 2 l1 (qI h13 l0 47) 0 h13 (fun r17 h16 => bk14 (r17, h16)))) ∧ (r14 = 0 → Q 0 h13))))))))))))
def wp_X12_readAnd_14 (rc_X12_readAnd : Nat → PH → (Int32 → PH → Prop) → Prop) (rc_X12_readOne : Nat → PH → (Int32 → PH → Prop) → Prop) (rc_X12_readOr : Nat → PH → (Int32 → PH → Prop) → Prop) (l0 : Nat)  (Q : Int32 → PH → Prop) (bk14 : Int32 × PH → Prop) (s : Int32 × PH) : Prop := wb_X12_readAnd_14 rc_X12_readAnd rc_X12_readOne rc_X12_readOr l0 Q bk14 s.1 s.2
set_option maxHeartbeats 4000000 in
set_option maxRecDepth 100000 in
theorem bd_X12_readAnd_14 (G : GT) (d : Nat) (h0 hb : PH) (rc_X12_readAnd : Nat → PH → (Int32 → PH → Prop) → Prop) (hrc_X12_readAnd : ∀ (a0 : Nat) (h : PH) (Q : Int32 → PH → Prop), qOK h 11 a0 → rc_X12_readAnd a0 h Q → Mt G (3 + d) 0 0 mX12_readAnd [.ref a0] h (qqb Q)) (rc_X12_readOne : Nat → PH → (Int32 → PH → Prop) → Prop) (hrc_X12_readOne : ∀ (a0 : Nat) (h : PH) (Q : Int32 → PH → Prop), qOK h 11 a0 → rc_X12_readOne a0 h Q → Mt G (3 + d) 0 0 mX12_readOne [.ref a0] h (qqb Q)) (rc_X12_readOr : Nat → PH → (Int32 → PH → Prop) → Prop) (hrc_X12_readOr : ∀ (a0 : Nat) (h : PH) (Q : Int32 → PH → Prop), qOK h 11 a0 → rc_X12_readOr a0 h Q → Mt G (3 + d) 0 0 mX12_readOr [.ref a0] h (qqb Q)) (l0 : Nat) (Q : Int32 → PH → Prop)  (hex : qEx h0 hb) (hnn : qn hb = qn h0 + 0) (hzz : qz hb = qz h0 + 0) (okl0 : qOK hb 11 l0) (bk14 : Int32 × PH → Prop) (hbk14 : ∀ s2, bk14 s2 → E_X12_readAnd_14 G d h0 hb l0 Q s2) (l1 : Int32) (h : PH) (hwp : wb_X12_readAnd_14 rc_X12_readAnd rc_X12_readOne rc_X12_readOr l0 Q bk14 l1 h) (hx14 : qEx hb h) (hn14 : qn h = qn hb) (hz14 : qz h = qz hb) : Ex G (qrm (4 + d) 0 0) mX12_readAnd (qn h0) (qz h0) (ZN G h0 0 0 (qqb Q)) 14 [(0, .ref l0), (1, .int l1)] [] h := by
  unfold wb_X12_readAnd_14 at hwp
  have hex := hex.tr hx14
  have hnn := hn14.trans hnn
  have hzz := hz14.trans hzz
  have okl0 := okl0.ex hx14
  refine x_aload_n (pc := 14) dX12_readAnd_14 rfl ?_
  refine x_bipush (v := 97) (pc := 15) dX12_readAnd_15 (by decide) ?_
  refine x_bipush (v := 110) (pc := 17) dX12_readAnd_17 (by decide) ?_
  refine x_bipush (v := 100) (pc := 19) dX12_readAnd_19 (by decide) ?_
  refine x_iconst (v := 0) (pc := 21) dX12_readAnd_21 (by decide) ?_
  refine x_iconst (v := 0) (pc := 22) dX12_readAnd_22 (by decide) ?_
  refine x_invS (As := [.int 97, .int 110, .int 100, .int 0, .int 0]) (st := [.ref l0]) (pc := 23) dX12_readAnd_23 lRX12_126 fX12_spelt sX12_spelt rfl (Nat.le_of_ble_eq_true rfl) (q_R (by omega) (by decide)) (q_C hnn hzz (by decide) (by decide)) (sn_X12_spelt G (d + 3) 97 110 100 0 0 h _  hwp) (k_j (fun r6 h5 hwp cxh5 => ?_))
  have hex := hex.tr cxh5.1
  have hnn : qn h5 = qn h0 + 0 := by have := cxh5.2.1; omega
  have hzz : qz h5 = qz h0 + 0 := by have := cxh5.2.2; omega
  have hx14 := hx14.tr cxh5.1
  have hn14 : qn h5 = qn hb := by have := cxh5.2.1; omega
  have hz14 : qz h5 = qz hb := by have := cxh5.2.2; omega
  have okl0 := okl0.ex cxh5.1
  refine x_invV (As := [.long r6]) (st := []) (pc := 26) dX12_readAnd_26 lRX12_149 fX12_isKey vX12_isKey okl0 rfl (Nat.le_of_ble_eq_true rfl) (q_R (by omega) (by decide)) (q_C hnn hzz (by decide) (by decide)) (sn_X12_isKey G (d + 3) l0 r6 h5 _ okl0 hwp) (k_b (fun r8 h7 hwp zbr8 cxh7 => ?_))
  have hex := hex.tr cxh7.1
  have hnn : qn h7 = qn h0 + 0 := by have := cxh7.2.1; omega
  have hzz : qz h7 = qz h0 + 0 := by have := cxh7.2.2; omega
  have hx14 := hx14.tr cxh7.1
  have hn14 : qn h7 = qn hb := by have := cxh7.2.1; omega
  have hz14 : qz h7 = qz hb := by have := cxh7.2.2; omega
  have okl0 := okl0.ex cxh7.1
  refine x_if_eq (tgt := 60) (pc := 29) dX12_readAnd_29 (by decide) (fun c9 => ?_) (fun c9 => ?_)
  · have hwp := hwp.1 c9
    refine x_aload_n (pc := 60) dX12_readAnd_60 rfl ?_
    refine x_iload_n (pc := 61) dX12_readAnd_61 rfl ?_
    refine y_putI (pc := 62) dX12_readAnd_62 qRX12_335 okl0 (fun h10 eh10 nxh10 => ?_)
    have hwp := hwp h10 eh10
    have hex := hex.tr nxh10.1
    have hnn := nxh10.2.1.trans hnn
    have hzz := nxh10.2.2.trans hzz
    have hx14 := hx14.tr nxh10.1
    have hn14 := nxh10.2.1.trans hn14
    have hz14 := nxh10.2.2.trans hz14
    have okl0 := okl0.ex nxh10.1
    refine x_iconst (v := 1) (pc := 65) dX12_readAnd_65 (by decide) ?_
    exact x_zret (pc := 66) dX12_readAnd_66 rfl hex hnn hzz (by decide) ⟨_, rfl, by decide, hwp⟩
  · have hwp := hwp.2 c9
    refine x_aload_n (pc := 32) dX12_readAnd_32 rfl ?_
    refine x_invV (As := []) (st := []) (pc := 33) dX12_readAnd_33 lRX12_146 fX12_go vX12_go okl0 rfl (Nat.le_of_ble_eq_true rfl) (q_R (by omega) (by decide)) (q_C hnn hzz (by decide) (by decide)) (sn_X12_go G (d + 2) l0 h7 _ okl0 hwp) (k_v (fun h11 hwp cxh11 => ?_))
    have hex := hex.tr cxh11.1
    have hnn : qn h11 = qn h0 + 0 := by have := cxh11.2.1; omega
    have hzz : qz h11 = qz h0 + 0 := by have := cxh11.2.2; omega
    have hx14 := hx14.tr cxh11.1
    have hn14 : qn h11 = qn hb := by have := cxh11.2.1; omega
    have hz14 : qz h11 = qz hb := by have := cxh11.2.2; omega
    have okl0 := okl0.ex cxh11.1
    refine x_aload_n (pc := 36) dX12_readAnd_36 rfl ?_
    refine x_invV (As := []) (st := []) (pc := 37) dX12_readAnd_37 lRX12_342 fX12_readOne vX12_readOne okl0 rfl (Nat.le_of_ble_eq_true rfl) (q_R (by omega) (by decide)) (q_C hnn hzz (by decide) (by decide)) (hrc_X12_readOne l0 h11 _ okl0 hwp) (k_b (fun r14 h13 hwp zbr14 cxh13 => ?_))
    have hex := hex.tr cxh13.1
    have hnn : qn h13 = qn h0 + 0 := by have := cxh13.2.1; omega
    have hzz : qz h13 = qz h0 + 0 := by have := cxh13.2.2; omega
    have hx14 := hx14.tr cxh13.1
    have hn14 : qn h13 = qn hb := by have := cxh13.2.1; omega
    have hz14 : qz h13 = qz hb := by have := cxh13.2.2; omega
    have okl0 := okl0.ex cxh13.1
    refine x_if_ne (tgt := 45) (pc := 40) dX12_readAnd_40 (by decide) (fun c15 => ?_) (fun c15 => ?_)
    · have hwp := hwp.1 c15
      refine x_aload_n (pc := 45) dX12_readAnd_45 rfl ?_
      refine x_iconst (v := 2) (pc := 46) dX12_readAnd_46 (by decide) ?_
      refine x_iload_n (pc := 47) dX12_readAnd_47 rfl ?_
      refine x_aload_n (pc := 48) dX12_readAnd_48 rfl ?_
      refine x_getI (pc := 49) dX12_readAnd_49 qRX12_335 okl0 (by decide) ?_
      refine x_iconst (v := 0) (pc := 52) dX12_readAnd_52 (by decide) ?_
      refine x_invV (As := [.int 2, .int l1, .int (qI h13 l0 47), .int 0]) (st := []) (pc := 53) dX12_readAnd_53 lRX12_338 fX12_lays vX12_lays okl0 rfl (Nat.le_of_ble_eq_true rfl) (q_R (by omega) (by decide)) (q_C hnn hzz (by decide) (by decide)) (sn_X12_lays G (d + 3) l0 2 l1 (qI h13 l0 47) 0 h13 _ okl0 hwp) (k_i (fun r17 h16 hwp cxh16 => ?_))
      have hex := hex.tr cxh16.1
      have hnn : qn h16 = qn h0 + 0 := by have := cxh16.2.1; omega
      have hzz : qz h16 = qz h0 + 0 := by have := cxh16.2.2; omega
      have hx14 := hx14.tr cxh16.1
      have hn14 : qn h16 = qn hb := by have := cxh16.2.1; omega
      have hz14 : qz h16 = qz hb := by have := cxh16.2.2; omega
      have okl0 := okl0.ex cxh16.1
      refine x_istore_n (lv2 := [(1, .int r17), (0, .ref l0)]) (pc := 56) dX12_readAnd_56 (by decide) rfl ?_
      refine x_goto (tgt := 14) (pc := 57) dX12_readAnd_57 (by decide) ?_
      refine x_sub [1, 0] rfl ?_
      exact hbk14 _ hwp ⟨hx14, hn14, hz14⟩
    · have hwp := hwp.2 c15
      refine x_iconst (v := 0) (pc := 43) dX12_readAnd_43 (by decide) ?_
      exact x_zret (pc := 44) dX12_readAnd_44 rfl hex hnn hzz (by decide) ⟨_, rfl, by decide, hwp⟩
theorem lp_X12_readAnd_14 (G : GT) (d : Nat) (h0 hb : PH) (rc_X12_readAnd : Nat → PH → (Int32 → PH → Prop) → Prop) (hrc_X12_readAnd : ∀ (a0 : Nat) (h : PH) (Q : Int32 → PH → Prop), qOK h 11 a0 → rc_X12_readAnd a0 h Q → Mt G (3 + d) 0 0 mX12_readAnd [.ref a0] h (qqb Q)) (rc_X12_readOne : Nat → PH → (Int32 → PH → Prop) → Prop) (hrc_X12_readOne : ∀ (a0 : Nat) (h : PH) (Q : Int32 → PH → Prop), qOK h 11 a0 → rc_X12_readOne a0 h Q → Mt G (3 + d) 0 0 mX12_readOne [.ref a0] h (qqb Q)) (rc_X12_readOr : Nat → PH → (Int32 → PH → Prop) → Prop) (hrc_X12_readOr : ∀ (a0 : Nat) (h : PH) (Q : Int32 → PH → Prop), qOK h 11 a0 → rc_X12_readOr a0 h Q → Mt G (3 + d) 0 0 mX12_readOr [.ref a0] h (qqb Q)) (l0 : Nat) (Q : Int32 → PH → Prop)  (hex : qEx h0 hb) (hnn : qn hb = qn h0 + 0) (hzz : qz hb = qz h0 + 0) (okl0 : qOK hb 11 l0) {s : Int32 × PH} (hwp : qLoop (wp_X12_readAnd_14 rc_X12_readAnd rc_X12_readOne rc_X12_readOr l0 Q) s) : E_X12_readAnd_14 G d h0 hb l0 Q s :=
  qLoop.use (E := E_X12_readAnd_14 G d h0 hb l0 Q) (fun back s hbk hw hx => bd_X12_readAnd_14 G d h0 hb rc_X12_readAnd hrc_X12_readAnd rc_X12_readOne hrc_X12_readOne rc_X12_readOr hrc_X12_readOr l0 Q hex hnn hzz okl0 back hbk s.1 s.2 hw hx.1 hx.2.1 hx.2.2) hwp
def wp_X12_readAnd (rc_X12_readAnd : Nat → PH → (Int32 → PH → Prop) → Prop) (rc_X12_readOne : Nat → PH → (Int32 → PH → Prop) → Prop) (rc_X12_readOr : Nat → PH → (Int32 → PH → Prop) → Prop) (l0 : Nat) (h : PH) (Q : Int32 → PH → Prop) : Prop := (rc_X12_readOne l0 h (fun r2 h1 => ((¬ r2 = 0 → ∀ v4 : Int32, v4 = qI h1 l0 47 → (qLoop (wp_X12_readAnd_14 rc_X12_readAnd rc_X12_readOne rc_X12_readOr l0 Q) (v4, h1))) ∧ (r2 = 0 → Q 0 h1))))
set_option maxHeartbeats 4000000 in
set_option maxRecDepth 100000 in
theorem sn_X12_readAnd (G : GT) (d : Nat) (rc_X12_readAnd : Nat → PH → (Int32 → PH → Prop) → Prop) (hrc_X12_readAnd : ∀ (a0 : Nat) (h : PH) (Q : Int32 → PH → Prop), qOK h 11 a0 → rc_X12_readAnd a0 h Q → Mt G (3 + d) 0 0 mX12_readAnd [.ref a0] h (qqb Q)) (rc_X12_readOne : Nat → PH → (Int32 → PH → Prop) → Prop) (hrc_X12_readOne : ∀ (a0 : Nat) (h : PH) (Q : Int32 → PH → Prop), qOK h 11 a0 → rc_X12_readOne a0 h Q → Mt G (3 + d) 0 0 mX12_readOne [.ref a0] h (qqb Q)) (rc_X12_readOr : Nat → PH → (Int32 → PH → Prop) → Prop) (hrc_X12_readOr : ∀ (a0 : Nat) (h : PH) (Q : Int32 → PH → Prop), qOK h 11 a0 → rc_X12_readOr a0 h Q → Mt G (3 + d) 0 0 mX12_readOr [.ref a0] h (qqb Q)) (l0 : Nat) (h : PH) (Q : Int32 → PH → Prop) (okl0 : qOK h 11 l0) (hwp : wp_X12_readAnd rc_X12_readAnd rc_X12_readOne rc_X12_readOr l0 h Q) : Mt G (4 + d) 0 0 mX12_readAnd [.ref l0] h (qqb Q) := by
  unfold wp_X12_readAnd at hwp
  refine Mt.of (by decide) rfl (Nat.le_of_ble_eq_true rfl) ?_
  have hex := qEx.rf h
  have hnn : qn h = qn h + 0 := rfl
  have hzz : qz h = qz h + 0 := rfl
  refine x_lvE (lv2 := [(0, .ref l0)]) rfl ?_
  refine x_aload_n (pc := 0) dX12_readAnd_0 rfl ?_
  refine x_invV (As := []) (st := []) (pc := 1) dX12_readAnd_1 lRX12_342 fX12_readOne vX12_readOne okl0 rfl (Nat.le_of_ble_eq_true rfl) (q_R (by omega) (by decide)) (q_C hnn hzz (by decide) (by decide)) (hrc_X12_readOne l0 h _ okl0 hwp) (k_b (fun r2 h1 hwp zbr2 cxh1 => ?_))
  have hex := hex.tr cxh1.1
  have hnn : qn h1 = qn h + 0 := by have := cxh1.2.1; omega
  have hzz : qz h1 = qz h + 0 := by have := cxh1.2.2; omega
  have okl0 := okl0.ex cxh1.1
  refine x_if_ne (tgt := 9) (pc := 4) dX12_readAnd_4 (by decide) (fun c3 => ?_) (fun c3 => ?_)
  · have hwp := hwp.1 c3
    refine x_aload_n (pc := 9) dX12_readAnd_9 rfl ?_
    refine x_getI (pc := 10) dX12_readAnd_10 qRX12_335 okl0 (by decide) ?_
    refine x_nmI (fun v4 ev4 => ?_)
    have hwp := hwp v4 ev4
    refine x_istore_n (lv2 := [(1, .int v4), (0, .ref l0)]) (pc := 13) dX12_readAnd_13 (by decide) rfl ?_
    refine x_sub [1, 0] rfl ?_
    exact lp_X12_readAnd_14 G d h h1 rc_X12_readAnd hrc_X12_readAnd rc_X12_readOne hrc_X12_readOne rc_X12_readOr hrc_X12_readOr l0 Q hex hnn hzz okl0 hwp ⟨qEx.rf _, rfl, rfl⟩
  · have hwp := hwp.2 c3
    refine x_iconst (v := 0) (pc := 7) dX12_readAnd_7 (by decide) ?_
    exact x_zret (pc := 8) dX12_readAnd_8 rfl hex hnn hzz (by decide) ⟨_, rfl, by decide, hwp⟩

theorem dX12_readOne_0 : decode cX12_readOne 0 = .ok (.aload_n 0, 1) := by decide +kernel
theorem dX12_readOne_1 : decode cX12_readOne 1 = .ok (.bipush 110, 2) := by decide +kernel
theorem dX12_readOne_3 : decode cX12_readOne 3 = .ok (.bipush 111, 2) := by decide +kernel
theorem dX12_readOne_5 : decode cX12_readOne 5 = .ok (.bipush 116, 2) := by decide +kernel
theorem dX12_readOne_7 : decode cX12_readOne 7 = .ok (.iconst 0, 1) := by decide +kernel
theorem dX12_readOne_8 : decode cX12_readOne 8 = .ok (.iconst 0, 1) := by decide +kernel
theorem dX12_readOne_9 : decode cX12_readOne 9 = .ok (.invokestatic 126, 3) := by decide +kernel
theorem dX12_readOne_12 : decode cX12_readOne 12 = .ok (.invokevirtual 149, 3) := by decide +kernel
theorem dX12_readOne_15 : decode cX12_readOne 15 = .ok (.istore_n 1, 1) := by decide +kernel
theorem dX12_readOne_16 : decode cX12_readOne 16 = .ok (.aload_n 0, 1) := by decide +kernel
theorem dX12_readOne_17 : decode cX12_readOne 17 = .ok (.bipush 40, 2) := by decide +kernel
theorem dX12_readOne_19 : decode cX12_readOne 19 = .ok (.invokevirtual 153, 3) := by decide +kernel
theorem dX12_readOne_22 : decode cX12_readOne 22 = .ok (.istore_n 2, 1) := by decide +kernel
theorem dX12_readOne_23 : decode cX12_readOne 23 = .ok (.iload_n 1, 1) := by decide +kernel
theorem dX12_readOne_24 : decode cX12_readOne 24 = .ok (.ifCond .ne 29, 3) := by decide +kernel
theorem dX12_readOne_27 : decode cX12_readOne 27 = .ok (.iload_n 2, 1) := by decide +kernel
theorem dX12_readOne_28 : decode cX12_readOne 28 = .ok (.ifCond .ne 25, 3) := by decide +kernel
theorem dX12_readOne_31 : decode cX12_readOne 31 = .ok (.aload_n 0, 1) := by decide +kernel
theorem dX12_readOne_32 : decode cX12_readOne 32 = .ok (.getfield 98, 3) := by decide +kernel
theorem dX12_readOne_35 : decode cX12_readOne 35 = .ok (.iconst 3, 1) := by decide +kernel
theorem dX12_readOne_36 : decode cX12_readOne 36 = .ok (.if_icmp .eq 17, 3) := by decide +kernel
theorem dX12_readOne_39 : decode cX12_readOne 39 = .ok (.aload_n 0, 1) := by decide +kernel
theorem dX12_readOne_40 : decode cX12_readOne 40 = .ok (.invokevirtual 329, 3) := by decide +kernel
theorem dX12_readOne_43 : decode cX12_readOne 43 = .ok (.iconst (-1), 1) := by decide +kernel
theorem dX12_readOne_44 : decode cX12_readOne 44 = .ok (.if_icmp .ne 9, 3) := by decide +kernel
theorem dX12_readOne_47 : decode cX12_readOne 47 = .ok (.aload_n 0, 1) := by decide +kernel
theorem dX12_readOne_48 : decode cX12_readOne 48 = .ok (.iconst 1, 1) := by decide +kernel
theorem dX12_readOne_49 : decode cX12_readOne 49 = .ok (.invokevirtual 136, 3) := by decide +kernel
theorem dX12_readOne_52 : decode cX12_readOne 52 = .ok (.ireturn, 1) := by decide +kernel
theorem dX12_readOne_53 : decode cX12_readOne 53 = .ok (.aload_n 0, 1) := by decide +kernel
theorem dX12_readOne_54 : decode cX12_readOne 54 = .ok (.getfield 345, 3) := by decide +kernel
theorem dX12_readOne_57 : decode cX12_readOne 57 = .ok (.bipush 20, 2) := by decide +kernel
theorem dX12_readOne_59 : decode cX12_readOne 59 = .ok (.if_icmp .eq 12, 3) := by decide +kernel
theorem dX12_readOne_62 : decode cX12_readOne 62 = .ok (.aload_n 0, 1) := by decide +kernel
theorem dX12_readOne_63 : decode cX12_readOne 63 = .ok (.getfield 348, 3) := by decide +kernel
theorem dX12_readOne_66 : decode cX12_readOne 66 = .ok (.bipush 8, 2) := by decide +kernel
theorem dX12_readOne_68 : decode cX12_readOne 68 = .ok (.if_icmp .ne 9, 3) := by decide +kernel
theorem dX12_readOne_71 : decode cX12_readOne 71 = .ok (.aload_n 0, 1) := by decide +kernel
theorem dX12_readOne_72 : decode cX12_readOne 72 = .ok (.iconst 4, 1) := by decide +kernel
theorem dX12_readOne_73 : decode cX12_readOne 73 = .ok (.invokevirtual 136, 3) := by decide +kernel
theorem dX12_readOne_76 : decode cX12_readOne 76 = .ok (.ireturn, 1) := by decide +kernel
theorem dX12_readOne_77 : decode cX12_readOne 77 = .ok (.aload_n 0, 1) := by decide +kernel
theorem dX12_readOne_78 : decode cX12_readOne 78 = .ok (.dup, 1) := by decide +kernel
theorem dX12_readOne_79 : decode cX12_readOne 79 = .ok (.getfield 345, 3) := by decide +kernel
theorem dX12_readOne_82 : decode cX12_readOne 82 = .ok (.iconst 1, 1) := by decide +kernel
theorem dX12_readOne_83 : decode cX12_readOne 83 = .ok (.iadd, 1) := by decide +kernel
theorem dX12_readOne_84 : decode cX12_readOne 84 = .ok (.putfield 345, 3) := by decide +kernel
theorem dX12_readOne_87 : decode cX12_readOne 87 = .ok (.aload_n 0, 1) := by decide +kernel
theorem dX12_readOne_88 : decode cX12_readOne 88 = .ok (.dup, 1) := by decide +kernel
theorem dX12_readOne_89 : decode cX12_readOne 89 = .ok (.getfield 348, 3) := by decide +kernel
theorem dX12_readOne_92 : decode cX12_readOne 92 = .ok (.iconst 1, 1) := by decide +kernel
theorem dX12_readOne_93 : decode cX12_readOne 93 = .ok (.iadd, 1) := by decide +kernel
theorem dX12_readOne_94 : decode cX12_readOne 94 = .ok (.putfield 348, 3) := by decide +kernel
theorem dX12_readOne_97 : decode cX12_readOne 97 = .ok (.iload_n 1, 1) := by decide +kernel
theorem dX12_readOne_98 : decode cX12_readOne 98 = .ok (.ifCond .eq 34, 3) := by decide +kernel
theorem dX12_readOne_101 : decode cX12_readOne 101 = .ok (.aload_n 0, 1) := by decide +kernel
theorem dX12_readOne_102 : decode cX12_readOne 102 = .ok (.invokevirtual 146, 3) := by decide +kernel
theorem dX12_readOne_105 : decode cX12_readOne 105 = .ok (.aload_n 0, 1) := by decide +kernel
theorem dX12_readOne_106 : decode cX12_readOne 106 = .ok (.invokevirtual 342, 3) := by decide +kernel
theorem dX12_readOne_109 : decode cX12_readOne 109 = .ok (.ifCond .ne 5, 3) := by decide +kernel
theorem dX12_readOne_112 : decode cX12_readOne 112 = .ok (.iconst 0, 1) := by decide +kernel
theorem dX12_readOne_113 : decode cX12_readOne 113 = .ok (.ireturn, 1) := by decide +kernel
theorem dX12_readOne_114 : decode cX12_readOne 114 = .ok (.aload_n 0, 1) := by decide +kernel
theorem dX12_readOne_115 : decode cX12_readOne 115 = .ok (.aload_n 0, 1) := by decide +kernel
theorem dX12_readOne_116 : decode cX12_readOne 116 = .ok (.iconst 1, 1) := by decide +kernel
theorem dX12_readOne_117 : decode cX12_readOne 117 = .ok (.aload_n 0, 1) := by decide +kernel
theorem dX12_readOne_118 : decode cX12_readOne 118 = .ok (.getfield 335, 3) := by decide +kernel
theorem dX12_readOne_121 : decode cX12_readOne 121 = .ok (.iconst 0, 1) := by decide +kernel
theorem dX12_readOne_122 : decode cX12_readOne 122 = .ok (.iconst 0, 1) := by decide +kernel
theorem dX12_readOne_123 : decode cX12_readOne 123 = .ok (.invokevirtual 338, 3) := by decide +kernel
theorem dX12_readOne_126 : decode cX12_readOne 126 = .ok (.putfield 335, 3) := by decide +kernel
theorem dX12_readOne_129 : decode cX12_readOne 129 = .ok (.goto 124, 3) := by decide +kernel
theorem dX12_readOne_132 : decode cX12_readOne 132 = .ok (.iload_n 2, 1) := by decide +kernel
theorem dX12_readOne_133 : decode cX12_readOne 133 = .ok (.ifCond .eq 38, 3) := by decide +kernel
theorem dX12_readOne_136 : decode cX12_readOne 136 = .ok (.aload_n 0, 1) := by decide +kernel
theorem dX12_readOne_137 : decode cX12_readOne 137 = .ok (.invokevirtual 146, 3) := by decide +kernel
theorem dX12_readOne_140 : decode cX12_readOne 140 = .ok (.aload_n 0, 1) := by decide +kernel
theorem dX12_readOne_141 : decode cX12_readOne 141 = .ok (.invokevirtual 351, 3) := by decide +kernel
theorem dX12_readOne_144 : decode cX12_readOne 144 = .ok (.ifCond .ne 5, 3) := by decide +kernel
theorem dX12_readOne_147 : decode cX12_readOne 147 = .ok (.iconst 0, 1) := by decide +kernel
theorem dX12_readOne_148 : decode cX12_readOne 148 = .ok (.ireturn, 1) := by decide +kernel
theorem dX12_readOne_149 : decode cX12_readOne 149 = .ok (.aload_n 0, 1) := by decide +kernel
theorem dX12_readOne_150 : decode cX12_readOne 150 = .ok (.bipush 41, 2) := by decide +kernel
theorem dX12_readOne_152 : decode cX12_readOne 152 = .ok (.invokevirtual 153, 3) := by decide +kernel
theorem dX12_readOne_155 : decode cX12_readOne 155 = .ok (.ifCond .ne 9, 3) := by decide +kernel
theorem dX12_readOne_158 : decode cX12_readOne 158 = .ok (.aload_n 0, 1) := by decide +kernel
theorem dX12_readOne_159 : decode cX12_readOne 159 = .ok (.iconst 1, 1) := by decide +kernel
theorem dX12_readOne_160 : decode cX12_readOne 160 = .ok (.invokevirtual 136, 3) := by decide +kernel
theorem dX12_readOne_163 : decode cX12_readOne 163 = .ok (.ireturn, 1) := by decide +kernel
theorem dX12_readOne_164 : decode cX12_readOne 164 = .ok (.aload_n 0, 1) := by decide +kernel
theorem dX12_readOne_165 : decode cX12_readOne 165 = .ok (.invokevirtual 146, 3) := by decide +kernel
theorem dX12_readOne_168 : decode cX12_readOne 168 = .ok (.goto 85, 3) := by decide +kernel
theorem dX12_readOne_171 : decode cX12_readOne 171 = .ok (.aload_n 0, 1) := by decide +kernel
theorem dX12_readOne_172 : decode cX12_readOne 172 = .ok (.invokevirtual 354, 3) := by decide +kernel
theorem dX12_readOne_175 : decode cX12_readOne 175 = .ok (.ifCond .ne 5, 3) := by decide +kernel
theorem dX12_readOne_178 : decode cX12_readOne 178 = .ok (.iconst 0, 1) := by decide +kernel
theorem dX12_readOne_179 : decode cX12_readOne 179 = .ok (.ireturn, 1) := by decide +kernel
theorem dX12_readOne_180 : decode cX12_readOne 180 = .ok (.aload_n 0, 1) := by decide +kernel
theorem dX12_readOne_181 : decode cX12_readOne 181 = .ok (.getfield 143, 3) := by decide +kernel
theorem dX12_readOne_184 : decode cX12_readOne 184 = .ok (.istore_n 3, 1) := by decide +kernel
theorem dX12_readOne_185 : decode cX12_readOne 185 = .ok (.aload_n 0, 1) := by decide +kernel
theorem dX12_readOne_186 : decode cX12_readOne 186 = .ok (.bipush 60, 2) := by decide +kernel
theorem dX12_readOne_188 : decode cX12_readOne 188 = .ok (.invokevirtual 153, 3) := by decide +kernel
theorem dX12_readOne_191 : decode cX12_readOne 191 = .ok (.ifCond .ne 27, 3) := by decide +kernel
theorem dX12_readOne_194 : decode cX12_readOne 194 = .ok (.aload_n 0, 1) := by decide +kernel
theorem dX12_readOne_195 : decode cX12_readOne 195 = .ok (.bipush 61, 2) := by decide +kernel
theorem dX12_readOne_197 : decode cX12_readOne 197 = .ok (.invokevirtual 153, 3) := by decide +kernel
theorem dX12_readOne_200 : decode cX12_readOne 200 = .ok (.ifCond .ne 18, 3) := by decide +kernel
theorem dX12_readOne_203 : decode cX12_readOne 203 = .ok (.aload_n 0, 1) := by decide +kernel
theorem dX12_readOne_204 : decode cX12_readOne 204 = .ok (.bipush 62, 2) := by decide +kernel
theorem dX12_readOne_206 : decode cX12_readOne 206 = .ok (.invokevirtual 153, 3) := by decide +kernel
theorem dX12_readOne_209 : decode cX12_readOne 209 = .ok (.ifCond .ne 9, 3) := by decide +kernel
theorem dX12_readOne_212 : decode cX12_readOne 212 = .ok (.aload_n 0, 1) := by decide +kernel
theorem dX12_readOne_213 : decode cX12_readOne 213 = .ok (.iconst 1, 1) := by decide +kernel
theorem dX12_readOne_214 : decode cX12_readOne 214 = .ok (.invokevirtual 136, 3) := by decide +kernel
theorem dX12_readOne_217 : decode cX12_readOne 217 = .ok (.ireturn, 1) := by decide +kernel
theorem dX12_readOne_218 : decode cX12_readOne 218 = .ok (.aload_n 0, 1) := by decide +kernel
theorem dX12_readOne_219 : decode cX12_readOne 219 = .ok (.getfield 108, 3) := by decide +kernel
theorem dX12_readOne_222 : decode cX12_readOne 222 = .ok (.istore 4, 2) := by decide +kernel
theorem dX12_readOne_224 : decode cX12_readOne 224 = .ok (.aload_n 0, 1) := by decide +kernel
theorem dX12_readOne_225 : decode cX12_readOne 225 = .ok (.invokevirtual 146, 3) := by decide +kernel
theorem dX12_readOne_228 : decode cX12_readOne 228 = .ok (.aload_n 0, 1) := by decide +kernel
theorem dX12_readOne_229 : decode cX12_readOne 229 = .ok (.invokevirtual 354, 3) := by decide +kernel
theorem dX12_readOne_232 : decode cX12_readOne 232 = .ok (.ifCond .ne 5, 3) := by decide +kernel
theorem dX12_readOne_235 : decode cX12_readOne 235 = .ok (.iconst 0, 1) := by decide +kernel
theorem dX12_readOne_236 : decode cX12_readOne 236 = .ok (.ireturn, 1) := by decide +kernel
theorem dX12_readOne_237 : decode cX12_readOne 237 = .ok (.aload_n 0, 1) := by decide +kernel
theorem dX12_readOne_238 : decode cX12_readOne 238 = .ok (.aload_n 0, 1) := by decide +kernel
theorem dX12_readOne_239 : decode cX12_readOne 239 = .ok (.iconst 4, 1) := by decide +kernel
theorem dX12_readOne_240 : decode cX12_readOne 240 = .ok (.iload_n 3, 1) := by decide +kernel
theorem dX12_readOne_241 : decode cX12_readOne 241 = .ok (.aload_n 0, 1) := by decide +kernel
theorem dX12_readOne_242 : decode cX12_readOne 242 = .ok (.getfield 143, 3) := by decide +kernel
theorem dX12_readOne_245 : decode cX12_readOne 245 = .ok (.iload 4, 2) := by decide +kernel
theorem dX12_readOne_247 : decode cX12_readOne 247 = .ok (.invokevirtual 338, 3) := by decide +kernel
theorem dX12_readOne_250 : decode cX12_readOne 250 = .ok (.putfield 335, 3) := by decide +kernel
theorem dX12_readOne_253 : decode cX12_readOne 253 = .ok (.aload_n 0, 1) := by decide +kernel
theorem dX12_readOne_254 : decode cX12_readOne 254 = .ok (.dup, 1) := by decide +kernel
theorem dX12_readOne_255 : decode cX12_readOne 255 = .ok (.getfield 348, 3) := by decide +kernel
theorem dX12_readOne_258 : decode cX12_readOne 258 = .ok (.iconst 1, 1) := by decide +kernel
theorem dX12_readOne_259 : decode cX12_readOne 259 = .ok (.isub, 1) := by decide +kernel
theorem dX12_readOne_260 : decode cX12_readOne 260 = .ok (.putfield 348, 3) := by decide +kernel
theorem dX12_readOne_263 : decode cX12_readOne 263 = .ok (.iconst 1, 1) := by decide +kernel
theorem dX12_readOne_264 : decode cX12_readOne 264 = .ok (.ireturn, 1) := by decide +kernel
def wp_X12_readOne_218 (rc_X12_readAnd : Nat → PH → (Int32 → PH → Prop) → Prop) (rc_X12_readOne : Nat → PH → (Int32 → PH → Prop) → Prop) (rc_X12_readOr : Nat → PH → (Int32 → PH → Prop) → Prop) (l0 : Nat) (l3 : Int32)  (h : PH) (Q : Int32 → PH → Prop) : Prop := ∀ v67 : Int32, v67 = qI h l0 9 → (wp_X12_go l0 h (fun h68 => (wp_X12_readValue l0 h68 (fun r71 h70 => ((¬ r71 = 0 → (wp_X12_lays l0 4 l3 (qI h70 l0 13) v67 h70 (fun r74 h73 => (∀ h75, h75 = qsI h73 l0 47 r74 → (∀ h76, h76 = qsI h75 l0 43 ((qI h75 l0 43) - 1) → Q 1 h76))))) ∧ (r71 = 0 → Q 0 h70))))))
set_option maxHeartbeats 4000000 in
set_option maxRecDepth 100000 in
theorem sg_X12_readOne_218 (G : GT) (d : Nat) (h0 : PH) (rc_X12_readAnd : Nat → PH → (Int32 → PH → Prop) → Prop) (hrc_X12_readAnd : ∀ (a0 : Nat) (h : PH) (Q : Int32 → PH → Prop), qOK h 11 a0 → rc_X12_readAnd a0 h Q → Mt G (3 + d) 0 0 mX12_readAnd [.ref a0] h (qqb Q)) (rc_X12_readOne : Nat → PH → (Int32 → PH → Prop) → Prop) (hrc_X12_readOne : ∀ (a0 : Nat) (h : PH) (Q : Int32 → PH → Prop), qOK h 11 a0 → rc_X12_readOne a0 h Q → Mt G (3 + d) 0 0 mX12_readOne [.ref a0] h (qqb Q)) (rc_X12_readOr : Nat → PH → (Int32 → PH → Prop) → Prop) (hrc_X12_readOr : ∀ (a0 : Nat) (h : PH) (Q : Int32 → PH → Prop), qOK h 11 a0 → rc_X12_readOr a0 h Q → Mt G (3 + d) 0 0 mX12_readOr [.ref a0] h (qqb Q)) (l0 : Nat) (l3 : Int32) (h : PH) (Q : Int32 → PH → Prop) (hex : qEx h0 h) (hnn : qn h = qn h0 + 0) (hzz : qz h = qz h0 + 0) (okl0 : qOK h 11 l0) (hwp : wp_X12_readOne_218 rc_X12_readAnd rc_X12_readOne rc_X12_readOr l0 l3 h Q) : Ex G (qrm (4 + d) 0 0) mX12_readOne (qn h0) (qz h0) (ZN G h0 0 0 (qqb Q)) 218 [(0, .ref l0), (3, .int l3)] [] h := by
  unfold wp_X12_readOne_218 at hwp
  refine x_aload_n (pc := 218) dX12_readOne_218 rfl ?_
  refine x_getI (pc := 219) dX12_readOne_219 qRX12_108 okl0 (by decide) ?_
  refine x_nmI (fun v67 ev67 => ?_)
  have hwp := hwp v67 ev67
  refine x_istore (lv2 := [(4, .int v67), (0, .ref l0), (3, .int l3)]) (pc := 222) dX12_readOne_222 (by decide) rfl ?_
  refine x_aload_n (pc := 224) dX12_readOne_224 rfl ?_
  refine x_invV (As := []) (st := []) (pc := 225) dX12_readOne_225 lRX12_146 fX12_go vX12_go okl0 rfl (Nat.le_of_ble_eq_true rfl) (q_R (by omega) (by decide)) (q_C hnn hzz (by decide) (by decide)) (sn_X12_go G (d + 2) l0 h _ okl0 hwp) (k_v (fun h68 hwp cxh68 => ?_))
  have hex := hex.tr cxh68.1
  have hnn : qn h68 = qn h0 + 0 := by have := cxh68.2.1; omega
  have hzz : qz h68 = qz h0 + 0 := by have := cxh68.2.2; omega
  have okl0 := okl0.ex cxh68.1
  refine x_aload_n (pc := 228) dX12_readOne_228 rfl ?_
  refine x_invV (As := []) (st := []) (pc := 229) dX12_readOne_229 lRX12_354 fX12_readValue vX12_readValue okl0 rfl (Nat.le_of_ble_eq_true rfl) (q_R (by omega) (by decide)) (q_C hnn hzz (by decide) (by decide)) (sn_X12_readValue G (d + 0) l0 h68 _ okl0 hwp) (k_b (fun r71 h70 hwp zbr71 cxh70 => ?_))
  have hex := hex.tr cxh70.1
  have hnn : qn h70 = qn h0 + 0 := by have := cxh70.2.1; omega
  have hzz : qz h70 = qz h0 + 0 := by have := cxh70.2.2; omega
  have okl0 := okl0.ex cxh70.1
  refine x_if_ne (tgt := 237) (pc := 232) dX12_readOne_232 (by decide) (fun c72 => ?_) (fun c72 => ?_)
  · have hwp := hwp.1 c72
    refine x_aload_n (pc := 237) dX12_readOne_237 rfl ?_
    refine x_aload_n (pc := 238) dX12_readOne_238 rfl ?_
    refine x_iconst (v := 4) (pc := 239) dX12_readOne_239 (by decide) ?_
    refine x_iload_n (pc := 240) dX12_readOne_240 rfl ?_
    refine x_aload_n (pc := 241) dX12_readOne_241 rfl ?_
    refine x_getI (pc := 242) dX12_readOne_242 qRX12_143 okl0 (by decide) ?_
    refine x_iload (pc := 245) dX12_readOne_245 rfl ?_
    refine x_invV (As := [.int 4, .int l3, .int (qI h70 l0 13), .int v67]) (st := [.ref l0]) (pc := 247) dX12_readOne_247 lRX12_338 fX12_lays vX12_lays okl0 rfl (Nat.le_of_ble_eq_true rfl) (q_R (by omega) (by decide)) (q_C hnn hzz (by decide) (by decide)) (sn_X12_lays G (d + 3) l0 4 l3 (qI h70 l0 13) v67 h70 _ okl0 hwp) (k_i (fun r74 h73 hwp cxh73 => ?_))
    have hex := hex.tr cxh73.1
    have hnn : qn h73 = qn h0 + 0 := by have := cxh73.2.1; omega
    have hzz : qz h73 = qz h0 + 0 := by have := cxh73.2.2; omega
    have okl0 := okl0.ex cxh73.1
    refine y_putI (pc := 250) dX12_readOne_250 qRX12_335 okl0 (fun h75 eh75 nxh75 => ?_)
    have hwp := hwp h75 eh75
    have hex := hex.tr nxh75.1
    have hnn := nxh75.2.1.trans hnn
    have hzz := nxh75.2.2.trans hzz
    have okl0 := okl0.ex nxh75.1
    refine x_aload_n (pc := 253) dX12_readOne_253 rfl ?_
    refine x_dup (pc := 254) dX12_readOne_254 rfl ?_
    refine x_getI (pc := 255) dX12_readOne_255 qRX12_348 okl0 (by decide) ?_
    refine x_iconst (v := 1) (pc := 258) dX12_readOne_258 (by decide) ?_
    refine x_isub (pc := 259) dX12_readOne_259 ?_
    refine y_putI (pc := 260) dX12_readOne_260 qRX12_348 okl0 (fun h76 eh76 nxh76 => ?_)
    have hwp := hwp h76 eh76
    have hex := hex.tr nxh76.1
    have hnn := nxh76.2.1.trans hnn
    have hzz := nxh76.2.2.trans hzz
    have okl0 := okl0.ex nxh76.1
    refine x_iconst (v := 1) (pc := 263) dX12_readOne_263 (by decide) ?_
    exact x_zret (pc := 264) dX12_readOne_264 rfl hex hnn hzz (by decide) ⟨_, rfl, by decide, hwp⟩
  · have hwp := hwp.2 c72
    refine x_iconst (v := 0) (pc := 235) dX12_readOne_235 (by decide) ?_
    exact x_zret (pc := 236) dX12_readOne_236 rfl hex hnn hzz (by decide) ⟨_, rfl, by decide, hwp⟩
def wp_X12_readOne_53 (rc_X12_readAnd : Nat → PH → (Int32 → PH → Prop) → Prop) (rc_X12_readOne : Nat → PH → (Int32 → PH → Prop) → Prop) (rc_X12_readOr : Nat → PH → (Int32 → PH → Prop) → Prop) (l0 : Nat) (l1 : Int32) (l2 : Int32)  (h : PH) (Q : Int32 → PH → Prop) : Prop := (((qI h l0 42) = 20 → (wp_X12_bad l0 4 h (fun r18 h17 => ((r18 = 0 ∨ r18 = 1) ∧ Q r18 h17)))) ∧ (¬ ((qI h l0 42) = 20) → ((¬ (qI h l0 43) = 8 → (∀ h21, h21 = qsI h l0 42 ((qI h l0 42) + 1) → (∀ h22, h22 = qsI h21 l0 43 ((qI h21 l0 43) + 1) → ((l1 = 0 → ((l2 = 0 → (wp_X12_readValue l0 h22 (fun r26 h25 => ((¬ r26 = 0 → ∀ v28 : Int32, v28 = qI h25 l0 13 → (wp_X12_isSign l0 60 h25 (fun r30 h29 => ((¬ r30 = 0 → (wp_X12_readOne_218 rc_X12_readAnd rc_X12_readOne rc_X12_readOr l0 v28 h29 Q)) ∧ (r30 = 0 → (wp_X12_isSign l0 61 h29 (fun r33 h32 => ((¬ r33 = 0 → (wp_X12_readOne_218 rc_X12_readAnd rc_X12_readOne rc_X12_readOr l0 v28 h32 Q)) ∧ (r33 = 0 → (wp_X12_isSign l0 62 h32 (fun r36 h35 => ((¬ r36 = 0 → (wp_X12_readOne_218 rc_X12_readAnd rc_X12_readOne rc_X12_readOr l0 v28 h35 Q)) ∧ (r36 = 0 → (wp_X12_bad l0 1 h35 (fun r39 h38 => ((r39 = 0 ∨ r39 = 1) ∧ Q r39 h38)))))))))))))))) ∧ (r26 = 0 → Q 0 h25))))) ∧ (¬ (l2 = 0) → (wp_X12_go l0 h22 (fun h41 => (rc_X12_readOr l0 h41 (fun r44 h43 => ((¬ r44 = 0 → (wp_X12_isSign l0 41 h43 (fun r47 h46 => ((¬ r47 = 0 → (wp_X12_go l0 h46 (fun h49 => (∀ h51, h51 = qsI h49 l0 43 ((qI h49 l0 43) - 1) → Q 1 h51)))) ∧ (r47 = 0 → (wp_X12_bad l0 1 h46 (fun r53 h52 => ((r53 = 0 ∨ r53 = 1) ∧ Q r53 h52)))))))) ∧ (r44 = 0 → Q 0 h43))))))))) ∧ (¬ (l1 = 0) → (wp_X12_go l0 h22 (fun h55 => (rc_X12_readOne l0 h55 (fun r58 h57 => ((¬ r58 = 0 → (wp_X12_lays l0 1 (qI h57 l0 47) 0 0 h57 (fun r61 h60 => (∀ h62, h62 = qsI h60 l0 47 r61 → (∀ h63, h63 = qsI h62 l0 43 ((qI h62 l0 43) - 1) → Q 1 h63))))) ∧ (r58 = 0 → Q 0 h57))))))))))) ∧ ((qI h l0 43) = 8 → (wp_X12_bad l0 4 h (fun r65 h64 => ((r65 = 0 ∨ r65 = 1) ∧ Q r65 h64)))))))
set_option maxHeartbeats 4000000 in
set_option maxRecDepth 100000 in
theorem sg_X12_readOne_53 (G : GT) (d : Nat) (h0 : PH) (rc_X12_readAnd : Nat → PH → (Int32 → PH → Prop) → Prop) (hrc_X12_readAnd : ∀ (a0 : Nat) (h : PH) (Q : Int32 → PH → Prop), qOK h 11 a0 → rc_X12_readAnd a0 h Q → Mt G (3 + d) 0 0 mX12_readAnd [.ref a0] h (qqb Q)) (rc_X12_readOne : Nat → PH → (Int32 → PH → Prop) → Prop) (hrc_X12_readOne : ∀ (a0 : Nat) (h : PH) (Q : Int32 → PH → Prop), qOK h 11 a0 → rc_X12_readOne a0 h Q → Mt G (3 + d) 0 0 mX12_readOne [.ref a0] h (qqb Q)) (rc_X12_readOr : Nat → PH → (Int32 → PH → Prop) → Prop) (hrc_X12_readOr : ∀ (a0 : Nat) (h : PH) (Q : Int32 → PH → Prop), qOK h 11 a0 → rc_X12_readOr a0 h Q → Mt G (3 + d) 0 0 mX12_readOr [.ref a0] h (qqb Q)) (l0 : Nat) (l1 : Int32) (l2 : Int32) (h : PH) (Q : Int32 → PH → Prop) (hex : qEx h0 h) (hnn : qn h = qn h0 + 0) (hzz : qz h = qz h0 + 0) (okl0 : qOK h 11 l0) (hwp : wp_X12_readOne_53 rc_X12_readAnd rc_X12_readOne rc_X12_readOr l0 l1 l2 h Q) : Ex G (qrm (4 + d) 0 0) mX12_readOne (qn h0) (qz h0) (ZN G h0 0 0 (qqb Q)) 53 [(0, .ref l0), (1, .int l1), (2, .int l2)] [] h := by
  unfold wp_X12_readOne_53 at hwp
  refine x_aload_n (pc := 53) dX12_readOne_53 rfl ?_
  refine x_getI (pc := 54) dX12_readOne_54 qRX12_345 okl0 (by decide) ?_
  refine x_bipush (v := 20) (pc := 57) dX12_readOne_57 (by decide) ?_
  refine x_icmp_eq (tgt := 71) (pc := 59) dX12_readOne_59 (by decide) (fun c16 => ?_) (fun c16 => ?_)
  · have hwp := hwp.1 c16
    refine x_aload_n (pc := 71) dX12_readOne_71 rfl ?_
    refine x_iconst (v := 4) (pc := 72) dX12_readOne_72 (by decide) ?_
    refine x_invV (As := [.int 4]) (st := []) (pc := 73) dX12_readOne_73 lRX12_136 fX12_bad vX12_bad okl0 rfl (Nat.le_of_ble_eq_true rfl) (q_R (by omega) (by decide)) (q_C hnn hzz (by decide) (by decide)) (sn_X12_bad G (d + 3) l0 4 h _ okl0 hwp) (k_b (fun r18 h17 hwp zbr18 cxh17 => ?_))
    have hex := hex.tr cxh17.1
    have hnn : qn h17 = qn h0 + 0 := by have := cxh17.2.1; omega
    have hzz : qz h17 = qz h0 + 0 := by have := cxh17.2.2; omega
    have okl0 := okl0.ex cxh17.1
    exact x_zret (pc := 76) dX12_readOne_76 rfl hex hnn hzz hwp.1 ⟨_, rfl, hwp.1, hwp.2⟩
  · have hwp := hwp.2 c16
    refine x_aload_n (pc := 62) dX12_readOne_62 rfl ?_
    refine x_getI (pc := 63) dX12_readOne_63 qRX12_348 okl0 (by decide) ?_
    refine x_bipush (v := 8) (pc := 66) dX12_readOne_66 (by decide) ?_
    refine x_icmp_ne (tgt := 77) (pc := 68) dX12_readOne_68 (by decide) (fun c20 => ?_) (fun c20 => ?_)
    · have hwp := hwp.1 c20
      refine x_aload_n (pc := 77) dX12_readOne_77 rfl ?_
      refine x_dup (pc := 78) dX12_readOne_78 rfl ?_
      refine x_getI (pc := 79) dX12_readOne_79 qRX12_345 okl0 (by decide) ?_
      refine x_iconst (v := 1) (pc := 82) dX12_readOne_82 (by decide) ?_
      refine x_iadd (pc := 83) dX12_readOne_83 ?_
      refine y_putI (pc := 84) dX12_readOne_84 qRX12_345 okl0 (fun h21 eh21 nxh21 => ?_)
      have hwp := hwp h21 eh21
      have hex := hex.tr nxh21.1
      have hnn := nxh21.2.1.trans hnn
      have hzz := nxh21.2.2.trans hzz
      have okl0 := okl0.ex nxh21.1
      refine x_aload_n (pc := 87) dX12_readOne_87 rfl ?_
      refine x_dup (pc := 88) dX12_readOne_88 rfl ?_
      refine x_getI (pc := 89) dX12_readOne_89 qRX12_348 okl0 (by decide) ?_
      refine x_iconst (v := 1) (pc := 92) dX12_readOne_92 (by decide) ?_
      refine x_iadd (pc := 93) dX12_readOne_93 ?_
      refine y_putI (pc := 94) dX12_readOne_94 qRX12_348 okl0 (fun h22 eh22 nxh22 => ?_)
      have hwp := hwp h22 eh22
      have hex := hex.tr nxh22.1
      have hnn := nxh22.2.1.trans hnn
      have hzz := nxh22.2.2.trans hzz
      have okl0 := okl0.ex nxh22.1
      refine x_iload_n (pc := 97) dX12_readOne_97 rfl ?_
      refine x_if_eq (tgt := 132) (pc := 98) dX12_readOne_98 (by decide) (fun c23 => ?_) (fun c23 => ?_)
      · have hwp := hwp.1 c23
        refine x_iload_n (pc := 132) dX12_readOne_132 rfl ?_
        refine x_if_eq (tgt := 171) (pc := 133) dX12_readOne_133 (by decide) (fun c24 => ?_) (fun c24 => ?_)
        · have hwp := hwp.1 c24
          refine x_aload_n (pc := 171) dX12_readOne_171 rfl ?_
          refine x_invV (As := []) (st := []) (pc := 172) dX12_readOne_172 lRX12_354 fX12_readValue vX12_readValue okl0 rfl (Nat.le_of_ble_eq_true rfl) (q_R (by omega) (by decide)) (q_C hnn hzz (by decide) (by decide)) (sn_X12_readValue G (d + 0) l0 h22 _ okl0 hwp) (k_b (fun r26 h25 hwp zbr26 cxh25 => ?_))
          have hex := hex.tr cxh25.1
          have hnn : qn h25 = qn h0 + 0 := by have := cxh25.2.1; omega
          have hzz : qz h25 = qz h0 + 0 := by have := cxh25.2.2; omega
          have okl0 := okl0.ex cxh25.1
          refine x_if_ne (tgt := 180) (pc := 175) dX12_readOne_175 (by decide) (fun c27 => ?_) (fun c27 => ?_)
          · have hwp := hwp.1 c27
            refine x_aload_n (pc := 180) dX12_readOne_180 rfl ?_
            refine x_getI (pc := 181) dX12_readOne_181 qRX12_143 okl0 (by decide) ?_
            refine x_nmI (fun v28 ev28 => ?_)
            have hwp := hwp v28 ev28
            refine x_istore_n (lv2 := [(3, .int v28), (0, .ref l0), (1, .int l1), (2, .int l2)]) (pc := 184) dX12_readOne_184 (by decide) rfl ?_
            refine x_aload_n (pc := 185) dX12_readOne_185 rfl ?_
            refine x_bipush (v := 60) (pc := 186) dX12_readOne_186 (by decide) ?_
            refine x_invV (As := [.int 60]) (st := []) (pc := 188) dX12_readOne_188 lRX12_153 fX12_isSign vX12_isSign okl0 rfl (Nat.le_of_ble_eq_true rfl) (q_R (by omega) (by decide)) (q_C hnn hzz (by decide) (by decide)) (sn_X12_isSign G (d + 3) l0 60 h25 _ okl0 hwp) (k_b (fun r30 h29 hwp zbr30 cxh29 => ?_))
            have hex := hex.tr cxh29.1
            have hnn : qn h29 = qn h0 + 0 := by have := cxh29.2.1; omega
            have hzz : qz h29 = qz h0 + 0 := by have := cxh29.2.2; omega
            have okl0 := okl0.ex cxh29.1
            refine x_if_ne (tgt := 218) (pc := 191) dX12_readOne_191 (by decide) (fun c31 => ?_) (fun c31 => ?_)
            · have hwp := hwp.1 c31
              refine x_sub [1, 0] rfl ?_
              exact sg_X12_readOne_218 G d h0 rc_X12_readAnd hrc_X12_readAnd rc_X12_readOne hrc_X12_readOne rc_X12_readOr hrc_X12_readOr l0 v28 h29 Q hex hnn hzz okl0 hwp
            · have hwp := hwp.2 c31
              refine x_aload_n (pc := 194) dX12_readOne_194 rfl ?_
              refine x_bipush (v := 61) (pc := 195) dX12_readOne_195 (by decide) ?_
              refine x_invV (As := [.int 61]) (st := []) (pc := 197) dX12_readOne_197 lRX12_153 fX12_isSign vX12_isSign okl0 rfl (Nat.le_of_ble_eq_true rfl) (q_R (by omega) (by decide)) (q_C hnn hzz (by decide) (by decide)) (sn_X12_isSign G (d + 3) l0 61 h29 _ okl0 hwp) (k_b (fun r33 h32 hwp zbr33 cxh32 => ?_))
              have hex := hex.tr cxh32.1
              have hnn : qn h32 = qn h0 + 0 := by have := cxh32.2.1; omega
              have hzz : qz h32 = qz h0 + 0 := by have := cxh32.2.2; omega
              have okl0 := okl0.ex cxh32.1
              refine x_if_ne (tgt := 218) (pc := 200) dX12_readOne_200 (by decide) (fun c34 => ?_) (fun c34 => ?_)
              · have hwp := hwp.1 c34
                refine x_sub [1, 0] rfl ?_
                exact sg_X12_readOne_218 G d h0 rc_X12_readAnd hrc_X12_readAnd rc_X12_readOne hrc_X12_readOne rc_X12_readOr hrc_X12_readOr l0 v28 h32 Q hex hnn hzz okl0 hwp
              · have hwp := hwp.2 c34
                refine x_aload_n (pc := 203) dX12_readOne_203 rfl ?_
                refine x_bipush (v := 62) (pc := 204) dX12_readOne_204 (by decide) ?_
                refine x_invV (As := [.int 62]) (st := []) (pc := 206) dX12_readOne_206 lRX12_153 fX12_isSign vX12_isSign okl0 rfl (Nat.le_of_ble_eq_true rfl) (q_R (by omega) (by decide)) (q_C hnn hzz (by decide) (by decide)) (sn_X12_isSign G (d + 3) l0 62 h32 _ okl0 hwp) (k_b (fun r36 h35 hwp zbr36 cxh35 => ?_))
                have hex := hex.tr cxh35.1
                have hnn : qn h35 = qn h0 + 0 := by have := cxh35.2.1; omega
                have hzz : qz h35 = qz h0 + 0 := by have := cxh35.2.2; omega
                have okl0 := okl0.ex cxh35.1
                refine x_if_ne (tgt := 218) (pc := 209) dX12_readOne_209 (by decide) (fun c37 => ?_) (fun c37 => ?_)
                · have hwp := hwp.1 c37
                  refine x_sub [1, 0] rfl ?_
                  exact sg_X12_readOne_218 G d h0 rc_X12_readAnd hrc_X12_readAnd rc_X12_readOne hrc_X12_readOne rc_X12_readOr hrc_X12_readOr l0 v28 h35 Q hex hnn hzz okl0 hwp
                · have hwp := hwp.2 c37
                  refine x_aload_n (pc := 212) dX12_readOne_212 rfl ?_
                  refine x_iconst (v := 1) (pc := 213) dX12_readOne_213 (by decide) ?_
                  refine x_invV (As := [.int 1]) (st := []) (pc := 214) dX12_readOne_214 lRX12_136 fX12_bad vX12_bad okl0 rfl (Nat.le_of_ble_eq_true rfl) (q_R (by omega) (by decide)) (q_C hnn hzz (by decide) (by decide)) (sn_X12_bad G (d + 3) l0 1 h35 _ okl0 hwp) (k_b (fun r39 h38 hwp zbr39 cxh38 => ?_))
                  have hex := hex.tr cxh38.1
                  have hnn : qn h38 = qn h0 + 0 := by have := cxh38.2.1; omega
                  have hzz : qz h38 = qz h0 + 0 := by have := cxh38.2.2; omega
                  have okl0 := okl0.ex cxh38.1
                  exact x_zret (pc := 217) dX12_readOne_217 rfl hex hnn hzz hwp.1 ⟨_, rfl, hwp.1, hwp.2⟩
          · have hwp := hwp.2 c27
            refine x_iconst (v := 0) (pc := 178) dX12_readOne_178 (by decide) ?_
            exact x_zret (pc := 179) dX12_readOne_179 rfl hex hnn hzz (by decide) ⟨_, rfl, by decide, hwp⟩
        · have hwp := hwp.2 c24
          refine x_aload_n (pc := 136) dX12_readOne_136 rfl ?_
          refine x_invV (As := []) (st := []) (pc := 137) dX12_readOne_137 lRX12_146 fX12_go vX12_go okl0 rfl (Nat.le_of_ble_eq_true rfl) (q_R (by omega) (by decide)) (q_C hnn hzz (by decide) (by decide)) (sn_X12_go G (d + 2) l0 h22 _ okl0 hwp) (k_v (fun h41 hwp cxh41 => ?_))
          have hex := hex.tr cxh41.1
          have hnn : qn h41 = qn h0 + 0 := by have := cxh41.2.1; omega
          have hzz : qz h41 = qz h0 + 0 := by have := cxh41.2.2; omega
          have okl0 := okl0.ex cxh41.1
          refine x_aload_n (pc := 140) dX12_readOne_140 rfl ?_
          refine x_invV (As := []) (st := []) (pc := 141) dX12_readOne_141 lRX12_351 fX12_readOr vX12_readOr okl0 rfl (Nat.le_of_ble_eq_true rfl) (q_R (by omega) (by decide)) (q_C hnn hzz (by decide) (by decide)) (hrc_X12_readOr l0 h41 _ okl0 hwp) (k_b (fun r44 h43 hwp zbr44 cxh43 => ?_))
          have hex := hex.tr cxh43.1
          have hnn : qn h43 = qn h0 + 0 := by have := cxh43.2.1; omega
          have hzz : qz h43 = qz h0 + 0 := by have := cxh43.2.2; omega
          have okl0 := okl0.ex cxh43.1
          refine x_if_ne (tgt := 149) (pc := 144) dX12_readOne_144 (by decide) (fun c45 => ?_) (fun c45 => ?_)
          · have hwp := hwp.1 c45
            refine x_aload_n (pc := 149) dX12_readOne_149 rfl ?_
            refine x_bipush (v := 41) (pc := 150) dX12_readOne_150 (by decide) ?_
            refine x_invV (As := [.int 41]) (st := []) (pc := 152) dX12_readOne_152 lRX12_153 fX12_isSign vX12_isSign okl0 rfl (Nat.le_of_ble_eq_true rfl) (q_R (by omega) (by decide)) (q_C hnn hzz (by decide) (by decide)) (sn_X12_isSign G (d + 3) l0 41 h43 _ okl0 hwp) (k_b (fun r47 h46 hwp zbr47 cxh46 => ?_))
            have hex := hex.tr cxh46.1
            have hnn : qn h46 = qn h0 + 0 := by have := cxh46.2.1; omega
            have hzz : qz h46 = qz h0 + 0 := by have := cxh46.2.2; omega
            have okl0 := okl0.ex cxh46.1
            refine x_if_ne (tgt := 164) (pc := 155) dX12_readOne_155 (by decide) (fun c48 => ?_) (fun c48 => ?_)
            · have hwp := hwp.1 c48
              refine x_aload_n (pc := 164) dX12_readOne_164 rfl ?_
              refine x_invV (As := []) (st := []) (pc := 165) dX12_readOne_165 lRX12_146 fX12_go vX12_go okl0 rfl (Nat.le_of_ble_eq_true rfl) (q_R (by omega) (by decide)) (q_C hnn hzz (by decide) (by decide)) (sn_X12_go G (d + 2) l0 h46 _ okl0 hwp) (k_v (fun h49 hwp cxh49 => ?_))
              have hex := hex.tr cxh49.1
              have hnn : qn h49 = qn h0 + 0 := by have := cxh49.2.1; omega
              have hzz : qz h49 = qz h0 + 0 := by have := cxh49.2.2; omega
              have okl0 := okl0.ex cxh49.1
              refine x_goto (tgt := 253) (pc := 168) dX12_readOne_168 (by decide) ?_
              refine x_aload_n (pc := 253) dX12_readOne_253 rfl ?_
              refine x_dup (pc := 254) dX12_readOne_254 rfl ?_
              refine x_getI (pc := 255) dX12_readOne_255 qRX12_348 okl0 (by decide) ?_
              refine x_iconst (v := 1) (pc := 258) dX12_readOne_258 (by decide) ?_
              refine x_isub (pc := 259) dX12_readOne_259 ?_
              refine y_putI (pc := 260) dX12_readOne_260 qRX12_348 okl0 (fun h51 eh51 nxh51 => ?_)
              have hwp := hwp h51 eh51
              have hex := hex.tr nxh51.1
              have hnn := nxh51.2.1.trans hnn
              have hzz := nxh51.2.2.trans hzz
              have okl0 := okl0.ex nxh51.1
              refine x_iconst (v := 1) (pc := 263) dX12_readOne_263 (by decide) ?_
              exact x_zret (pc := 264) dX12_readOne_264 rfl hex hnn hzz (by decide) ⟨_, rfl, by decide, hwp⟩
            · have hwp := hwp.2 c48
              refine x_aload_n (pc := 158) dX12_readOne_158 rfl ?_
              refine x_iconst (v := 1) (pc := 159) dX12_readOne_159 (by decide) ?_
              refine x_invV (As := [.int 1]) (st := []) (pc := 160) dX12_readOne_160 lRX12_136 fX12_bad vX12_bad okl0 rfl (Nat.le_of_ble_eq_true rfl) (q_R (by omega) (by decide)) (q_C hnn hzz (by decide) (by decide)) (sn_X12_bad G (d + 3) l0 1 h46 _ okl0 hwp) (k_b (fun r53 h52 hwp zbr53 cxh52 => ?_))
              have hex := hex.tr cxh52.1
              have hnn : qn h52 = qn h0 + 0 := by have := cxh52.2.1; omega
              have hzz : qz h52 = qz h0 + 0 := by have := cxh52.2.2; omega
              have okl0 := okl0.ex cxh52.1
              exact x_zret (pc := 163) dX12_readOne_163 rfl hex hnn hzz hwp.1 ⟨_, rfl, hwp.1, hwp.2⟩
          · have hwp := hwp.2 c45
            refine x_iconst (v := 0) (pc := 147) dX12_readOne_147 (by decide) ?_
            exact x_zret (pc := 148) dX12_readOne_148 rfl hex hnn hzz (by decide) ⟨_, rfl, by decide, hwp⟩
      · have hwp := hwp.2 c23
        refine x_aload_n (pc := 101) dX12_readOne_101 rfl ?_
        refine x_invV (As := []) (st := []) (pc := 102) dX12_readOne_102 lRX12_146 fX12_go vX12_go okl0 rfl (Nat.le_of_ble_eq_true rfl) (q_R (by omega) (by decide)) (q_C hnn hzz (by decide) (by decide)) (sn_X12_go G (d + 2) l0 h22 _ okl0 hwp) (k_v (fun h55 hwp cxh55 => ?_))
        have hex := hex.tr cxh55.1
        have hnn : qn h55 = qn h0 + 0 := by have := cxh55.2.1; omega
        have hzz : qz h55 = qz h0 + 0 := by have := cxh55.2.2; omega
        have okl0 := okl0.ex cxh55.1
        refine x_aload_n (pc := 105) dX12_readOne_105 rfl ?_
        refine x_invV (As := []) (st := []) (pc := 106) dX12_readOne_106 lRX12_342 fX12_readOne vX12_readOne okl0 rfl (Nat.le_of_ble_eq_true rfl) (q_R (by omega) (by decide)) (q_C hnn hzz (by decide) (by decide)) (hrc_X12_readOne l0 h55 _ okl0 hwp) (k_b (fun r58 h57 hwp zbr58 cxh57 => ?_))
        have hex := hex.tr cxh57.1
        have hnn : qn h57 = qn h0 + 0 := by have := cxh57.2.1; omega
        have hzz : qz h57 = qz h0 + 0 := by have := cxh57.2.2; omega
        have okl0 := okl0.ex cxh57.1
        refine x_if_ne (tgt := 114) (pc := 109) dX12_readOne_109 (by decide) (fun c59 => ?_) (fun c59 => ?_)
        · have hwp := hwp.1 c59
          refine x_aload_n (pc := 114) dX12_readOne_114 rfl ?_
          refine x_aload_n (pc := 115) dX12_readOne_115 rfl ?_
          refine x_iconst (v := 1) (pc := 116) dX12_readOne_116 (by decide) ?_
          refine x_aload_n (pc := 117) dX12_readOne_117 rfl ?_
          refine x_getI (pc := 118) dX12_readOne_118 qRX12_335 okl0 (by decide) ?_
          refine x_iconst (v := 0) (pc := 121) dX12_readOne_121 (by decide) ?_
          refine x_iconst (v := 0) (pc := 122) dX12_readOne_122 (by decide) ?_
          refine x_invV (As := [.int 1, .int (qI h57 l0 47), .int 0, .int 0]) (st := [.ref l0]) (pc := 123) dX12_readOne_123 lRX12_338 fX12_lays vX12_lays okl0 rfl (Nat.le_of_ble_eq_true rfl) (q_R (by omega) (by decide)) (q_C hnn hzz (by decide) (by decide)) (sn_X12_lays G (d + 3) l0 1 (qI h57 l0 47) 0 0 h57 _ okl0 hwp) (k_i (fun r61 h60 hwp cxh60 => ?_))
          have hex := hex.tr cxh60.1
          have hnn : qn h60 = qn h0 + 0 := by have := cxh60.2.1; omega
          have hzz : qz h60 = qz h0 + 0 := by have := cxh60.2.2; omega
          have okl0 := okl0.ex cxh60.1
          refine y_putI (pc := 126) dX12_readOne_126 qRX12_335 okl0 (fun h62 eh62 nxh62 => ?_)
          have hwp := hwp h62 eh62
          have hex := hex.tr nxh62.1
          have hnn := nxh62.2.1.trans hnn
          have hzz := nxh62.2.2.trans hzz
          have okl0 := okl0.ex nxh62.1
          refine x_goto (tgt := 253) (pc := 129) dX12_readOne_129 (by decide) ?_
          refine x_aload_n (pc := 253) dX12_readOne_253 rfl ?_
          refine x_dup (pc := 254) dX12_readOne_254 rfl ?_
          refine x_getI (pc := 255) dX12_readOne_255 qRX12_348 okl0 (by decide) ?_
          refine x_iconst (v := 1) (pc := 258) dX12_readOne_258 (by decide) ?_
          refine x_isub (pc := 259) dX12_readOne_259 ?_
          refine y_putI (pc := 260) dX12_readOne_260 qRX12_348 okl0 (fun h63 eh63 nxh63 => ?_)
          have hwp := hwp h63 eh63
          have hex := hex.tr nxh63.1
          have hnn := nxh63.2.1.trans hnn
          have hzz := nxh63.2.2.trans hzz
          have okl0 := okl0.ex nxh63.1
          refine x_iconst (v := 1) (pc := 263) dX12_readOne_263 (by decide) ?_
          exact x_zret (pc := 264) dX12_readOne_264 rfl hex hnn hzz (by decide) ⟨_, rfl, by decide, hwp⟩
        · have hwp := hwp.2 c59
          refine x_iconst (v := 0) (pc := 112) dX12_readOne_112 (by decide) ?_
          exact x_zret (pc := 113) dX12_readOne_113 rfl hex hnn hzz (by decide) ⟨_, rfl, by decide, hwp⟩
    · have hwp := hwp.2 c20
      refine x_aload_n (pc := 71) dX12_readOne_71 rfl ?_
      refine x_iconst (v := 4) (pc := 72) dX12_readOne_72 (by decide) ?_
      refine x_invV (As := [.int 4]) (st := []) (pc := 73) dX12_readOne_73 lRX12_136 fX12_bad vX12_bad okl0 rfl (Nat.le_of_ble_eq_true rfl) (q_R (by omega) (by decide)) (q_C hnn hzz (by decide) (by decide)) (sn_X12_bad G (d + 3) l0 4 h _ okl0 hwp) (k_b (fun r65 h64 hwp zbr65 cxh64 => ?_))
      have hex := hex.tr cxh64.1
      have hnn : qn h64 = qn h0 + 0 := by have := cxh64.2.1; omega
      have hzz : qz h64 = qz h0 + 0 := by have := cxh64.2.2; omega
      have okl0 := okl0.ex cxh64.1
      exact x_zret (pc := 76) dX12_readOne_76 rfl hex hnn hzz hwp.1 ⟨_, rfl, hwp.1, hwp.2⟩
def wp_X12_readOne (rc_X12_readAnd : Nat → PH → (Int32 → PH → Prop) → Prop) (rc_X12_readOne : Nat → PH → (Int32 → PH → Prop) → Prop) (rc_X12_readOr : Nat → PH → (Int32 → PH → Prop) → Prop) (l0 : Nat) (h : PH) (Q : Int32 → PH → Prop) : Prop := (wp_X12_spelt 110 111 116 0 0 h (fun r2 h1 => (wp_X12_isKey l0 r2 h1 (fun r4 h3 => (wp_X12_isSign l0 40 h3 (fun r6 h5 => ((¬ r4 = 0 → (wp_X12_readOne_53 rc_X12_readAnd rc_X12_readOne rc_X12_readOr l0 r4 r6 h5 Q)) ∧ (r4 = 0 → ((¬ r6 = 0 → (wp_X12_readOne_53 rc_X12_readAnd rc_X12_readOne rc_X12_readOr l0 r4 r6 h5 Q)) ∧ (r6 = 0 → (((qI h5 l0 7) = 3 → (wp_X12_readOne_53 rc_X12_readAnd rc_X12_readOne rc_X12_readOr l0 r4 r6 h5 Q)) ∧ (¬ ((qI h5 l0 7) = 3) → (wp_X12_valueAtHand l0 h5 (fun r11 h10 => ((¬ r11 = (-1) → (wp_X12_readOne_53 rc_X12_readAnd rc_X12_readOne rc_X12_readOr l0 r4 r6 h10 Q)) ∧ (r11 = (-1) → (wp_X12_bad l0 1 h10 (fun r14 h13 => ((r14 = 0 ∨ r14 = 1) ∧ Q r14 h13)))))))))))))))))))
set_option maxHeartbeats 4000000 in
set_option maxRecDepth 100000 in
theorem sn_X12_readOne (G : GT) (d : Nat) (rc_X12_readAnd : Nat → PH → (Int32 → PH → Prop) → Prop) (hrc_X12_readAnd : ∀ (a0 : Nat) (h : PH) (Q : Int32 → PH → Prop), qOK h 11 a0 → rc_X12_readAnd a0 h Q → Mt G (3 + d) 0 0 mX12_readAnd [.ref a0] h (qqb Q)) (rc_X12_readOne : Nat → PH → (Int32 → PH → Prop) → Prop) (hrc_X12_readOne : ∀ (a0 : Nat) (h : PH) (Q : Int32 → PH → Prop), qOK h 11 a0 → rc_X12_readOne a0 h Q → Mt G (3 + d) 0 0 mX12_readOne [.ref a0] h (qqb Q)) (rc_X12_readOr : Nat → PH → (Int32 → PH → Prop) → Prop) (hrc_X12_readOr : ∀ (a0 : Nat) (h : PH) (Q : Int32 → PH → Prop), qOK h 11 a0 → rc_X12_readOr a0 h Q → Mt G (3 + d) 0 0 mX12_readOr [.ref a0] h (qqb Q)) (l0 : Nat) (h : PH) (Q : Int32 → PH → Prop) (okl0 : qOK h 11 l0) (hwp : wp_X12_readOne rc_X12_readAnd rc_X12_readOne rc_X12_readOr l0 h Q) : Mt G (4 + d) 0 0 mX12_readOne [.ref l0] h (qqb Q) := by
  unfold wp_X12_readOne at hwp
  refine Mt.of (by decide) rfl (Nat.le_of_ble_eq_true rfl) ?_
  have hex := qEx.rf h
  have hnn : qn h = qn h + 0 := rfl
  have hzz : qz h = qz h + 0 := rfl
  refine x_lvE (lv2 := [(0, .ref l0)]) rfl ?_
  refine x_aload_n (pc := 0) dX12_readOne_0 rfl ?_
  refine x_bipush (v := 110) (pc := 1) dX12_readOne_1 (by decide) ?_
  refine x_bipush (v := 111) (pc := 3) dX12_readOne_3 (by decide) ?_
  refine x_bipush (v := 116) (pc := 5) dX12_readOne_5 (by decide) ?_
  refine x_iconst (v := 0) (pc := 7) dX12_readOne_7 (by decide) ?_
  refine x_iconst (v := 0) (pc := 8) dX12_readOne_8 (by decide) ?_
  refine x_invS (As := [.int 110, .int 111, .int 116, .int 0, .int 0]) (st := [.ref l0]) (pc := 9) dX12_readOne_9 lRX12_126 fX12_spelt sX12_spelt rfl (Nat.le_of_ble_eq_true rfl) (q_R (by omega) (by decide)) (q_C hnn hzz (by decide) (by decide)) (sn_X12_spelt G (d + 3) 110 111 116 0 0 h _  hwp) (k_j (fun r2 h1 hwp cxh1 => ?_))
  have hex := hex.tr cxh1.1
  have hnn : qn h1 = qn h + 0 := by have := cxh1.2.1; omega
  have hzz : qz h1 = qz h + 0 := by have := cxh1.2.2; omega
  have okl0 := okl0.ex cxh1.1
  refine x_invV (As := [.long r2]) (st := []) (pc := 12) dX12_readOne_12 lRX12_149 fX12_isKey vX12_isKey okl0 rfl (Nat.le_of_ble_eq_true rfl) (q_R (by omega) (by decide)) (q_C hnn hzz (by decide) (by decide)) (sn_X12_isKey G (d + 3) l0 r2 h1 _ okl0 hwp) (k_b (fun r4 h3 hwp zbr4 cxh3 => ?_))
  have hex := hex.tr cxh3.1
  have hnn : qn h3 = qn h + 0 := by have := cxh3.2.1; omega
  have hzz : qz h3 = qz h + 0 := by have := cxh3.2.2; omega
  have okl0 := okl0.ex cxh3.1
  refine x_istore_n (lv2 := [(1, .int r4), (0, .ref l0)]) (pc := 15) dX12_readOne_15 (by decide) rfl ?_
  refine x_aload_n (pc := 16) dX12_readOne_16 rfl ?_
  refine x_bipush (v := 40) (pc := 17) dX12_readOne_17 (by decide) ?_
  refine x_invV (As := [.int 40]) (st := []) (pc := 19) dX12_readOne_19 lRX12_153 fX12_isSign vX12_isSign okl0 rfl (Nat.le_of_ble_eq_true rfl) (q_R (by omega) (by decide)) (q_C hnn hzz (by decide) (by decide)) (sn_X12_isSign G (d + 3) l0 40 h3 _ okl0 hwp) (k_b (fun r6 h5 hwp zbr6 cxh5 => ?_))
  have hex := hex.tr cxh5.1
  have hnn : qn h5 = qn h + 0 := by have := cxh5.2.1; omega
  have hzz : qz h5 = qz h + 0 := by have := cxh5.2.2; omega
  have okl0 := okl0.ex cxh5.1
  refine x_istore_n (lv2 := [(2, .int r6), (1, .int r4), (0, .ref l0)]) (pc := 22) dX12_readOne_22 (by decide) rfl ?_
  refine x_iload_n (pc := 23) dX12_readOne_23 rfl ?_
  refine x_if_ne (tgt := 53) (pc := 24) dX12_readOne_24 (by decide) (fun c7 => ?_) (fun c7 => ?_)
  · have hwp := hwp.1 c7
    refine x_sub [2, 1, 0] rfl ?_
    exact sg_X12_readOne_53 G d h rc_X12_readAnd hrc_X12_readAnd rc_X12_readOne hrc_X12_readOne rc_X12_readOr hrc_X12_readOr l0 r4 r6 h5 Q hex hnn hzz okl0 hwp
  · have hwp := hwp.2 c7
    refine x_iload_n (pc := 27) dX12_readOne_27 rfl ?_
    refine x_if_ne (tgt := 53) (pc := 28) dX12_readOne_28 (by decide) (fun c8 => ?_) (fun c8 => ?_)
    · have hwp := hwp.1 c8
      refine x_sub [2, 1, 0] rfl ?_
      exact sg_X12_readOne_53 G d h rc_X12_readAnd hrc_X12_readAnd rc_X12_readOne hrc_X12_readOne rc_X12_readOr hrc_X12_readOr l0 r4 r6 h5 Q hex hnn hzz okl0 hwp
    · have hwp := hwp.2 c8
      refine x_aload_n (pc := 31) dX12_readOne_31 rfl ?_
      refine x_getI (pc := 32) dX12_readOne_32 qRX12_98 okl0 (by decide) ?_
      refine x_iconst (v := 3) (pc := 35) dX12_readOne_35 (by decide) ?_
      refine x_icmp_eq (tgt := 53) (pc := 36) dX12_readOne_36 (by decide) (fun c9 => ?_) (fun c9 => ?_)
      · have hwp := hwp.1 c9
        refine x_sub [2, 1, 0] rfl ?_
        exact sg_X12_readOne_53 G d h rc_X12_readAnd hrc_X12_readAnd rc_X12_readOne hrc_X12_readOne rc_X12_readOr hrc_X12_readOr l0 r4 r6 h5 Q hex hnn hzz okl0 hwp
      · have hwp := hwp.2 c9
        refine x_aload_n (pc := 39) dX12_readOne_39 rfl ?_
        refine x_invV (As := []) (st := []) (pc := 40) dX12_readOne_40 lRX12_329 fX12_valueAtHand vX12_valueAtHand okl0 rfl (Nat.le_of_ble_eq_true rfl) (q_R (by omega) (by decide)) (q_C hnn hzz (by decide) (by decide)) (sn_X12_valueAtHand G (d + 1) l0 h5 _ okl0 hwp) (k_i (fun r11 h10 hwp cxh10 => ?_))
        have hex := hex.tr cxh10.1
        have hnn : qn h10 = qn h + 0 := by have := cxh10.2.1; omega
        have hzz : qz h10 = qz h + 0 := by have := cxh10.2.2; omega
        have okl0 := okl0.ex cxh10.1
        refine x_iconst (v := (-1)) (pc := 43) dX12_readOne_43 (by decide) ?_
        refine x_icmp_ne (tgt := 53) (pc := 44) dX12_readOne_44 (by decide) (fun c12 => ?_) (fun c12 => ?_)
        · have hwp := hwp.1 c12
          refine x_sub [2, 1, 0] rfl ?_
          exact sg_X12_readOne_53 G d h rc_X12_readAnd hrc_X12_readAnd rc_X12_readOne hrc_X12_readOne rc_X12_readOr hrc_X12_readOr l0 r4 r6 h10 Q hex hnn hzz okl0 hwp
        · have hwp := hwp.2 c12
          refine x_aload_n (pc := 47) dX12_readOne_47 rfl ?_
          refine x_iconst (v := 1) (pc := 48) dX12_readOne_48 (by decide) ?_
          refine x_invV (As := [.int 1]) (st := []) (pc := 49) dX12_readOne_49 lRX12_136 fX12_bad vX12_bad okl0 rfl (Nat.le_of_ble_eq_true rfl) (q_R (by omega) (by decide)) (q_C hnn hzz (by decide) (by decide)) (sn_X12_bad G (d + 3) l0 1 h10 _ okl0 hwp) (k_b (fun r14 h13 hwp zbr14 cxh13 => ?_))
          have hex := hex.tr cxh13.1
          have hnn : qn h13 = qn h + 0 := by have := cxh13.2.1; omega
          have hzz : qz h13 = qz h + 0 := by have := cxh13.2.2; omega
          have okl0 := okl0.ex cxh13.1
          exact x_zret (pc := 52) dX12_readOne_52 rfl hex hnn hzz hwp.1 ⟨_, rfl, hwp.1, hwp.2⟩

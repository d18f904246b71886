theorem dX12_lay_0 : decode cX12_lay 0 = .ok (.aload_n 0, 1) := by decide +kernel
theorem dX12_lay_1 : decode cX12_lay 1 = .ok (.getfield 190, 3) := by decide +kernel
theorem dX12_lay_4 : decode cX12_lay 4 = .ok (.ifCond .eq 4, 3) := by decide +kernel
theorem dX12_lay_7 : decode cX12_lay 7 = .ok (.return_, 1) := by decide +kernel
theorem dX12_lay_8 : decode cX12_lay 8 = .ok (.aload_n 0, 1) := by decide +kernel
theorem dX12_lay_9 : decode cX12_lay 9 = .ok (.iconst 1, 1) := by decide +kernel
theorem dX12_lay_10 : decode cX12_lay 10 = .ok (.putfield 190, 3) := by decide +kernel
theorem dX12_lay_13 : decode cX12_lay 13 = .ok (.aload_n 0, 1) := by decide +kernel
theorem dX12_lay_14 : decode cX12_lay 14 = .ok (.getfield 13, 3) := by decide +kernel
theorem dX12_lay_17 : decode cX12_lay 17 = .ok (.iconst 0, 1) := by decide +kernel
theorem dX12_lay_18 : decode cX12_lay 18 = .ok (.bipush 24, 2) := by decide +kernel
theorem dX12_lay_20 : decode cX12_lay 20 = .ok (.iastore, 1) := by decide +kernel
theorem dX12_lay_21 : decode cX12_lay 21 = .ok (.return_, 1) := by decide +kernel
def wp_X12_lay (l0 : Nat) (h : PH) (Q : PH → Prop) : Prop := (((qI h l0 20) = 0 → (∀ h2, h2 = qsI h l0 20 1 → (∃ b3, qR h2 l0 14 = some b3 ∧ (vp_in 0 (qL h2 b3) ∧ ∀ h5, h5 = qsI h2 b3 (0 : Int32).toNatClampNeg 24 → Q h5)))) ∧ (¬ ((qI h l0 20) = 0) → Q h))
set_option maxHeartbeats 4000000 in
set_option maxRecDepth 100000 in
theorem sn_X12_lay (G : GT) (d : Nat) (l0 : Nat) (h : PH) (Q : PH → Prop) (okl0 : qOK h 11 l0) (hwp : wp_X12_lay l0 h Q) : Mt G (0 + d) 0 0 mX12_lay [.ref l0] h (qqv Q) := by
  unfold wp_X12_lay at hwp
  refine Mt.of (by decide) rfl (Nat.le_of_ble_eq_true rfl) ?_
  have hex := qEx.rf h
  have hnn : qn h = qn h + 0 := rfl
  have hzz : qz h = qz h + 0 := rfl
  refine x_lvE (lv2 := [(0, .ref l0)]) rfl ?_
  refine x_aload_n (pc := 0) dX12_lay_0 rfl ?_
  refine x_getI (pc := 1) dX12_lay_1 qRX12_190 okl0 (by decide) ?_
  refine x_if_eq (tgt := 8) (pc := 4) dX12_lay_4 (by decide) (fun c1 => ?_) (fun c1 => ?_)
  · have hwp := hwp.1 c1
    refine x_aload_n (pc := 8) dX12_lay_8 rfl ?_
    refine x_iconst (v := 1) (pc := 9) dX12_lay_9 (by decide) ?_
    refine y_putZ (pc := 10) dX12_lay_10 qRX12_190 okl0 (by decide) (fun h2 eh2 nxh2 => ?_)
    have hwp := hwp h2 eh2
    have hex := hex.tr nxh2.1
    have hnn := nxh2.2.1.trans hnn
    have hzz := nxh2.2.2.trans hzz
    have okl0 := okl0.ex nxh2.1
    refine x_aload_n (pc := 13) dX12_lay_13 rfl ?_
    obtain ⟨b3, e4, hwp⟩ := hwp
    refine x_getR (pc := 14) dX12_lay_14 qRX12_13 okl0 e4 (fun okb3 => ?_)
    refine x_iconst (v := 0) (pc := 17) dX12_lay_17 (by decide) ?_
    refine x_bipush (v := 24) (pc := 18) dX12_lay_18 (by decide) ?_
    obtain ⟨i6, hwp⟩ := hwp
    refine y_iastore (pc := 20) dX12_lay_20 okb3 i6 (fun h5 eh5 nxh5 => ?_)
    have hwp := hwp h5 eh5
    have hex := hex.tr nxh5.1
    have hnn := nxh5.2.1.trans hnn
    have hzz := nxh5.2.2.trans hzz
    have okl0 := okl0.ex nxh5.1
    have okb3 := okb3.ex nxh5.1
    exact x_vret (pc := 21) dX12_lay_21 rfl hex hnn hzz ⟨rfl, hwp⟩
  · have hwp := hwp.2 c1
    exact x_vret (pc := 7) dX12_lay_7 rfl hex hnn hzz ⟨rfl, hwp⟩

theorem dX12_slot_0 : decode cX12_slot 0 = .ok (.bipush 96, 2) := by decide +kernel
theorem dX12_slot_2 : decode cX12_slot 2 = .ok (.iload_n 0, 1) := by decide +kernel
theorem dX12_slot_3 : decode cX12_slot 3 = .ok (.imul, 1) := by decide +kernel
theorem dX12_slot_4 : decode cX12_slot 4 = .ok (.bipush 8, 2) := by decide +kernel
theorem dX12_slot_6 : decode cX12_slot 6 = .ok (.iload_n 1, 1) := by decide +kernel
theorem dX12_slot_7 : decode cX12_slot 7 = .ok (.imul, 1) := by decide +kernel
theorem dX12_slot_8 : decode cX12_slot 8 = .ok (.iadd, 1) := by decide +kernel
theorem dX12_slot_9 : decode cX12_slot 9 = .ok (.ireturn, 1) := by decide +kernel
def wp_X12_slot (l0 : Int32) (l1 : Int32) (h : PH) (Q : Int32 → PH → Prop) : Prop := Q ((96 * l0) + (8 * l1)) h
set_option maxHeartbeats 4000000 in
set_option maxRecDepth 100000 in
theorem sn_X12_slot (G : GT) (d : Nat) (l0 : Int32) (l1 : Int32) (h : PH) (Q : Int32 → PH → Prop)  (hwp : wp_X12_slot l0 l1 h Q) : Mt G (0 + d) 0 0 mX12_slot [.int l0, .int l1] h (qqi Q) := by
  unfold wp_X12_slot at hwp
  refine Mt.of (by decide) rfl (Nat.le_of_ble_eq_true rfl) ?_
  have hex := qEx.rf h
  have hnn : qn h = qn h + 0 := rfl
  have hzz : qz h = qz h + 0 := rfl
  refine x_lvE (lv2 := [(0, .int l0), (1, .int l1)]) rfl ?_
  refine x_bipush (v := 96) (pc := 0) dX12_slot_0 (by decide) ?_
  refine x_iload_n (pc := 2) dX12_slot_2 rfl ?_
  refine x_imul (pc := 3) dX12_slot_3 ?_
  refine x_bipush (v := 8) (pc := 4) dX12_slot_4 (by decide) ?_
  refine x_iload_n (pc := 6) dX12_slot_6 rfl ?_
  refine x_imul (pc := 7) dX12_slot_7 ?_
  refine x_iadd (pc := 8) dX12_slot_8 ?_
  exact x_iret (pc := 9) dX12_slot_9 rfl hex hnn hzz ⟨_, rfl, hwp⟩

theorem dX12_readSpan_0 : decode cX12_readSpan 0 = .ok (.aload_n 0, 1) := by decide +kernel
theorem dX12_readSpan_1 : decode cX12_readSpan 1 = .ok (.iconst 0, 1) := by decide +kernel
theorem dX12_readSpan_2 : decode cX12_readSpan 2 = .ok (.iload_n 2, 1) := by decide +kernel
theorem dX12_readSpan_3 : decode cX12_readSpan 3 = .ok (.invokevirtual 201, 3) := by decide +kernel
theorem dX12_readSpan_6 : decode cX12_readSpan 6 = .ok (.ifCond .ne 5, 3) := by decide +kernel
theorem dX12_readSpan_9 : decode cX12_readSpan 9 = .ok (.iconst 0, 1) := by decide +kernel
theorem dX12_readSpan_10 : decode cX12_readSpan 10 = .ok (.ireturn, 1) := by decide +kernel
theorem dX12_readSpan_11 : decode cX12_readSpan 11 = .ok (.aload_n 0, 1) := by decide +kernel
theorem dX12_readSpan_12 : decode cX12_readSpan 12 = .ok (.getfield 22, 3) := by decide +kernel
theorem dX12_readSpan_15 : decode cX12_readSpan 15 = .ok (.iload_n 1, 1) := by decide +kernel
theorem dX12_readSpan_16 : decode cX12_readSpan 16 = .ok (.iconst 5, 1) := by decide +kernel
theorem dX12_readSpan_17 : decode cX12_readSpan 17 = .ok (.iadd, 1) := by decide +kernel
theorem dX12_readSpan_18 : decode cX12_readSpan 18 = .ok (.aload_n 0, 1) := by decide +kernel
theorem dX12_readSpan_19 : decode cX12_readSpan 19 = .ok (.getfield 143, 3) := by decide +kernel
theorem dX12_readSpan_22 : decode cX12_readSpan 22 = .ok (.iastore, 1) := by decide +kernel
theorem dX12_readSpan_23 : decode cX12_readSpan 23 = .ok (.aload_n 0, 1) := by decide +kernel
theorem dX12_readSpan_24 : decode cX12_readSpan 24 = .ok (.invokevirtual 214, 3) := by decide +kernel
theorem dX12_readSpan_27 : decode cX12_readSpan 27 = .ok (.ifCond .eq 12, 3) := by decide +kernel
theorem dX12_readSpan_30 : decode cX12_readSpan 30 = .ok (.aload_n 0, 1) := by decide +kernel
theorem dX12_readSpan_31 : decode cX12_readSpan 31 = .ok (.iconst 0, 1) := by decide +kernel
theorem dX12_readSpan_32 : decode cX12_readSpan 32 = .ok (.iload_n 2, 1) := by decide +kernel
theorem dX12_readSpan_33 : decode cX12_readSpan 33 = .ok (.invokevirtual 201, 3) := by decide +kernel
theorem dX12_readSpan_36 : decode cX12_readSpan 36 = .ok (.ifCond .ne 5, 3) := by decide +kernel
theorem dX12_readSpan_39 : decode cX12_readSpan 39 = .ok (.iconst 0, 1) := by decide +kernel
theorem dX12_readSpan_40 : decode cX12_readSpan 40 = .ok (.ireturn, 1) := by decide +kernel
theorem dX12_readSpan_41 : decode cX12_readSpan 41 = .ok (.aload_n 0, 1) := by decide +kernel
theorem dX12_readSpan_42 : decode cX12_readSpan 42 = .ok (.getfield 22, 3) := by decide +kernel
theorem dX12_readSpan_45 : decode cX12_readSpan 45 = .ok (.iload_n 1, 1) := by decide +kernel
theorem dX12_readSpan_46 : decode cX12_readSpan 46 = .ok (.bipush 6, 2) := by decide +kernel
theorem dX12_readSpan_48 : decode cX12_readSpan 48 = .ok (.iadd, 1) := by decide +kernel
theorem dX12_readSpan_49 : decode cX12_readSpan 49 = .ok (.aload_n 0, 1) := by decide +kernel
theorem dX12_readSpan_50 : decode cX12_readSpan 50 = .ok (.getfield 143, 3) := by decide +kernel
theorem dX12_readSpan_53 : decode cX12_readSpan 53 = .ok (.iastore, 1) := by decide +kernel
theorem dX12_readSpan_54 : decode cX12_readSpan 54 = .ok (.iconst 1, 1) := by decide +kernel
theorem dX12_readSpan_55 : decode cX12_readSpan 55 = .ok (.ireturn, 1) := by decide +kernel
def wp_X12_readSpan (l0 : Nat) (l1 : Int32) (l2 : Int32) (h : PH) (Q : Int32 → PH → Prop) : Prop := (wp_X12_readNumber l0 0 l2 h (fun r2 h1 => ((¬ r2 = 0 → (∃ b4, qR h1 l0 17 = some b4 ∧ (vp_in (l1 + 5) (qL h1 b4) ∧ ∀ h6, h6 = qsI h1 b4 (l1 + 5).toNatClampNeg (qI h1 l0 13) → (wp_X12_readTo l0 h6 (fun r9 h8 => ((r9 = 0 → Q 0 h8) ∧ (¬ (r9 = 0) → (wp_X12_readNumber l0 0 l2 h8 (fun r12 h11 => ((¬ r12 = 0 → (∃ b14, qR h11 l0 17 = some b14 ∧ (vp_in (l1 + 6) (qL h11 b14) ∧ ∀ h16, h16 = qsI h11 b14 (l1 + 6).toNatClampNeg (qI h11 l0 13) → Q 1 h16))) ∧ (r12 = 0 → Q 0 h11))))))))))) ∧ (r2 = 0 → Q 0 h1))))
set_option maxHeartbeats 4000000 in
set_option maxRecDepth 100000 in
theorem sn_X12_readSpan (G : GT) (d : Nat) (l0 : Nat) (l1 : Int32) (l2 : Int32) (h : PH) (Q : Int32 → PH → Prop) (okl0 : qOK h 11 l0) (hwp : wp_X12_readSpan l0 l1 l2 h Q) : Mt G (4 + d) 0 0 mX12_readSpan [.ref l0, .int l1, .int l2] h (qqb Q) := by
  unfold wp_X12_readSpan at hwp
  refine Mt.of (by decide) rfl (Nat.le_of_ble_eq_true rfl) ?_
  have hex := qEx.rf h
  have hnn : qn h = qn h + 0 := rfl
  have hzz : qz h = qz h + 0 := rfl
  refine x_lvE (lv2 := [(0, .ref l0), (1, .int l1), (2, .int l2)]) rfl ?_
  refine x_aload_n (pc := 0) dX12_readSpan_0 rfl ?_
  refine x_iconst (v := 0) (pc := 1) dX12_readSpan_1 (by decide) ?_
  refine x_iload_n (pc := 2) dX12_readSpan_2 rfl ?_
  refine x_invV (As := [.int 0, .int l2]) (st := []) (pc := 3) dX12_readSpan_3 lRX12_201 fX12_readNumber vX12_readNumber okl0 rfl (Nat.le_of_ble_eq_true rfl) (q_R (by omega) (by decide)) (q_C hnn hzz (by decide) (by decide)) (sn_X12_readNumber G (d + 1) l0 0 l2 h _ okl0 hwp) (k_b (fun r2 h1 hwp zbr2 cxh1 => ?_))
  have hex := hex.tr cxh1.1
  have hnn : qn h1 = qn h + 0 := by have := cxh1.2.1; omega
  have hzz : qz h1 = qz h + 0 := by have := cxh1.2.2; omega
  have okl0 := okl0.ex cxh1.1
  refine x_if_ne (tgt := 11) (pc := 6) dX12_readSpan_6 (by decide) (fun c3 => ?_) (fun c3 => ?_)
  · have hwp := hwp.1 c3
    refine x_aload_n (pc := 11) dX12_readSpan_11 rfl ?_
    obtain ⟨b4, e5, hwp⟩ := hwp
    refine x_getR (pc := 12) dX12_readSpan_12 qRX12_22 okl0 e5 (fun okb4 => ?_)
    refine x_iload_n (pc := 15) dX12_readSpan_15 rfl ?_
    refine x_iconst (v := 5) (pc := 16) dX12_readSpan_16 (by decide) ?_
    refine x_iadd (pc := 17) dX12_readSpan_17 ?_
    refine x_aload_n (pc := 18) dX12_readSpan_18 rfl ?_
    refine x_getI (pc := 19) dX12_readSpan_19 qRX12_143 okl0 (by decide) ?_
    obtain ⟨i7, hwp⟩ := hwp
    refine y_iastore (pc := 22) dX12_readSpan_22 okb4 i7 (fun h6 eh6 nxh6 => ?_)
    have hwp := hwp h6 eh6
    have hex := hex.tr nxh6.1
    have hnn := nxh6.2.1.trans hnn
    have hzz := nxh6.2.2.trans hzz
    have okl0 := okl0.ex nxh6.1
    have okb4 := okb4.ex nxh6.1
    refine x_aload_n (pc := 23) dX12_readSpan_23 rfl ?_
    refine x_invV (As := []) (st := []) (pc := 24) dX12_readSpan_24 lRX12_214 fX12_readTo vX12_readTo okl0 rfl (Nat.le_of_ble_eq_true rfl) (q_R (by omega) (by decide)) (q_C hnn hzz (by decide) (by decide)) (sn_X12_readTo G (d + 0) l0 h6 _ okl0 hwp) (k_b (fun r9 h8 hwp zbr9 cxh8 => ?_))
    have hex := hex.tr cxh8.1
    have hnn : qn h8 = qn h + 0 := by have := cxh8.2.1; omega
    have hzz : qz h8 = qz h + 0 := by have := cxh8.2.2; omega
    have okl0 := okl0.ex cxh8.1
    have okb4 := okb4.ex cxh8.1
    refine x_if_eq (tgt := 39) (pc := 27) dX12_readSpan_27 (by decide) (fun c10 => ?_) (fun c10 => ?_)
    · have hwp := hwp.1 c10
      refine x_iconst (v := 0) (pc := 39) dX12_readSpan_39 (by decide) ?_
      exact x_zret (pc := 40) dX12_readSpan_40 rfl hex hnn hzz (by decide) ⟨_, rfl, by decide, hwp⟩
    · have hwp := hwp.2 c10
      refine x_aload_n (pc := 30) dX12_readSpan_30 rfl ?_
      refine x_iconst (v := 0) (pc := 31) dX12_readSpan_31 (by decide) ?_
      refine x_iload_n (pc := 32) dX12_readSpan_32 rfl ?_
      refine x_invV (As := [.int 0, .int l2]) (st := []) (pc := 33) dX12_readSpan_33 lRX12_201 fX12_readNumber vX12_readNumber okl0 rfl (Nat.le_of_ble_eq_true rfl) (q_R (by omega) (by decide)) (q_C hnn hzz (by decide) (by decide)) (sn_X12_readNumber G (d + 1) l0 0 l2 h8 _ okl0 hwp) (k_b (fun r12 h11 hwp zbr12 cxh11 => ?_))
      have hex := hex.tr cxh11.1
      have hnn : qn h11 = qn h + 0 := by have := cxh11.2.1; omega
      have hzz : qz h11 = qz h + 0 := by have := cxh11.2.2; omega
      have okl0 := okl0.ex cxh11.1
      have okb4 := okb4.ex cxh11.1
      refine x_if_ne (tgt := 41) (pc := 36) dX12_readSpan_36 (by decide) (fun c13 => ?_) (fun c13 => ?_)
      · have hwp := hwp.1 c13
        refine x_aload_n (pc := 41) dX12_readSpan_41 rfl ?_
        obtain ⟨b14, e15, hwp⟩ := hwp
        refine x_getR (pc := 42) dX12_readSpan_42 qRX12_22 okl0 e15 (fun okb14 => ?_)
        refine x_iload_n (pc := 45) dX12_readSpan_45 rfl ?_
        refine x_bipush (v := 6) (pc := 46) dX12_readSpan_46 (by decide) ?_
        refine x_iadd (pc := 48) dX12_readSpan_48 ?_
        refine x_aload_n (pc := 49) dX12_readSpan_49 rfl ?_
        refine x_getI (pc := 50) dX12_readSpan_50 qRX12_143 okl0 (by decide) ?_
        obtain ⟨i17, hwp⟩ := hwp
        refine y_iastore (pc := 53) dX12_readSpan_53 okb14 i17 (fun h16 eh16 nxh16 => ?_)
        have hwp := hwp h16 eh16
        have hex := hex.tr nxh16.1
        have hnn := nxh16.2.1.trans hnn
        have hzz := nxh16.2.2.trans hzz
        have okl0 := okl0.ex nxh16.1
        have okb4 := okb4.ex nxh16.1
        have okb14 := okb14.ex nxh16.1
        refine x_iconst (v := 1) (pc := 54) dX12_readSpan_54 (by decide) ?_
        exact x_zret (pc := 55) dX12_readSpan_55 rfl hex hnn hzz (by decide) ⟨_, rfl, by decide, hwp⟩
      · have hwp := hwp.2 c13
        refine x_iconst (v := 0) (pc := 39) dX12_readSpan_39 (by decide) ?_
        exact x_zret (pc := 40) dX12_readSpan_40 rfl hex hnn hzz (by decide) ⟨_, rfl, by decide, hwp⟩
  · have hwp := hwp.2 c3
    refine x_iconst (v := 0) (pc := 9) dX12_readSpan_9 (by decide) ?_
    exact x_zret (pc := 10) dX12_readSpan_10 rfl hex hnn hzz (by decide) ⟨_, rfl, by decide, hwp⟩

theorem dX12_readWeight_0 : decode cX12_readWeight 0 = .ok (.aload_n 0, 1) := by decide +kernel
theorem dX12_readWeight_1 : decode cX12_readWeight 1 = .ok (.invokestatic 184, 3) := by decide +kernel
theorem dX12_readWeight_4 : decode cX12_readWeight 4 = .ok (.invokevirtual 156, 3) := by decide +kernel
theorem dX12_readWeight_7 : decode cX12_readWeight 7 = .ok (.ifCond .eq 13, 3) := by decide +kernel
theorem dX12_readWeight_10 : decode cX12_readWeight 10 = .ok (.aload_n 0, 1) := by decide +kernel
theorem dX12_readWeight_11 : decode cX12_readWeight 11 = .ok (.iconst 0, 1) := by decide +kernel
theorem dX12_readWeight_12 : decode cX12_readWeight 12 = .ok (.bipush 20, 2) := by decide +kernel
theorem dX12_readWeight_14 : decode cX12_readWeight 14 = .ok (.invokevirtual 201, 3) := by decide +kernel
theorem dX12_readWeight_17 : decode cX12_readWeight 17 = .ok (.ifCond .ne 5, 3) := by decide +kernel
theorem dX12_readWeight_20 : decode cX12_readWeight 20 = .ok (.iconst 0, 1) := by decide +kernel
theorem dX12_readWeight_21 : decode cX12_readWeight 21 = .ok (.ireturn, 1) := by decide +kernel
theorem dX12_readWeight_22 : decode cX12_readWeight 22 = .ok (.aload_n 0, 1) := by decide +kernel
theorem dX12_readWeight_23 : decode cX12_readWeight 23 = .ok (.getfield 22, 3) := by decide +kernel
theorem dX12_readWeight_26 : decode cX12_readWeight 26 = .ok (.iload_n 1, 1) := by decide +kernel
theorem dX12_readWeight_27 : decode cX12_readWeight 27 = .ok (.iconst 3, 1) := by decide +kernel
theorem dX12_readWeight_28 : decode cX12_readWeight 28 = .ok (.iadd, 1) := by decide +kernel
theorem dX12_readWeight_29 : decode cX12_readWeight 29 = .ok (.aload_n 0, 1) := by decide +kernel
theorem dX12_readWeight_30 : decode cX12_readWeight 30 = .ok (.getfield 143, 3) := by decide +kernel
theorem dX12_readWeight_33 : decode cX12_readWeight 33 = .ok (.iastore, 1) := by decide +kernel
theorem dX12_readWeight_34 : decode cX12_readWeight 34 = .ok (.aload_n 0, 1) := by decide +kernel
theorem dX12_readWeight_35 : decode cX12_readWeight 35 = .ok (.invokevirtual 178, 3) := by decide +kernel
theorem dX12_readWeight_38 : decode cX12_readWeight 38 = .ok (.ifCond .ne 5, 3) := by decide +kernel
theorem dX12_readWeight_41 : decode cX12_readWeight 41 = .ok (.iconst 1, 1) := by decide +kernel
theorem dX12_readWeight_42 : decode cX12_readWeight 42 = .ok (.ireturn, 1) := by decide +kernel
theorem dX12_readWeight_43 : decode cX12_readWeight 43 = .ok (.aload_n 0, 1) := by decide +kernel
theorem dX12_readWeight_44 : decode cX12_readWeight 44 = .ok (.invokevirtual 146, 3) := by decide +kernel
theorem dX12_readWeight_47 : decode cX12_readWeight 47 = .ok (.aload_n 0, 1) := by decide +kernel
theorem dX12_readWeight_48 : decode cX12_readWeight 48 = .ok (.iconst 0, 1) := by decide +kernel
theorem dX12_readWeight_49 : decode cX12_readWeight 49 = .ok (.bipush 20, 2) := by decide +kernel
theorem dX12_readWeight_51 : decode cX12_readWeight 51 = .ok (.invokevirtual 201, 3) := by decide +kernel
theorem dX12_readWeight_54 : decode cX12_readWeight 54 = .ok (.ifCond .ne 5, 3) := by decide +kernel
theorem dX12_readWeight_57 : decode cX12_readWeight 57 = .ok (.iconst 0, 1) := by decide +kernel
theorem dX12_readWeight_58 : decode cX12_readWeight 58 = .ok (.ireturn, 1) := by decide +kernel
theorem dX12_readWeight_59 : decode cX12_readWeight 59 = .ok (.aload_n 0, 1) := by decide +kernel
theorem dX12_readWeight_60 : decode cX12_readWeight 60 = .ok (.getfield 22, 3) := by decide +kernel
theorem dX12_readWeight_63 : decode cX12_readWeight 63 = .ok (.iload_n 1, 1) := by decide +kernel
theorem dX12_readWeight_64 : decode cX12_readWeight 64 = .ok (.iconst 4, 1) := by decide +kernel
theorem dX12_readWeight_65 : decode cX12_readWeight 65 = .ok (.iadd, 1) := by decide +kernel
theorem dX12_readWeight_66 : decode cX12_readWeight 66 = .ok (.aload_n 0, 1) := by decide +kernel
theorem dX12_readWeight_67 : decode cX12_readWeight 67 = .ok (.getfield 143, 3) := by decide +kernel
theorem dX12_readWeight_70 : decode cX12_readWeight 70 = .ok (.iastore, 1) := by decide +kernel
theorem dX12_readWeight_71 : decode cX12_readWeight 71 = .ok (.aload_n 0, 1) := by decide +kernel
theorem dX12_readWeight_72 : decode cX12_readWeight 72 = .ok (.invokevirtual 208, 3) := by decide +kernel
theorem dX12_readWeight_75 : decode cX12_readWeight 75 = .ok (.ifCond .eq 16, 3) := by decide +kernel
theorem dX12_readWeight_78 : decode cX12_readWeight 78 = .ok (.aload_n 0, 1) := by decide +kernel
theorem dX12_readWeight_79 : decode cX12_readWeight 79 = .ok (.iload_n 1, 1) := by decide +kernel
theorem dX12_readWeight_80 : decode cX12_readWeight 80 = .ok (.iload_n 2, 1) := by decide +kernel
theorem dX12_readWeight_81 : decode cX12_readWeight 81 = .ok (.invokevirtual 211, 3) := by decide +kernel
theorem dX12_readWeight_84 : decode cX12_readWeight 84 = .ok (.ifCond .eq 7, 3) := by decide +kernel
theorem dX12_readWeight_87 : decode cX12_readWeight 87 = .ok (.iconst 1, 1) := by decide +kernel
theorem dX12_readWeight_88 : decode cX12_readWeight 88 = .ok (.goto 4, 3) := by decide +kernel
theorem dX12_readWeight_91 : decode cX12_readWeight 91 = .ok (.iconst 0, 1) := by decide +kernel
theorem dX12_readWeight_92 : decode cX12_readWeight 92 = .ok (.ireturn, 1) := by decide +kernel
def wp_X12_readWeight (l0 : Nat) (l1 : Int32) (l2 : Int32) (h : PH) (Q : Int32 → PH → Prop) : Prop := (wp_X12_arm h (fun r2 h1 => (wp_X12_readKey l0 r2 h1 (fun r4 h3 => ((r4 = 0 → Q 0 h3) ∧ (¬ (r4 = 0) → (wp_X12_readNumber l0 0 20 h3 (fun r7 h6 => ((¬ r7 = 0 → (∃ b9, qR h6 l0 17 = some b9 ∧ (vp_in (l1 + 3) (qL h6 b9) ∧ ∀ h11, h11 = qsI h6 b9 (l1 + 3).toNatClampNeg (qI h6 l0 13) → (wp_X12_isOut l0 h11 (fun r14 h13 => ((¬ r14 = 0 → (wp_X12_go l0 h13 (fun h16 => (wp_X12_readNumber l0 0 20 h16 (fun r19 h18 => ((¬ r19 = 0 → (∃ b21, qR h18 l0 17 = some b21 ∧ (vp_in (l1 + 4) (qL h18 b21) ∧ ∀ h23, h23 = qsI h18 b21 (l1 + 4).toNatClampNeg (qI h18 l0 13) → (wp_X12_readFrom l0 h23 (fun r26 h25 => ((r26 = 0 → Q 0 h25) ∧ (¬ (r26 = 0) → (wp_X12_readSpan l0 l1 l2 h25 (fun r29 h28 => ((r29 = 0 → Q 0 h28) ∧ (¬ (r29 = 0) → Q 1 h28))))))))))) ∧ (r19 = 0 → Q 0 h18))))))) ∧ (r14 = 0 → Q 1 h13))))))) ∧ (r7 = 0 → Q 0 h6))))))))))
set_option maxHeartbeats 4000000 in
set_option maxRecDepth 100000 in
theorem sn_X12_readWeight (G : GT) (d : Nat) (l0 : Nat) (l1 : Int32) (l2 : Int32) (h : PH) (Q : Int32 → PH → Prop) (okl0 : qOK h 11 l0) (hwp : wp_X12_readWeight l0 l1 l2 h Q) : Mt G (5 + d) 0 0 mX12_readWeight [.ref l0, .int l1, .int l2] h (qqb Q) := by
  unfold wp_X12_readWeight at hwp
  refine Mt.of (by decide) rfl (Nat.le_of_ble_eq_true rfl) ?_
  have hex := qEx.rf h
  have hnn : qn h = qn h + 0 := rfl
  have hzz : qz h = qz h + 0 := rfl
  refine x_lvE (lv2 := [(0, .ref l0), (1, .int l1), (2, .int l2)]) rfl ?_
  refine x_aload_n (pc := 0) dX12_readWeight_0 rfl ?_
  refine x_invS (As := []) (st := [.ref l0]) (pc := 1) dX12_readWeight_1 lRX12_184 fX12_arm sX12_arm rfl (Nat.le_of_ble_eq_true rfl) (q_R (by omega) (by decide)) (q_C hnn hzz (by decide) (by decide)) (sn_X12_arm G (d + 3) h _  hwp) (k_j (fun r2 h1 hwp cxh1 => ?_))
  have hex := hex.tr cxh1.1
  have hnn : qn h1 = qn h + 0 := by have := cxh1.2.1; omega
  have hzz : qz h1 = qz h + 0 := by have := cxh1.2.2; omega
  have okl0 := okl0.ex cxh1.1
  refine x_invV (As := [.long r2]) (st := []) (pc := 4) dX12_readWeight_4 lRX12_156 fX12_readKey vX12_readKey okl0 rfl (Nat.le_of_ble_eq_true rfl) (q_R (by omega) (by decide)) (q_C hnn hzz (by decide) (by decide)) (sn_X12_readKey G (d + 2) l0 r2 h1 _ okl0 hwp) (k_b (fun r4 h3 hwp zbr4 cxh3 => ?_))
  have hex := hex.tr cxh3.1
  have hnn : qn h3 = qn h + 0 := by have := cxh3.2.1; omega
  have hzz : qz h3 = qz h + 0 := by have := cxh3.2.2; omega
  have okl0 := okl0.ex cxh3.1
  refine x_if_eq (tgt := 20) (pc := 7) dX12_readWeight_7 (by decide) (fun c5 => ?_) (fun c5 => ?_)
  · have hwp := hwp.1 c5
    refine x_iconst (v := 0) (pc := 20) dX12_readWeight_20 (by decide) ?_
    exact x_zret (pc := 21) dX12_readWeight_21 rfl hex hnn hzz (by decide) ⟨_, rfl, by decide, hwp⟩
  · have hwp := hwp.2 c5
    refine x_aload_n (pc := 10) dX12_readWeight_10 rfl ?_
    refine x_iconst (v := 0) (pc := 11) dX12_readWeight_11 (by decide) ?_
    refine x_bipush (v := 20) (pc := 12) dX12_readWeight_12 (by decide) ?_
    refine x_invV (As := [.int 0, .int 20]) (st := []) (pc := 14) dX12_readWeight_14 lRX12_201 fX12_readNumber vX12_readNumber okl0 rfl (Nat.le_of_ble_eq_true rfl) (q_R (by omega) (by decide)) (q_C hnn hzz (by decide) (by decide)) (sn_X12_readNumber G (d + 2) l0 0 20 h3 _ okl0 hwp) (k_b (fun r7 h6 hwp zbr7 cxh6 => ?_))
    have hex := hex.tr cxh6.1
    have hnn : qn h6 = qn h + 0 := by have := cxh6.2.1; omega
    have hzz : qz h6 = qz h + 0 := by have := cxh6.2.2; omega
    have okl0 := okl0.ex cxh6.1
    refine x_if_ne (tgt := 22) (pc := 17) dX12_readWeight_17 (by decide) (fun c8 => ?_) (fun c8 => ?_)
    · have hwp := hwp.1 c8
      refine x_aload_n (pc := 22) dX12_readWeight_22 rfl ?_
      obtain ⟨b9, e10, hwp⟩ := hwp
      refine x_getR (pc := 23) dX12_readWeight_23 qRX12_22 okl0 e10 (fun okb9 => ?_)
      refine x_iload_n (pc := 26) dX12_readWeight_26 rfl ?_
      refine x_iconst (v := 3) (pc := 27) dX12_readWeight_27 (by decide) ?_
      refine x_iadd (pc := 28) dX12_readWeight_28 ?_
      refine x_aload_n (pc := 29) dX12_readWeight_29 rfl ?_
      refine x_getI (pc := 30) dX12_readWeight_30 qRX12_143 okl0 (by decide) ?_
      obtain ⟨i12, hwp⟩ := hwp
      refine y_iastore (pc := 33) dX12_readWeight_33 okb9 i12 (fun h11 eh11 nxh11 => ?_)
      have hwp := hwp h11 eh11
      have hex := hex.tr nxh11.1
      have hnn := nxh11.2.1.trans hnn
      have hzz := nxh11.2.2.trans hzz
      have okl0 := okl0.ex nxh11.1
      have okb9 := okb9.ex nxh11.1
      refine x_aload_n (pc := 34) dX12_readWeight_34 rfl ?_
      refine x_invV (As := []) (st := []) (pc := 35) dX12_readWeight_35 lRX12_178 fX12_isOut vX12_isOut okl0 rfl (Nat.le_of_ble_eq_true rfl) (q_R (by omega) (by decide)) (q_C hnn hzz (by decide) (by decide)) (sn_X12_isOut G (d + 3) l0 h11 _ okl0 hwp) (k_b (fun r14 h13 hwp zbr14 cxh13 => ?_))
      have hex := hex.tr cxh13.1
      have hnn : qn h13 = qn h + 0 := by have := cxh13.2.1; omega
      have hzz : qz h13 = qz h + 0 := by have := cxh13.2.2; omega
      have okl0 := okl0.ex cxh13.1
      have okb9 := okb9.ex cxh13.1
      refine x_if_ne (tgt := 43) (pc := 38) dX12_readWeight_38 (by decide) (fun c15 => ?_) (fun c15 => ?_)
      · have hwp := hwp.1 c15
        refine x_aload_n (pc := 43) dX12_readWeight_43 rfl ?_
        refine x_invV (As := []) (st := []) (pc := 44) dX12_readWeight_44 lRX12_146 fX12_go vX12_go okl0 rfl (Nat.le_of_ble_eq_true rfl) (q_R (by omega) (by decide)) (q_C hnn hzz (by decide) (by decide)) (sn_X12_go G (d + 3) l0 h13 _ okl0 hwp) (k_v (fun h16 hwp cxh16 => ?_))
        have hex := hex.tr cxh16.1
        have hnn : qn h16 = qn h + 0 := by have := cxh16.2.1; omega
        have hzz : qz h16 = qz h + 0 := by have := cxh16.2.2; omega
        have okl0 := okl0.ex cxh16.1
        have okb9 := okb9.ex cxh16.1
        refine x_aload_n (pc := 47) dX12_readWeight_47 rfl ?_
        refine x_iconst (v := 0) (pc := 48) dX12_readWeight_48 (by decide) ?_
        refine x_bipush (v := 20) (pc := 49) dX12_readWeight_49 (by decide) ?_
        refine x_invV (As := [.int 0, .int 20]) (st := []) (pc := 51) dX12_readWeight_51 lRX12_201 fX12_readNumber vX12_readNumber okl0 rfl (Nat.le_of_ble_eq_true rfl) (q_R (by omega) (by decide)) (q_C hnn hzz (by decide) (by decide)) (sn_X12_readNumber G (d + 2) l0 0 20 h16 _ okl0 hwp) (k_b (fun r19 h18 hwp zbr19 cxh18 => ?_))
        have hex := hex.tr cxh18.1
        have hnn : qn h18 = qn h + 0 := by have := cxh18.2.1; omega
        have hzz : qz h18 = qz h + 0 := by have := cxh18.2.2; omega
        have okl0 := okl0.ex cxh18.1
        have okb9 := okb9.ex cxh18.1
        refine x_if_ne (tgt := 59) (pc := 54) dX12_readWeight_54 (by decide) (fun c20 => ?_) (fun c20 => ?_)
        · have hwp := hwp.1 c20
          refine x_aload_n (pc := 59) dX12_readWeight_59 rfl ?_
          obtain ⟨b21, e22, hwp⟩ := hwp
          refine x_getR (pc := 60) dX12_readWeight_60 qRX12_22 okl0 e22 (fun okb21 => ?_)
          refine x_iload_n (pc := 63) dX12_readWeight_63 rfl ?_
          refine x_iconst (v := 4) (pc := 64) dX12_readWeight_64 (by decide) ?_
          refine x_iadd (pc := 65) dX12_readWeight_65 ?_
          refine x_aload_n (pc := 66) dX12_readWeight_66 rfl ?_
          refine x_getI (pc := 67) dX12_readWeight_67 qRX12_143 okl0 (by decide) ?_
          obtain ⟨i24, hwp⟩ := hwp
          refine y_iastore (pc := 70) dX12_readWeight_70 okb21 i24 (fun h23 eh23 nxh23 => ?_)
          have hwp := hwp h23 eh23
          have hex := hex.tr nxh23.1
          have hnn := nxh23.2.1.trans hnn
          have hzz := nxh23.2.2.trans hzz
          have okl0 := okl0.ex nxh23.1
          have okb9 := okb9.ex nxh23.1
          have okb21 := okb21.ex nxh23.1
          refine x_aload_n (pc := 71) dX12_readWeight_71 rfl ?_
          refine x_invV (As := []) (st := []) (pc := 72) dX12_readWeight_72 lRX12_208 fX12_readFrom vX12_readFrom okl0 rfl (Nat.le_of_ble_eq_true rfl) (q_R (by omega) (by decide)) (q_C hnn hzz (by decide) (by decide)) (sn_X12_readFrom G (d + 1) l0 h23 _ okl0 hwp) (k_b (fun r26 h25 hwp zbr26 cxh25 => ?_))
          have hex := hex.tr cxh25.1
          have hnn : qn h25 = qn h + 0 := by have := cxh25.2.1; omega
          have hzz : qz h25 = qz h + 0 := by have := cxh25.2.2; omega
          have okl0 := okl0.ex cxh25.1
          have okb9 := okb9.ex cxh25.1
          have okb21 := okb21.ex cxh25.1
          refine x_if_eq (tgt := 91) (pc := 75) dX12_readWeight_75 (by decide) (fun c27 => ?_) (fun c27 => ?_)
          · have hwp := hwp.1 c27
            refine x_iconst (v := 0) (pc := 91) dX12_readWeight_91 (by decide) ?_
            exact x_zret (pc := 92) dX12_readWeight_92 rfl hex hnn hzz (by decide) ⟨_, rfl, by decide, hwp⟩
          · have hwp := hwp.2 c27
            refine x_aload_n (pc := 78) dX12_readWeight_78 rfl ?_
            refine x_iload_n (pc := 79) dX12_readWeight_79 rfl ?_
            refine x_iload_n (pc := 80) dX12_readWeight_80 rfl ?_
            refine x_invV (As := [.int l1, .int l2]) (st := []) (pc := 81) dX12_readWeight_81 lRX12_211 fX12_readSpan vX12_readSpan okl0 rfl (Nat.le_of_ble_eq_true rfl) (q_R (by omega) (by decide)) (q_C hnn hzz (by decide) (by decide)) (sn_X12_readSpan G (d + 0) l0 l1 l2 h25 _ okl0 hwp) (k_b (fun r29 h28 hwp zbr29 cxh28 => ?_))
            have hex := hex.tr cxh28.1
            have hnn : qn h28 = qn h + 0 := by have := cxh28.2.1; omega
            have hzz : qz h28 = qz h + 0 := by have := cxh28.2.2; omega
            have okl0 := okl0.ex cxh28.1
            have okb9 := okb9.ex cxh28.1
            have okb21 := okb21.ex cxh28.1
            refine x_if_eq (tgt := 91) (pc := 84) dX12_readWeight_84 (by decide) (fun c30 => ?_) (fun c30 => ?_)
            · have hwp := hwp.1 c30
              refine x_iconst (v := 0) (pc := 91) dX12_readWeight_91 (by decide) ?_
              exact x_zret (pc := 92) dX12_readWeight_92 rfl hex hnn hzz (by decide) ⟨_, rfl, by decide, hwp⟩
            · have hwp := hwp.2 c30
              refine x_iconst (v := 1) (pc := 87) dX12_readWeight_87 (by decide) ?_
              refine x_goto (tgt := 92) (pc := 88) dX12_readWeight_88 (by decide) ?_
              exact x_zret (pc := 92) dX12_readWeight_92 rfl hex hnn hzz (by decide) ⟨_, rfl, by decide, hwp⟩
        · have hwp := hwp.2 c20
          refine x_iconst (v := 0) (pc := 57) dX12_readWeight_57 (by decide) ?_
          exact x_zret (pc := 58) dX12_readWeight_58 rfl hex hnn hzz (by decide) ⟨_, rfl, by decide, hwp⟩
      · have hwp := hwp.2 c15
        refine x_iconst (v := 1) (pc := 41) dX12_readWeight_41 (by decide) ?_
        exact x_zret (pc := 42) dX12_readWeight_42 rfl hex hnn hzz (by decide) ⟨_, rfl, by decide, hwp⟩
    · have hwp := hwp.2 c8
      refine x_iconst (v := 0) (pc := 20) dX12_readWeight_20 (by decide) ?_
      exact x_zret (pc := 21) dX12_readWeight_21 rfl hex hnn hzz (by decide) ⟨_, rfl, by decide, hwp⟩

theorem dX12_readPart_0 : decode cX12_readPart 0 = .ok (.aload_n 0, 1) := by decide +kernel
theorem dX12_readPart_1 : decode cX12_readPart 1 = .ok (.getfield 19, 3) := by decide +kernel
theorem dX12_readPart_4 : decode cX12_readPart 4 = .ok (.iconst 1, 1) := by decide +kernel
theorem dX12_readPart_5 : decode cX12_readPart 5 = .ok (.iaload, 1) := by decide +kernel
theorem dX12_readPart_6 : decode cX12_readPart 6 = .ok (.istore_n 2, 1) := by decide +kernel
theorem dX12_readPart_7 : decode cX12_readPart 7 = .ok (.iconst 1, 1) := by decide +kernel
theorem dX12_readPart_8 : decode cX12_readPart 8 = .ok (.iload_n 2, 1) := by decide +kernel
theorem dX12_readPart_9 : decode cX12_readPart 9 = .ok (.invokestatic 194, 3) := by decide +kernel
theorem dX12_readPart_12 : decode cX12_readPart 12 = .ok (.istore_n 3, 1) := by decide +kernel
theorem dX12_readPart_13 : decode cX12_readPart 13 = .ok (.iload_n 2, 1) := by decide +kernel
theorem dX12_readPart_14 : decode cX12_readPart 14 = .ok (.bipush 12, 2) := by decide +kernel
theorem dX12_readPart_16 : decode cX12_readPart 16 = .ok (.if_icmp .ne 9, 3) := by decide +kernel
theorem dX12_readPart_19 : decode cX12_readPart 19 = .ok (.aload_n 0, 1) := by decide +kernel
theorem dX12_readPart_20 : decode cX12_readPart 20 = .ok (.iconst 4, 1) := by decide +kernel
theorem dX12_readPart_21 : decode cX12_readPart 21 = .ok (.invokevirtual 136, 3) := by decide +kernel
theorem dX12_readPart_24 : decode cX12_readPart 24 = .ok (.ireturn, 1) := by decide +kernel
theorem dX12_readPart_25 : decode cX12_readPart 25 = .ok (.aload_n 0, 1) := by decide +kernel
theorem dX12_readPart_26 : decode cX12_readPart 26 = .ok (.invokevirtual 146, 3) := by decide +kernel
theorem dX12_readPart_29 : decode cX12_readPart 29 = .ok (.aload_n 0, 1) := by decide +kernel
theorem dX12_readPart_30 : decode cX12_readPart 30 = .ok (.invokevirtual 198, 3) := by decide +kernel
theorem dX12_readPart_33 : decode cX12_readPart 33 = .ok (.ifCond .ne 9, 3) := by decide +kernel
theorem dX12_readPart_36 : decode cX12_readPart 36 = .ok (.aload_n 0, 1) := by decide +kernel
theorem dX12_readPart_37 : decode cX12_readPart 37 = .ok (.iconst 1, 1) := by decide +kernel
theorem dX12_readPart_38 : decode cX12_readPart 38 = .ok (.invokevirtual 136, 3) := by decide +kernel
theorem dX12_readPart_41 : decode cX12_readPart 41 = .ok (.ireturn, 1) := by decide +kernel
theorem dX12_readPart_42 : decode cX12_readPart 42 = .ok (.iconst 0, 1) := by decide +kernel
theorem dX12_readPart_43 : decode cX12_readPart 43 = .ok (.istore 4, 2) := by decide +kernel
theorem dX12_readPart_45 : decode cX12_readPart 45 = .ok (.iload 4, 2) := by decide +kernel
theorem dX12_readPart_47 : decode cX12_readPart 47 = .ok (.iload_n 2, 1) := by decide +kernel
theorem dX12_readPart_48 : decode cX12_readPart 48 = .ok (.if_icmp .ge 30, 3) := by decide +kernel
theorem dX12_readPart_51 : decode cX12_readPart 51 = .ok (.aload_n 0, 1) := by decide +kernel
theorem dX12_readPart_52 : decode cX12_readPart 52 = .ok (.getfield 25, 3) := by decide +kernel
theorem dX12_readPart_55 : decode cX12_readPart 55 = .ok (.iload 4, 2) := by decide +kernel
theorem dX12_readPart_57 : decode cX12_readPart 57 = .ok (.laload, 1) := by decide +kernel
theorem dX12_readPart_58 : decode cX12_readPart 58 = .ok (.aload_n 0, 1) := by decide +kernel
theorem dX12_readPart_59 : decode cX12_readPart 59 = .ok (.getfield 111, 3) := by decide +kernel
theorem dX12_readPart_62 : decode cX12_readPart 62 = .ok (.lcmp, 1) := by decide +kernel
theorem dX12_readPart_63 : decode cX12_readPart 63 = .ok (.ifCond .ne 9, 3) := by decide +kernel
theorem dX12_readPart_66 : decode cX12_readPart 66 = .ok (.aload_n 0, 1) := by decide +kernel
theorem dX12_readPart_67 : decode cX12_readPart 67 = .ok (.iconst 3, 1) := by decide +kernel
theorem dX12_readPart_68 : decode cX12_readPart 68 = .ok (.invokevirtual 136, 3) := by decide +kernel
theorem dX12_readPart_71 : decode cX12_readPart 71 = .ok (.ireturn, 1) := by decide +kernel
theorem dX12_readPart_72 : decode cX12_readPart 72 = .ok (.iinc 4 1, 3) := by decide +kernel
theorem dX12_readPart_75 : decode cX12_readPart 75 = .ok (.goto (-30), 3) := by decide +kernel
theorem dX12_readPart_78 : decode cX12_readPart 78 = .ok (.aload_n 0, 1) := by decide +kernel
theorem dX12_readPart_79 : decode cX12_readPart 79 = .ok (.getfield 25, 3) := by decide +kernel
theorem dX12_readPart_82 : decode cX12_readPart 82 = .ok (.iload_n 2, 1) := by decide +kernel
theorem dX12_readPart_83 : decode cX12_readPart 83 = .ok (.aload_n 0, 1) := by decide +kernel
theorem dX12_readPart_84 : decode cX12_readPart 84 = .ok (.getfield 111, 3) := by decide +kernel
theorem dX12_readPart_87 : decode cX12_readPart 87 = .ok (.lastore, 1) := by decide +kernel
theorem dX12_readPart_88 : decode cX12_readPart 88 = .ok (.aload_n 0, 1) := by decide +kernel
theorem dX12_readPart_89 : decode cX12_readPart 89 = .ok (.invokevirtual 146, 3) := by decide +kernel
theorem dX12_readPart_92 : decode cX12_readPart 92 = .ok (.aload_n 0, 1) := by decide +kernel
theorem dX12_readPart_93 : decode cX12_readPart 93 = .ok (.getfield 13, 3) := by decide +kernel
theorem dX12_readPart_96 : decode cX12_readPart 96 = .ok (.iconst 1, 1) := by decide +kernel
theorem dX12_readPart_97 : decode cX12_readPart 97 = .ok (.iaload, 1) := by decide +kernel
theorem dX12_readPart_98 : decode cX12_readPart 98 = .ok (.iconst 1, 1) := by decide +kernel
theorem dX12_readPart_99 : decode cX12_readPart 99 = .ok (.isub, 1) := by decide +kernel
theorem dX12_readPart_100 : decode cX12_readPart 100 = .ok (.istore 4, 2) := by decide +kernel
theorem dX12_readPart_102 : decode cX12_readPart 102 = .ok (.aload_n 0, 1) := by decide +kernel
theorem dX12_readPart_103 : decode cX12_readPart 103 = .ok (.iconst 0, 1) := by decide +kernel
theorem dX12_readPart_104 : decode cX12_readPart 104 = .ok (.iload 4, 2) := by decide +kernel
theorem dX12_readPart_106 : decode cX12_readPart 106 = .ok (.invokevirtual 201, 3) := by decide +kernel
theorem dX12_readPart_109 : decode cX12_readPart 109 = .ok (.ifCond .ne 5, 3) := by decide +kernel
theorem dX12_readPart_112 : decode cX12_readPart 112 = .ok (.iconst 0, 1) := by decide +kernel
theorem dX12_readPart_113 : decode cX12_readPart 113 = .ok (.ireturn, 1) := by decide +kernel
theorem dX12_readPart_114 : decode cX12_readPart 114 = .ok (.aload_n 0, 1) := by decide +kernel
theorem dX12_readPart_115 : decode cX12_readPart 115 = .ok (.getfield 22, 3) := by decide +kernel
theorem dX12_readPart_118 : decode cX12_readPart 118 = .ok (.iload_n 3, 1) := by decide +kernel
theorem dX12_readPart_119 : decode cX12_readPart 119 = .ok (.iconst 1, 1) := by decide +kernel
theorem dX12_readPart_120 : decode cX12_readPart 120 = .ok (.iadd, 1) := by decide +kernel
theorem dX12_readPart_121 : decode cX12_readPart 121 = .ok (.aload_n 0, 1) := by decide +kernel
theorem dX12_readPart_122 : decode cX12_readPart 122 = .ok (.getfield 143, 3) := by decide +kernel
theorem dX12_readPart_125 : decode cX12_readPart 125 = .ok (.iastore, 1) := by decide +kernel
theorem dX12_readPart_126 : decode cX12_readPart 126 = .ok (.aload_n 0, 1) := by decide +kernel
theorem dX12_readPart_127 : decode cX12_readPart 127 = .ok (.iconst 1, 1) := by decide +kernel
theorem dX12_readPart_128 : decode cX12_readPart 128 = .ok (.bipush 99, 2) := by decide +kernel
theorem dX12_readPart_130 : decode cX12_readPart 130 = .ok (.invokevirtual 201, 3) := by decide +kernel
theorem dX12_readPart_133 : decode cX12_readPart 133 = .ok (.ifCond .ne 5, 3) := by decide +kernel
theorem dX12_readPart_136 : decode cX12_readPart 136 = .ok (.iconst 0, 1) := by decide +kernel
theorem dX12_readPart_137 : decode cX12_readPart 137 = .ok (.ireturn, 1) := by decide +kernel
theorem dX12_readPart_138 : decode cX12_readPart 138 = .ok (.aload_n 0, 1) := by decide +kernel
theorem dX12_readPart_139 : decode cX12_readPart 139 = .ok (.getfield 22, 3) := by decide +kernel
theorem dX12_readPart_142 : decode cX12_readPart 142 = .ok (.iload_n 3, 1) := by decide +kernel
theorem dX12_readPart_143 : decode cX12_readPart 143 = .ok (.iconst 0, 1) := by decide +kernel
theorem dX12_readPart_144 : decode cX12_readPart 144 = .ok (.iadd, 1) := by decide +kernel
theorem dX12_readPart_145 : decode cX12_readPart 145 = .ok (.iload_n 1, 1) := by decide +kernel
theorem dX12_readPart_146 : decode cX12_readPart 146 = .ok (.iastore, 1) := by decide +kernel
theorem dX12_readPart_147 : decode cX12_readPart 147 = .ok (.aload_n 0, 1) := by decide +kernel
theorem dX12_readPart_148 : decode cX12_readPart 148 = .ok (.getfield 22, 3) := by decide +kernel
theorem dX12_readPart_151 : decode cX12_readPart 151 = .ok (.iload_n 3, 1) := by decide +kernel
theorem dX12_readPart_152 : decode cX12_readPart 152 = .ok (.iconst 2, 1) := by decide +kernel
theorem dX12_readPart_153 : decode cX12_readPart 153 = .ok (.iadd, 1) := by decide +kernel
theorem dX12_readPart_154 : decode cX12_readPart 154 = .ok (.aload_n 0, 1) := by decide +kernel
theorem dX12_readPart_155 : decode cX12_readPart 155 = .ok (.getfield 143, 3) := by decide +kernel
theorem dX12_readPart_158 : decode cX12_readPart 158 = .ok (.iastore, 1) := by decide +kernel
theorem dX12_readPart_159 : decode cX12_readPart 159 = .ok (.iconst 3, 1) := by decide +kernel
theorem dX12_readPart_160 : decode cX12_readPart 160 = .ok (.istore 5, 2) := by decide +kernel
theorem dX12_readPart_162 : decode cX12_readPart 162 = .ok (.iload 5, 2) := by decide +kernel
theorem dX12_readPart_164 : decode cX12_readPart 164 = .ok (.bipush 7, 2) := by decide +kernel
theorem dX12_readPart_166 : decode cX12_readPart 166 = .ok (.if_icmp .gt 19, 3) := by decide +kernel
theorem dX12_readPart_169 : decode cX12_readPart 169 = .ok (.aload_n 0, 1) := by decide +kernel
theorem dX12_readPart_170 : decode cX12_readPart 170 = .ok (.getfield 22, 3) := by decide +kernel
theorem dX12_readPart_173 : decode cX12_readPart 173 = .ok (.iload_n 3, 1) := by decide +kernel
theorem dX12_readPart_174 : decode cX12_readPart 174 = .ok (.iload 5, 2) := by decide +kernel
theorem dX12_readPart_176 : decode cX12_readPart 176 = .ok (.iadd, 1) := by decide +kernel
theorem dX12_readPart_177 : decode cX12_readPart 177 = .ok (.iconst (-1), 1) := by decide +kernel
theorem dX12_readPart_178 : decode cX12_readPart 178 = .ok (.iastore, 1) := by decide +kernel
theorem dX12_readPart_179 : decode cX12_readPart 179 = .ok (.iinc 5 1, 3) := by decide +kernel
theorem dX12_readPart_182 : decode cX12_readPart 182 = .ok (.goto (-20), 3) := by decide +kernel
theorem dX12_readPart_185 : decode cX12_readPart 185 = .ok (.aload_n 0, 1) := by decide +kernel
theorem dX12_readPart_186 : decode cX12_readPart 186 = .ok (.getfield 19, 3) := by decide +kernel
theorem dX12_readPart_189 : decode cX12_readPart 189 = .ok (.iconst 1, 1) := by decide +kernel
theorem dX12_readPart_190 : decode cX12_readPart 190 = .ok (.dup2, 1) := by decide +kernel
theorem dX12_readPart_191 : decode cX12_readPart 191 = .ok (.iaload, 1) := by decide +kernel
theorem dX12_readPart_192 : decode cX12_readPart 192 = .ok (.iconst 1, 1) := by decide +kernel
theorem dX12_readPart_193 : decode cX12_readPart 193 = .ok (.iadd, 1) := by decide +kernel
theorem dX12_readPart_194 : decode cX12_readPart 194 = .ok (.iastore, 1) := by decide +kernel
theorem dX12_readPart_195 : decode cX12_readPart 195 = .ok (.iload_n 1, 1) := by decide +kernel
theorem dX12_readPart_196 : decode cX12_readPart 196 = .ok (.ifCond .ne 11, 3) := by decide +kernel
theorem dX12_readPart_199 : decode cX12_readPart 199 = .ok (.aload_n 0, 1) := by decide +kernel
theorem dX12_readPart_200 : decode cX12_readPart 200 = .ok (.iload_n 3, 1) := by decide +kernel
theorem dX12_readPart_201 : decode cX12_readPart 201 = .ok (.iload 4, 2) := by decide +kernel
theorem dX12_readPart_203 : decode cX12_readPart 203 = .ok (.invokevirtual 205, 3) := by decide +kernel
theorem dX12_readPart_206 : decode cX12_readPart 206 = .ok (.ireturn, 1) := by decide +kernel
theorem dX12_readPart_207 : decode cX12_readPart 207 = .ok (.iload_n 1, 1) := by decide +kernel
theorem dX12_readPart_208 : decode cX12_readPart 208 = .ok (.iconst 1, 1) := by decide +kernel
theorem dX12_readPart_209 : decode cX12_readPart 209 = .ok (.if_icmp .eq 8, 3) := by decide +kernel
theorem dX12_readPart_212 : decode cX12_readPart 212 = .ok (.iload_n 1, 1) := by decide +kernel
theorem dX12_readPart_213 : decode cX12_readPart 213 = .ok (.iconst 3, 1) := by decide +kernel
theorem dX12_readPart_214 : decode cX12_readPart 214 = .ok (.if_icmp .ne 26, 3) := by decide +kernel
theorem dX12_readPart_217 : decode cX12_readPart 217 = .ok (.aload_n 0, 1) := by decide +kernel
theorem dX12_readPart_218 : decode cX12_readPart 218 = .ok (.invokevirtual 208, 3) := by decide +kernel
theorem dX12_readPart_221 : decode cX12_readPart 221 = .ok (.ifCond .eq 17, 3) := by decide +kernel
theorem dX12_readPart_224 : decode cX12_readPart 224 = .ok (.aload_n 0, 1) := by decide +kernel
theorem dX12_readPart_225 : decode cX12_readPart 225 = .ok (.iload_n 3, 1) := by decide +kernel
theorem dX12_readPart_226 : decode cX12_readPart 226 = .ok (.iload 4, 2) := by decide +kernel
theorem dX12_readPart_228 : decode cX12_readPart 228 = .ok (.invokevirtual 211, 3) := by decide +kernel
theorem dX12_readPart_231 : decode cX12_readPart 231 = .ok (.ifCond .eq 7, 3) := by decide +kernel
theorem dX12_readPart_234 : decode cX12_readPart 234 = .ok (.iconst 1, 1) := by decide +kernel
theorem dX12_readPart_235 : decode cX12_readPart 235 = .ok (.goto 4, 3) := by decide +kernel
theorem dX12_readPart_238 : decode cX12_readPart 238 = .ok (.iconst 0, 1) := by decide +kernel
theorem dX12_readPart_239 : decode cX12_readPart 239 = .ok (.ireturn, 1) := by decide +kernel
theorem dX12_readPart_240 : decode cX12_readPart 240 = .ok (.iload_n 1, 1) := by decide +kernel
theorem dX12_readPart_241 : decode cX12_readPart 241 = .ok (.iconst 4, 1) := by decide +kernel
theorem dX12_readPart_242 : decode cX12_readPart 242 = .ok (.if_icmp .ne 5, 3) := by decide +kernel
theorem dX12_readPart_245 : decode cX12_readPart 245 = .ok (.iconst 1, 1) := by decide +kernel
theorem dX12_readPart_246 : decode cX12_readPart 246 = .ok (.ireturn, 1) := by decide +kernel
theorem dX12_readPart_247 : decode cX12_readPart 247 = .ok (.aload_n 0, 1) := by decide +kernel
theorem dX12_readPart_248 : decode cX12_readPart 248 = .ok (.invokestatic 187, 3) := by decide +kernel
theorem dX12_readPart_251 : decode cX12_readPart 251 = .ok (.invokevirtual 156, 3) := by decide +kernel
theorem dX12_readPart_254 : decode cX12_readPart 254 = .ok (.ifCond .eq 13, 3) := by decide +kernel
theorem dX12_readPart_257 : decode cX12_readPart 257 = .ok (.aload_n 0, 1) := by decide +kernel
theorem dX12_readPart_258 : decode cX12_readPart 258 = .ok (.iconst 0, 1) := by decide +kernel
theorem dX12_readPart_259 : decode cX12_readPart 259 = .ok (.iload 4, 2) := by decide +kernel
theorem dX12_readPart_261 : decode cX12_readPart 261 = .ok (.invokevirtual 201, 3) := by decide +kernel
theorem dX12_readPart_264 : decode cX12_readPart 264 = .ok (.ifCond .ne 5, 3) := by decide +kernel
theorem dX12_readPart_267 : decode cX12_readPart 267 = .ok (.iconst 0, 1) := by decide +kernel
theorem dX12_readPart_268 : decode cX12_readPart 268 = .ok (.ireturn, 1) := by decide +kernel
theorem dX12_readPart_269 : decode cX12_readPart 269 = .ok (.aload_n 0, 1) := by decide +kernel
theorem dX12_readPart_270 : decode cX12_readPart 270 = .ok (.getfield 22, 3) := by decide +kernel
theorem dX12_readPart_273 : decode cX12_readPart 273 = .ok (.iload_n 3, 1) := by decide +kernel
theorem dX12_readPart_274 : decode cX12_readPart 274 = .ok (.bipush 7, 2) := by decide +kernel
theorem dX12_readPart_276 : decode cX12_readPart 276 = .ok (.iadd, 1) := by decide +kernel
theorem dX12_readPart_277 : decode cX12_readPart 277 = .ok (.aload_n 0, 1) := by decide +kernel
theorem dX12_readPart_278 : decode cX12_readPart 278 = .ok (.getfield 143, 3) := by decide +kernel
theorem dX12_readPart_281 : decode cX12_readPart 281 = .ok (.iastore, 1) := by decide +kernel
theorem dX12_readPart_282 : decode cX12_readPart 282 = .ok (.aload_n 0, 1) := by decide +kernel
theorem dX12_readPart_283 : decode cX12_readPart 283 = .ok (.invokevirtual 181, 3) := by decide +kernel
theorem dX12_readPart_286 : decode cX12_readPart 286 = .ok (.ifCond .ne 5, 3) := by decide +kernel
theorem dX12_readPart_289 : decode cX12_readPart 289 = .ok (.iconst 1, 1) := by decide +kernel
theorem dX12_readPart_290 : decode cX12_readPart 290 = .ok (.ireturn, 1) := by decide +kernel
theorem dX12_readPart_291 : decode cX12_readPart 291 = .ok (.aload_n 0, 1) := by decide +kernel
theorem dX12_readPart_292 : decode cX12_readPart 292 = .ok (.invokevirtual 146, 3) := by decide +kernel
theorem dX12_readPart_295 : decode cX12_readPart 295 = .ok (.aload_n 0, 1) := by decide +kernel
theorem dX12_readPart_296 : decode cX12_readPart 296 = .ok (.iload_n 3, 1) := by decide +kernel
theorem dX12_readPart_297 : decode cX12_readPart 297 = .ok (.iload 4, 2) := by decide +kernel
theorem dX12_readPart_299 : decode cX12_readPart 299 = .ok (.invokevirtual 211, 3) := by decide +kernel
theorem dX12_readPart_302 : decode cX12_readPart 302 = .ok (.ireturn, 1) := by decide +kernel
def E_X12_readPart_45 (G : GT) (d : Nat) (h0 hb : PH) (l0 : Nat) (l1 : Int32) (l2 : Int32) (l3 : Int32) (Q : Int32 → PH → Prop) (s : Int32 × PH) : Prop := qEx hb s.2 ∧ qn s.2 = qn hb ∧ qz s.2 = qz hb → Ex G (qrm (6 + d) 0 0) mX12_readPart (qn h0) (qz h0) (ZN G h0 0 0 (qqb Q)) 45 [(0, .ref l0), (1, .int l1), (2, .int l2), (3, .int l3), (4, .int s.1)] [] s.2
def E_X12_readPart_162 (G : GT) (d : Nat) (h0 hb : PH) (l0 : Nat) (l1 : Int32) (l3 : Int32) (l4 : Int32) (Q : Int32 → PH → Prop) (s : Int32 × PH) : Prop := qEx hb s.2 ∧ qn s.2 = qn hb ∧ qz s.2 = qz hb → Ex G (qrm (6 + d) 0 0) mX12_readPart (qn h0) (qz h0) (ZN G h0 0 0 (qqb Q)) 162 [(0, .ref l0), (1, .int l1), (3, .int l3), (4, .int l4), (5, .int s.1)] [] s.2
def wp_X12_readPart_217 (l0 : Nat) (l3 : Int32) (l4 : Int32)  (h : PH) (Q : Int32 → PH → Prop) : Prop := (wp_X12_readFrom l0 h (fun r95 h94 => ((r95 = 0 → Q 0 h94) ∧ (¬ (r95 = 0) → (wp_X12_readSpan l0 l3 l4 h94 (fun r98 h97 => ((r98 = 0 → Q 0 h97) ∧ (¬ (r98 = 0) → Q 1 h97))))))))
set_option maxHeartbeats 4000000 in
set_option maxRecDepth 100000 in
theorem sg_X12_readPart_217 (G : GT) (d : Nat) (h0 : PH) (l0 : Nat) (l3 : Int32) (l4 : Int32) (h : PH) (Q : Int32 → PH → Prop) (hex : qEx h0 h) (hnn : qn h = qn h0 + 0) (hzz : qz h = qz h0 + 0) (okl0 : qOK h 11 l0) (hwp : wp_X12_readPart_217 l0 l3 l4 h Q) : Ex G (qrm (6 + d) 0 0) mX12_readPart (qn h0) (qz h0) (ZN G h0 0 0 (qqb Q)) 217 [(0, .ref l0), (3, .int l3), (4, .int l4)] [] h := by
  unfold wp_X12_readPart_217 at hwp
  refine x_aload_n (pc := 217) dX12_readPart_217 rfl ?_
  refine x_invV (As := []) (st := []) (pc := 218) dX12_readPart_218 lRX12_208 fX12_readFrom vX12_readFrom okl0 rfl (Nat.le_of_ble_eq_true rfl) (q_R (by omega) (by decide)) (q_C hnn hzz (by decide) (by decide)) (sn_X12_readFrom G (d + 2) l0 h _ okl0 hwp) (k_b (fun r95 h94 hwp zbr95 cxh94 => ?_))
  have hex := hex.tr cxh94.1
  have hnn : qn h94 = qn h0 + 0 := by have := cxh94.2.1; omega
  have hzz : qz h94 = qz h0 + 0 := by have := cxh94.2.2; omega
  have okl0 := okl0.ex cxh94.1
  refine x_if_eq (tgt := 238) (pc := 221) dX12_readPart_221 (by decide) (fun c96 => ?_) (fun c96 => ?_)
  · have hwp := hwp.1 c96
    refine x_iconst (v := 0) (pc := 238) dX12_readPart_238 (by decide) ?_
    exact x_zret (pc := 239) dX12_readPart_239 rfl hex hnn hzz (by decide) ⟨_, rfl, by decide, hwp⟩
  · have hwp := hwp.2 c96
    refine x_aload_n (pc := 224) dX12_readPart_224 rfl ?_
    refine x_iload_n (pc := 225) dX12_readPart_225 rfl ?_
    refine x_iload (pc := 226) dX12_readPart_226 rfl ?_
    refine x_invV (As := [.int l3, .int l4]) (st := []) (pc := 228) dX12_readPart_228 lRX12_211 fX12_readSpan vX12_readSpan okl0 rfl (Nat.le_of_ble_eq_true rfl) (q_R (by omega) (by decide)) (q_C hnn hzz (by decide) (by decide)) (sn_X12_readSpan G (d + 1) l0 l3 l4 h94 _ okl0 hwp) (k_b (fun r98 h97 hwp zbr98 cxh97 => ?_))
    have hex := hex.tr cxh97.1
    have hnn : qn h97 = qn h0 + 0 := by have := cxh97.2.1; omega
    have hzz : qz h97 = qz h0 + 0 := by have := cxh97.2.2; omega
    have okl0 := okl0.ex cxh97.1
    refine x_if_eq (tgt := 238) (pc := 231) dX12_readPart_231 (by decide) (fun c99 => ?_) (fun c99 => ?_)
    · have hwp := hwp.1 c99
      refine x_iconst (v := 0) (pc := 238) dX12_readPart_238 (by decide) ?_
      exact x_zret (pc := 239) dX12_readPart_239 rfl hex hnn hzz (by decide) ⟨_, rfl, by decide, hwp⟩
    · have hwp := hwp.2 c99
      refine x_iconst (v := 1) (pc := 234) dX12_readPart_234 (by decide) ?_
      refine x_goto (tgt := 239) (pc := 235) dX12_readPart_235 (by decide) ?_
      exact x_zret (pc := 239) dX12_readPart_239 rfl hex hnn hzz (by decide) ⟨_, rfl, by decide, hwp⟩
def wb_X12_readPart_162 (l0 : Nat) (l1 : Int32) (l3 : Int32) (l4 : Int32)  (Q : Int32 → PH → Prop) (bk162 : Int32 × PH → Prop) (l5 : Int32) (h : PH) : Prop := ((7 < l5 → (∃ b57, qR h l0 16 = some b57 ∧ (vp_in 1 (qL h b57) ∧ (vp_in 1 (qL h b57) ∧ ∀ h60, h60 = qsI h b57 (1 : Int32).toNatClampNeg ((qI h b57 (1 : Int32).toNatClampNeg) + 1) → ((¬ l1 = 0 → ((l1 = 1 → (wp_X12_readPart_217 l0 l3 l4 h60 Q)) ∧ (¬ (l1 = 1) → ((¬ l1 = 3 → ((¬ l1 = 4 → (wp_X12_at h60 (fun r67 h66 => (wp_X12_readKey l0 r67 h66 (fun r69 h68 => ((r69 = 0 → Q 0 h68) ∧ (¬ (r69 = 0) → (wp_X12_readNumber l0 0 l4 h68 (fun r72 h71 => ((¬ r72 = 0 → (∃ b74, qR h71 l0 17 = some b74 ∧ (vp_in (l3 + 7) (qL h71 b74) ∧ ∀ h76, h76 = qsI h71 b74 (l3 + 7).toNatClampNeg (qI h71 l0 13) → (wp_X12_isShut l0 h76 (fun r79 h78 => ((¬ r79 = 0 → (wp_X12_go l0 h78 (fun h81 => (wp_X12_readSpan l0 l3 l4 h81 (fun r84 h83 => ((r84 = 0 ∨ r84 = 1) ∧ Q r84 h83)))))) ∧ (r79 = 0 → Q 1 h78))))))) ∧ (r72 = 0 → Q 0 h71))))))))))) ∧ (l1 = 4 → Q 1 h60))) ∧ (l1 = 3 → (wp_X12_readPart_217 l0 l3 l4 h60 Q)))))) ∧ (l1 = 0 → (wp_X12_readWeight l0 l3 l4 h60 (fun r87 h86 => ((r87 = 0 ∨ r87 = 1) ∧ Q r87 h86))))))))) ∧ (¬ (7 < l5) → (∃ b89, qR h l0 17 = some b89 ∧ (vp_in (l3 + l5) (qL h b89) ∧ ∀ h91, h91 = qsI h b89 (l3 + l5).toNatClampNeg (-1) → ∀ v93 : Int32, v93 = l5 + 1 → bk162 (v93, h91)))))
def wp_X12_readPart_162 (l0 : Nat) (l1 : Int32) (l3 : Int32) (l4 : Int32)  (Q : Int32 → PH → Prop) (bk162 : Int32 × PH → Prop) (s : Int32 × PH) : Prop := wb_X12_readPart_162 l0 l1 l3 l4 Q bk162 s.1 s.2
set_option maxHeartbeats 4000000 in
set_option maxRecDepth 100000 in
theorem bd_X12_readPart_162 (G : GT) (d : Nat) (h0 hb : PH) (l0 : Nat) (l1 : Int32) (l3 : Int32) (l4 : Int32) (Q : Int32 → PH → Prop)  (hex : qEx h0 hb) (hnn : qn hb = qn h0 + 0) (hzz : qz hb = qz h0 + 0) (okl0 : qOK hb 11 l0) (bk162 : Int32 × PH → Prop) (hbk162 : ∀ s2, bk162 s2 → E_X12_readPart_162 G d h0 hb l0 l1 l3 l4 Q s2) (l5 : Int32) (h : PH) (hwp : wb_X12_readPart_162 l0 l1 l3 l4 Q bk162 l5 h) (hx162 : qEx hb h) (hn162 : qn h = qn hb) (hz162 : qz h = qz hb) : Ex G (qrm (6 + d) 0 0) mX12_readPart (qn h0) (qz h0) (ZN G h0 0 0 (qqb Q)) 162 [(0, .ref l0), (1, .int l1), (3, .int l3), (4, .int l4), (5, .int l5)] [] h := by
  unfold wb_X12_readPart_162 at hwp
  have hex := hex.tr hx162
  have hnn := hn162.trans hnn
  have hzz := hz162.trans hzz
  have okl0 := okl0.ex hx162
  refine x_iload (pc := 162) dX12_readPart_162 rfl ?_
  refine x_bipush (v := 7) (pc := 164) dX12_readPart_164 (by decide) ?_
  refine x_icmp_gt (tgt := 185) (pc := 166) dX12_readPart_166 (by decide) (fun c56 => ?_) (fun c56 => ?_)
  · have hwp := hwp.1 c56
    refine x_aload_n (pc := 185) dX12_readPart_185 rfl ?_
    obtain ⟨b57, e58, hwp⟩ := hwp
    refine x_getR (pc := 186) dX12_readPart_186 qRX12_19 okl0 e58 (fun okb57 => ?_)
    refine x_iconst (v := 1) (pc := 189) dX12_readPart_189 (by decide) ?_
    refine x_dup2 (pc := 190) dX12_readPart_190 rfl rfl ?_
    obtain ⟨i59, hwp⟩ := hwp
    refine x_iaload (pc := 191) dX12_readPart_191 okb57 i59 ?_
    refine x_iconst (v := 1) (pc := 192) dX12_readPart_192 (by decide) ?_
    refine x_iadd (pc := 193) dX12_readPart_193 ?_
    obtain ⟨i61, hwp⟩ := hwp
    refine y_iastore (pc := 194) dX12_readPart_194 okb57 i61 (fun h60 eh60 nxh60 => ?_)
    have hwp := hwp h60 eh60
    have hex := hex.tr nxh60.1
    have hnn := nxh60.2.1.trans hnn
    have hzz := nxh60.2.2.trans hzz
    have hx162 := hx162.tr nxh60.1
    have hn162 := nxh60.2.1.trans hn162
    have hz162 := nxh60.2.2.trans hz162
    have okl0 := okl0.ex nxh60.1
    have okb57 := okb57.ex nxh60.1
    refine x_iload_n (pc := 195) dX12_readPart_195 rfl ?_
    refine x_if_ne (tgt := 207) (pc := 196) dX12_readPart_196 (by decide) (fun c62 => ?_) (fun c62 => ?_)
    · have hwp := hwp.1 c62
      refine x_iload_n (pc := 207) dX12_readPart_207 rfl ?_
      refine x_iconst (v := 1) (pc := 208) dX12_readPart_208 (by decide) ?_
      refine x_icmp_eq (tgt := 217) (pc := 209) dX12_readPart_209 (by decide) (fun c63 => ?_) (fun c63 => ?_)
      · have hwp := hwp.1 c63
        refine x_sub [0, 2, 3] rfl ?_
        exact sg_X12_readPart_217 G d h0 l0 l3 l4 h60 Q hex hnn hzz okl0 hwp
      · have hwp := hwp.2 c63
        refine x_iload_n (pc := 212) dX12_readPart_212 rfl ?_
        refine x_iconst (v := 3) (pc := 213) dX12_readPart_213 (by decide) ?_
        refine x_icmp_ne (tgt := 240) (pc := 214) dX12_readPart_214 (by decide) (fun c64 => ?_) (fun c64 => ?_)
        · have hwp := hwp.1 c64
          refine x_iload_n (pc := 240) dX12_readPart_240 rfl ?_
          refine x_iconst (v := 4) (pc := 241) dX12_readPart_241 (by decide) ?_
          refine x_icmp_ne (tgt := 247) (pc := 242) dX12_readPart_242 (by decide) (fun c65 => ?_) (fun c65 => ?_)
          · have hwp := hwp.1 c65
            refine x_aload_n (pc := 247) dX12_readPart_247 rfl ?_
            refine x_invS (As := []) (st := [.ref l0]) (pc := 248) dX12_readPart_248 lRX12_187 fX12_at sX12_at rfl (Nat.le_of_ble_eq_true rfl) (q_R (by omega) (by decide)) (q_C hnn hzz (by decide) (by decide)) (sn_X12_at G (d + 4) h60 _  hwp) (k_j (fun r67 h66 hwp cxh66 => ?_))
            have hex := hex.tr cxh66.1
            have hnn : qn h66 = qn h0 + 0 := by have := cxh66.2.1; omega
            have hzz : qz h66 = qz h0 + 0 := by have := cxh66.2.2; omega
            have hx162 := hx162.tr cxh66.1
            have hn162 : qn h66 = qn hb := by have := cxh66.2.1; omega
            have hz162 : qz h66 = qz hb := by have := cxh66.2.2; omega
            have okl0 := okl0.ex cxh66.1
            have okb57 := okb57.ex cxh66.1
            refine x_invV (As := [.long r67]) (st := []) (pc := 251) dX12_readPart_251 lRX12_156 fX12_readKey vX12_readKey okl0 rfl (Nat.le_of_ble_eq_true rfl) (q_R (by omega) (by decide)) (q_C hnn hzz (by decide) (by decide)) (sn_X12_readKey G (d + 3) l0 r67 h66 _ okl0 hwp) (k_b (fun r69 h68 hwp zbr69 cxh68 => ?_))
            have hex := hex.tr cxh68.1
            have hnn : qn h68 = qn h0 + 0 := by have := cxh68.2.1; omega
            have hzz : qz h68 = qz h0 + 0 := by have := cxh68.2.2; omega
            have hx162 := hx162.tr cxh68.1
            have hn162 : qn h68 = qn hb := by have := cxh68.2.1; omega
            have hz162 : qz h68 = qz hb := by have := cxh68.2.2; omega
            have okl0 := okl0.ex cxh68.1
            have okb57 := okb57.ex cxh68.1
            refine x_if_eq (tgt := 267) (pc := 254) dX12_readPart_254 (by decide) (fun c70 => ?_) (fun c70 => ?_)
            · have hwp := hwp.1 c70
              refine x_iconst (v := 0) (pc := 267) dX12_readPart_267 (by decide) ?_
              exact x_zret (pc := 268) dX12_readPart_268 rfl hex hnn hzz (by decide) ⟨_, rfl, by decide, hwp⟩
            · have hwp := hwp.2 c70
              refine x_aload_n (pc := 257) dX12_readPart_257 rfl ?_
              refine x_iconst (v := 0) (pc := 258) dX12_readPart_258 (by decide) ?_
              refine x_iload (pc := 259) dX12_readPart_259 rfl ?_
              refine x_invV (As := [.int 0, .int l4]) (st := []) (pc := 261) dX12_readPart_261 lRX12_201 fX12_readNumber vX12_readNumber okl0 rfl (Nat.le_of_ble_eq_true rfl) (q_R (by omega) (by decide)) (q_C hnn hzz (by decide) (by decide)) (sn_X12_readNumber G (d + 3) l0 0 l4 h68 _ okl0 hwp) (k_b (fun r72 h71 hwp zbr72 cxh71 => ?_))
              have hex := hex.tr cxh71.1
              have hnn : qn h71 = qn h0 + 0 := by have := cxh71.2.1; omega
              have hzz : qz h71 = qz h0 + 0 := by have := cxh71.2.2; omega
              have hx162 := hx162.tr cxh71.1
              have hn162 : qn h71 = qn hb := by have := cxh71.2.1; omega
              have hz162 : qz h71 = qz hb := by have := cxh71.2.2; omega
              have okl0 := okl0.ex cxh71.1
              have okb57 := okb57.ex cxh71.1
              refine x_if_ne (tgt := 269) (pc := 264) dX12_readPart_264 (by decide) (fun c73 => ?_) (fun c73 => ?_)
              · have hwp := hwp.1 c73
                refine x_aload_n (pc := 269) dX12_readPart_269 rfl ?_
                obtain ⟨b74, e75, hwp⟩ := hwp
                refine x_getR (pc := 270) dX12_readPart_270 qRX12_22 okl0 e75 (fun okb74 => ?_)
                refine x_iload_n (pc := 273) dX12_readPart_273 rfl ?_
                refine x_bipush (v := 7) (pc := 274) dX12_readPart_274 (by decide) ?_
                refine x_iadd (pc := 276) dX12_readPart_276 ?_
                refine x_aload_n (pc := 277) dX12_readPart_277 rfl ?_
                refine x_getI (pc := 278) dX12_readPart_278 qRX12_143 okl0 (by decide) ?_
                obtain ⟨i77, hwp⟩ := hwp
                refine y_iastore (pc := 281) dX12_readPart_281 okb74 i77 (fun h76 eh76 nxh76 => ?_)
                have hwp := hwp h76 eh76
                have hex := hex.tr nxh76.1
                have hnn := nxh76.2.1.trans hnn
                have hzz := nxh76.2.2.trans hzz
                have hx162 := hx162.tr nxh76.1
                have hn162 := nxh76.2.1.trans hn162
                have hz162 := nxh76.2.2.trans hz162
                have okl0 := okl0.ex nxh76.1
                have okb57 := okb57.ex nxh76.1
                have okb74 := okb74.ex nxh76.1
                refine x_aload_n (pc := 282) dX12_readPart_282 rfl ?_
                refine x_invV (As := []) (st := []) (pc := 283) dX12_readPart_283 lRX12_181 fX12_isShut vX12_isShut okl0 rfl (Nat.le_of_ble_eq_true rfl) (q_R (by omega) (by decide)) (q_C hnn hzz (by decide) (by decide)) (sn_X12_isShut G (d + 4) l0 h76 _ okl0 hwp) (k_b (fun r79 h78 hwp zbr79 cxh78 => ?_))
                have hex := hex.tr cxh78.1
                have hnn : qn h78 = qn h0 + 0 := by have := cxh78.2.1; omega
                have hzz : qz h78 = qz h0 + 0 := by have := cxh78.2.2; omega
                have hx162 := hx162.tr cxh78.1
                have hn162 : qn h78 = qn hb := by have := cxh78.2.1; omega
                have hz162 : qz h78 = qz hb := by have := cxh78.2.2; omega
                have okl0 := okl0.ex cxh78.1
                have okb57 := okb57.ex cxh78.1
                have okb74 := okb74.ex cxh78.1
                refine x_if_ne (tgt := 291) (pc := 286) dX12_readPart_286 (by decide) (fun c80 => ?_) (fun c80 => ?_)
                · have hwp := hwp.1 c80
                  refine x_aload_n (pc := 291) dX12_readPart_291 rfl ?_
                  refine x_invV (As := []) (st := []) (pc := 292) dX12_readPart_292 lRX12_146 fX12_go vX12_go okl0 rfl (Nat.le_of_ble_eq_true rfl) (q_R (by omega) (by decide)) (q_C hnn hzz (by decide) (by decide)) (sn_X12_go G (d + 4) l0 h78 _ okl0 hwp) (k_v (fun h81 hwp cxh81 => ?_))
                  have hex := hex.tr cxh81.1
                  have hnn : qn h81 = qn h0 + 0 := by have := cxh81.2.1; omega
                  have hzz : qz h81 = qz h0 + 0 := by have := cxh81.2.2; omega
                  have hx162 := hx162.tr cxh81.1
                  have hn162 : qn h81 = qn hb := by have := cxh81.2.1; omega
                  have hz162 : qz h81 = qz hb := by have := cxh81.2.2; omega
                  have okl0 := okl0.ex cxh81.1
                  have okb57 := okb57.ex cxh81.1
                  have okb74 := okb74.ex cxh81.1
                  refine x_aload_n (pc := 295) dX12_readPart_295 rfl ?_
                  refine x_iload_n (pc := 296) dX12_readPart_296 rfl ?_
                  refine x_iload (pc := 297) dX12_readPart_297 rfl ?_
                  refine x_invV (As := [.int l3, .int l4]) (st := []) (pc := 299) dX12_readPart_299 lRX12_211 fX12_readSpan vX12_readSpan okl0 rfl (Nat.le_of_ble_eq_true rfl) (q_R (by omega) (by decide)) (q_C hnn hzz (by decide) (by decide)) (sn_X12_readSpan G (d + 1) l0 l3 l4 h81 _ okl0 hwp) (k_b (fun r84 h83 hwp zbr84 cxh83 => ?_))
                  have hex := hex.tr cxh83.1
                  have hnn : qn h83 = qn h0 + 0 := by have := cxh83.2.1; omega
                  have hzz : qz h83 = qz h0 + 0 := by have := cxh83.2.2; omega
                  have hx162 := hx162.tr cxh83.1
                  have hn162 : qn h83 = qn hb := by have := cxh83.2.1; omega
                  have hz162 : qz h83 = qz hb := by have := cxh83.2.2; omega
                  have okl0 := okl0.ex cxh83.1
                  have okb57 := okb57.ex cxh83.1
                  have okb74 := okb74.ex cxh83.1
                  exact x_zret (pc := 302) dX12_readPart_302 rfl hex hnn hzz hwp.1 ⟨_, rfl, hwp.1, hwp.2⟩
                · have hwp := hwp.2 c80
                  refine x_iconst (v := 1) (pc := 289) dX12_readPart_289 (by decide) ?_
                  exact x_zret (pc := 290) dX12_readPart_290 rfl hex hnn hzz (by decide) ⟨_, rfl, by decide, hwp⟩
              · have hwp := hwp.2 c73
                refine x_iconst (v := 0) (pc := 267) dX12_readPart_267 (by decide) ?_
                exact x_zret (pc := 268) dX12_readPart_268 rfl hex hnn hzz (by decide) ⟨_, rfl, by decide, hwp⟩
          · have hwp := hwp.2 c65
            refine x_iconst (v := 1) (pc := 245) dX12_readPart_245 (by decide) ?_
            exact x_zret (pc := 246) dX12_readPart_246 rfl hex hnn hzz (by decide) ⟨_, rfl, by decide, hwp⟩
        · have hwp := hwp.2 c64
          refine x_sub [0, 2, 3] rfl ?_
          exact sg_X12_readPart_217 G d h0 l0 l3 l4 h60 Q hex hnn hzz okl0 hwp
    · have hwp := hwp.2 c62
      refine x_aload_n (pc := 199) dX12_readPart_199 rfl ?_
      refine x_iload_n (pc := 200) dX12_readPart_200 rfl ?_
      refine x_iload (pc := 201) dX12_readPart_201 rfl ?_
      refine x_invV (As := [.int l3, .int l4]) (st := []) (pc := 203) dX12_readPart_203 lRX12_205 fX12_readWeight vX12_readWeight okl0 rfl (Nat.le_of_ble_eq_true rfl) (q_R (by omega) (by decide)) (q_C hnn hzz (by decide) (by decide)) (sn_X12_readWeight G (d + 0) l0 l3 l4 h60 _ okl0 hwp) (k_b (fun r87 h86 hwp zbr87 cxh86 => ?_))
      have hex := hex.tr cxh86.1
      have hnn : qn h86 = qn h0 + 0 := by have := cxh86.2.1; omega
      have hzz : qz h86 = qz h0 + 0 := by have := cxh86.2.2; omega
      have hx162 := hx162.tr cxh86.1
      have hn162 : qn h86 = qn hb := by have := cxh86.2.1; omega
      have hz162 : qz h86 = qz hb := by have := cxh86.2.2; omega
      have okl0 := okl0.ex cxh86.1
      have okb57 := okb57.ex cxh86.1
      exact x_zret (pc := 206) dX12_readPart_206 rfl hex hnn hzz hwp.1 ⟨_, rfl, hwp.1, hwp.2⟩
  · have hwp := hwp.2 c56
    refine x_aload_n (pc := 169) dX12_readPart_169 rfl ?_
    obtain ⟨b89, e90, hwp⟩ := hwp
    refine x_getR (pc := 170) dX12_readPart_170 qRX12_22 okl0 e90 (fun okb89 => ?_)
    refine x_iload_n (pc := 173) dX12_readPart_173 rfl ?_
    refine x_iload (pc := 174) dX12_readPart_174 rfl ?_
    refine x_iadd (pc := 176) dX12_readPart_176 ?_
    refine x_iconst (v := (-1)) (pc := 177) dX12_readPart_177 (by decide) ?_
    obtain ⟨i92, hwp⟩ := hwp
    refine y_iastore (pc := 178) dX12_readPart_178 okb89 i92 (fun h91 eh91 nxh91 => ?_)
    have hwp := hwp h91 eh91
    have hex := hex.tr nxh91.1
    have hnn := nxh91.2.1.trans hnn
    have hzz := nxh91.2.2.trans hzz
    have hx162 := hx162.tr nxh91.1
    have hn162 := nxh91.2.1.trans hn162
    have hz162 := nxh91.2.2.trans hz162
    have okl0 := okl0.ex nxh91.1
    have okb89 := okb89.ex nxh91.1
    refine y_iinc (c := 1) (pc := 179) dX12_readPart_179 rfl (by decide) (by decide) (fun v93 ev93 => ?_)
    have hwp := hwp v93 ev93
    refine x_lvE (lv2 := [(5, .int v93), (0, .ref l0), (1, .int l1), (3, .int l3), (4, .int l4)]) rfl ?_
    refine x_goto (tgt := 162) (pc := 182) dX12_readPart_182 (by decide) ?_
    refine x_sub [1, 2, 3, 4, 0] rfl ?_
    exact hbk162 _ hwp ⟨hx162, hn162, hz162⟩
theorem lp_X12_readPart_162 (G : GT) (d : Nat) (h0 hb : PH) (l0 : Nat) (l1 : Int32) (l3 : Int32) (l4 : Int32) (Q : Int32 → PH → Prop)  (hex : qEx h0 hb) (hnn : qn hb = qn h0 + 0) (hzz : qz hb = qz h0 + 0) (okl0 : qOK hb 11 l0) {s : Int32 × PH} (hwp : qLoop (wp_X12_readPart_162 l0 l1 l3 l4 Q) s) : E_X12_readPart_162 G d h0 hb l0 l1 l3 l4 Q s :=
  qLoop.use (E := E_X12_readPart_162 G d h0 hb l0 l1 l3 l4 Q) (fun back s hbk hw hx => bd_X12_readPart_162 G d h0 hb l0 l1 l3 l4 Q hex hnn hzz okl0 back hbk s.1 s.2 hw hx.1 hx.2.1 hx.2.2) hwp
def wb_X12_readPart_45 (l0 : Nat) (l1 : Int32) (l2 : Int32) (l3 : Int32)  (Q : Int32 → PH → Prop) (bk45 : Int32 × PH → Prop) (l4 : Int32) (h : PH) : Prop := ((l2 ≤ l4 → (∃ b20, qR h l0 18 = some b20 ∧ (vp_in l2 (qL h b20) ∧ ∀ h22, h22 = qsJ h b20 l2.toNatClampNeg (qJ h l0 12) → (wp_X12_go l0 h22 (fun h24 => (∃ b26, qR h24 l0 14 = some b26 ∧ (vp_in 1 (qL h24 b26) ∧ ∀ v29 : Int32, v29 = (qI h24 b26 (1 : Int32).toNatClampNeg) - 1 → (wp_X12_readNumber l0 0 v29 h24 (fun r31 h30 => ((¬ r31 = 0 → (∃ b33, qR h30 l0 17 = some b33 ∧ (vp_in (l3 + 1) (qL h30 b33) ∧ ∀ h35, h35 = qsI h30 b33 (l3 + 1).toNatClampNeg (qI h30 l0 13) → (wp_X12_readNumber l0 1 99 h35 (fun r38 h37 => ((¬ r38 = 0 → (∃ b40, qR h37 l0 17 = some b40 ∧ (vp_in (l3 + 0) (qL h37 b40) ∧ ∀ h42, h42 = qsI h37 b40 (l3 + 0).toNatClampNeg l1 → (∃ b44, qR h42 l0 17 = some b44 ∧ (vp_in (l3 + 2) (qL h42 b44) ∧ ∀ h46, h46 = qsI h42 b44 (l3 + 2).toNatClampNeg (qI h42 l0 13) → (qLoop (wp_X12_readPart_162 l0 l1 l3 v29 Q) (3, h46))))))) ∧ (r38 = 0 → Q 0 h37))))))) ∧ (r31 = 0 → Q 0 h30))))))))))) ∧ (¬ (l2 ≤ l4) → (∃ b48, qR h l0 18 = some b48 ∧ (vp_in l4 (qL h b48) ∧ ((¬ (lg_cmp (qJ h b48 l4.toNatClampNeg) (qJ h l0 12)) = 0 → ∀ v52 : Int32, v52 = l4 + 1 → bk45 (v52, h)) ∧ ((lg_cmp (qJ h b48 l4.toNatClampNeg) (qJ h l0 12)) = 0 → (wp_X12_bad l0 3 h (fun r54 h53 => ((r54 = 0 ∨ r54 = 1) ∧ Q r54 h53)))))))))
def wp_X12_readPart_45 (l0 : Nat) (l1 : Int32) (l2 : Int32) (l3 : Int32)  (Q : Int32 → PH → Prop) (bk45 : Int32 × PH → Prop) (s : Int32 × PH) : Prop := wb_X12_readPart_45 l0 l1 l2 l3 Q bk45 s.1 s.2
set_option maxHeartbeats 4000000 in
set_option maxRecDepth 100000 in
theorem bd_X12_readPart_45 (G : GT) (d : Nat) (h0 hb : PH) (l0 : Nat) (l1 : Int32) (l2 : Int32) (l3 : Int32) (Q : Int32 → PH → Prop)  (hex : qEx h0 hb) (hnn : qn hb = qn h0 + 0) (hzz : qz hb = qz h0 + 0) (okl0 : qOK hb 11 l0) (bk45 : Int32 × PH → Prop) (hbk45 : ∀ s2, bk45 s2 → E_X12_readPart_45 G d h0 hb l0 l1 l2 l3 Q s2) (l4 : Int32) (h : PH) (hwp : wb_X12_readPart_45 l0 l1 l2 l3 Q bk45 l4 h) (hx45 : qEx hb h) (hn45 : qn h = qn hb) (hz45 : qz h = qz hb) : Ex G (qrm (6 + d) 0 0) mX12_readPart (qn h0) (qz h0) (ZN G h0 0 0 (qqb Q)) 45 [(0, .ref l0), (1, .int l1), (2, .int l2), (3, .int l3), (4, .int l4)] [] h := by
  unfold wb_X12_readPart_45 at hwp
  have hex := hex.tr hx45
  have hnn := hn45.trans hnn
  have hzz := hz45.trans hzz
  have okl0 := okl0.ex hx45
  refine x_iload (pc := 45) dX12_readPart_45 rfl ?_
  refine x_iload_n (pc := 47) dX12_readPart_47 rfl ?_
  refine x_icmp_ge (tgt := 78) (pc := 48) dX12_readPart_48 (by decide) (fun c19 => ?_) (fun c19 => ?_)
  · have hwp := hwp.1 c19
    refine x_aload_n (pc := 78) dX12_readPart_78 rfl ?_
    obtain ⟨b20, e21, hwp⟩ := hwp
    refine x_getR (pc := 79) dX12_readPart_79 qRX12_25 okl0 e21 (fun okb20 => ?_)
    refine x_iload_n (pc := 82) dX12_readPart_82 rfl ?_
    refine x_aload_n (pc := 83) dX12_readPart_83 rfl ?_
    refine x_getJ (pc := 84) dX12_readPart_84 qRX12_111 okl0 ?_
    obtain ⟨i23, hwp⟩ := hwp
    refine y_lastore (pc := 87) dX12_readPart_87 okb20 i23 (fun h22 eh22 nxh22 => ?_)
    have hwp := hwp h22 eh22
    have hex := hex.tr nxh22.1
    have hnn := nxh22.2.1.trans hnn
    have hzz := nxh22.2.2.trans hzz
    have hx45 := hx45.tr nxh22.1
    have hn45 := nxh22.2.1.trans hn45
    have hz45 := nxh22.2.2.trans hz45
    have okl0 := okl0.ex nxh22.1
    have okb20 := okb20.ex nxh22.1
    refine x_aload_n (pc := 88) dX12_readPart_88 rfl ?_
    refine x_invV (As := []) (st := []) (pc := 89) dX12_readPart_89 lRX12_146 fX12_go vX12_go okl0 rfl (Nat.le_of_ble_eq_true rfl) (q_R (by omega) (by decide)) (q_C hnn hzz (by decide) (by decide)) (sn_X12_go G (d + 4) l0 h22 _ okl0 hwp) (k_v (fun h24 hwp cxh24 => ?_))
    have hex := hex.tr cxh24.1
    have hnn : qn h24 = qn h0 + 0 := by have := cxh24.2.1; omega
    have hzz : qz h24 = qz h0 + 0 := by have := cxh24.2.2; omega
    have hx45 := hx45.tr cxh24.1
    have hn45 : qn h24 = qn hb := by have := cxh24.2.1; omega
    have hz45 : qz h24 = qz hb := by have := cxh24.2.2; omega
    have okl0 := okl0.ex cxh24.1
    have okb20 := okb20.ex cxh24.1
    refine x_aload_n (pc := 92) dX12_readPart_92 rfl ?_
    obtain ⟨b26, e27, hwp⟩ := hwp
    refine x_getR (pc := 93) dX12_readPart_93 qRX12_13 okl0 e27 (fun okb26 => ?_)
    refine x_iconst (v := 1) (pc := 96) dX12_readPart_96 (by decide) ?_
    obtain ⟨i28, hwp⟩ := hwp
    refine x_iaload (pc := 97) dX12_readPart_97 okb26 i28 ?_
    refine x_iconst (v := 1) (pc := 98) dX12_readPart_98 (by decide) ?_
    refine x_isub (pc := 99) dX12_readPart_99 ?_
    refine x_nmI (fun v29 ev29 => ?_)
    have hwp := hwp v29 ev29
    refine x_istore (lv2 := [(4, .int v29), (0, .ref l0), (1, .int l1), (2, .int l2), (3, .int l3)]) (pc := 100) dX12_readPart_100 (by decide) rfl ?_
    refine x_aload_n (pc := 102) dX12_readPart_102 rfl ?_
    refine x_iconst (v := 0) (pc := 103) dX12_readPart_103 (by decide) ?_
    refine x_iload (pc := 104) dX12_readPart_104 rfl ?_
    refine x_invV (As := [.int 0, .int v29]) (st := []) (pc := 106) dX12_readPart_106 lRX12_201 fX12_readNumber vX12_readNumber okl0 rfl (Nat.le_of_ble_eq_true rfl) (q_R (by omega) (by decide)) (q_C hnn hzz (by decide) (by decide)) (sn_X12_readNumber G (d + 3) l0 0 v29 h24 _ okl0 hwp) (k_b (fun r31 h30 hwp zbr31 cxh30 => ?_))
    have hex := hex.tr cxh30.1
    have hnn : qn h30 = qn h0 + 0 := by have := cxh30.2.1; omega
    have hzz : qz h30 = qz h0 + 0 := by have := cxh30.2.2; omega
    have hx45 := hx45.tr cxh30.1
    have hn45 : qn h30 = qn hb := by have := cxh30.2.1; omega
    have hz45 : qz h30 = qz hb := by have := cxh30.2.2; omega
    have okl0 := okl0.ex cxh30.1
    have okb20 := okb20.ex cxh30.1
    have okb26 := okb26.ex cxh30.1
    refine x_if_ne (tgt := 114) (pc := 109) dX12_readPart_109 (by decide) (fun c32 => ?_) (fun c32 => ?_)
    · have hwp := hwp.1 c32
      refine x_aload_n (pc := 114) dX12_readPart_114 rfl ?_
      obtain ⟨b33, e34, hwp⟩ := hwp
      refine x_getR (pc := 115) dX12_readPart_115 qRX12_22 okl0 e34 (fun okb33 => ?_)
      refine x_iload_n (pc := 118) dX12_readPart_118 rfl ?_
      refine x_iconst (v := 1) (pc := 119) dX12_readPart_119 (by decide) ?_
      refine x_iadd (pc := 120) dX12_readPart_120 ?_
      refine x_aload_n (pc := 121) dX12_readPart_121 rfl ?_
      refine x_getI (pc := 122) dX12_readPart_122 qRX12_143 okl0 (by decide) ?_
      obtain ⟨i36, hwp⟩ := hwp
      refine y_iastore (pc := 125) dX12_readPart_125 okb33 i36 (fun h35 eh35 nxh35 => ?_)
      have hwp := hwp h35 eh35
      have hex := hex.tr nxh35.1
      have hnn := nxh35.2.1.trans hnn
      have hzz := nxh35.2.2.trans hzz
      have hx45 := hx45.tr nxh35.1
      have hn45 := nxh35.2.1.trans hn45
      have hz45 := nxh35.2.2.trans hz45
      have okl0 := okl0.ex nxh35.1
      have okb20 := okb20.ex nxh35.1
      have okb26 := okb26.ex nxh35.1
      have okb33 := okb33.ex nxh35.1
      refine x_aload_n (pc := 126) dX12_readPart_126 rfl ?_
      refine x_iconst (v := 1) (pc := 127) dX12_readPart_127 (by decide) ?_
      refine x_bipush (v := 99) (pc := 128) dX12_readPart_128 (by decide) ?_
      refine x_invV (As := [.int 1, .int 99]) (st := []) (pc := 130) dX12_readPart_130 lRX12_201 fX12_readNumber vX12_readNumber okl0 rfl (Nat.le_of_ble_eq_true rfl) (q_R (by omega) (by decide)) (q_C hnn hzz (by decide) (by decide)) (sn_X12_readNumber G (d + 3) l0 1 99 h35 _ okl0 hwp) (k_b (fun r38 h37 hwp zbr38 cxh37 => ?_))
      have hex := hex.tr cxh37.1
      have hnn : qn h37 = qn h0 + 0 := by have := cxh37.2.1; omega
      have hzz : qz h37 = qz h0 + 0 := by have := cxh37.2.2; omega
      have hx45 := hx45.tr cxh37.1
      have hn45 : qn h37 = qn hb := by have := cxh37.2.1; omega
      have hz45 : qz h37 = qz hb := by have := cxh37.2.2; omega
      have okl0 := okl0.ex cxh37.1
      have okb20 := okb20.ex cxh37.1
      have okb26 := okb26.ex cxh37.1
      have okb33 := okb33.ex cxh37.1
      refine x_if_ne (tgt := 138) (pc := 133) dX12_readPart_133 (by decide) (fun c39 => ?_) (fun c39 => ?_)
      · have hwp := hwp.1 c39
        refine x_aload_n (pc := 138) dX12_readPart_138 rfl ?_
        obtain ⟨b40, e41, hwp⟩ := hwp
        refine x_getR (pc := 139) dX12_readPart_139 qRX12_22 okl0 e41 (fun okb40 => ?_)
        refine x_iload_n (pc := 142) dX12_readPart_142 rfl ?_
        refine x_iconst (v := 0) (pc := 143) dX12_readPart_143 (by decide) ?_
        refine x_iadd (pc := 144) dX12_readPart_144 ?_
        refine x_iload_n (pc := 145) dX12_readPart_145 rfl ?_
        obtain ⟨i43, hwp⟩ := hwp
        refine y_iastore (pc := 146) dX12_readPart_146 okb40 i43 (fun h42 eh42 nxh42 => ?_)
        have hwp := hwp h42 eh42
        have hex := hex.tr nxh42.1
        have hnn := nxh42.2.1.trans hnn
        have hzz := nxh42.2.2.trans hzz
        have hx45 := hx45.tr nxh42.1
        have hn45 := nxh42.2.1.trans hn45
        have hz45 := nxh42.2.2.trans hz45
        have okl0 := okl0.ex nxh42.1
        have okb20 := okb20.ex nxh42.1
        have okb26 := okb26.ex nxh42.1
        have okb33 := okb33.ex nxh42.1
        have okb40 := okb40.ex nxh42.1
        refine x_aload_n (pc := 147) dX12_readPart_147 rfl ?_
        obtain ⟨b44, e45, hwp⟩ := hwp
        refine x_getR (pc := 148) dX12_readPart_148 qRX12_22 okl0 e45 (fun okb44 => ?_)
        refine x_iload_n (pc := 151) dX12_readPart_151 rfl ?_
        refine x_iconst (v := 2) (pc := 152) dX12_readPart_152 (by decide) ?_
        refine x_iadd (pc := 153) dX12_readPart_153 ?_
        refine x_aload_n (pc := 154) dX12_readPart_154 rfl ?_
        refine x_getI (pc := 155) dX12_readPart_155 qRX12_143 okl0 (by decide) ?_
        obtain ⟨i47, hwp⟩ := hwp
        refine y_iastore (pc := 158) dX12_readPart_158 okb44 i47 (fun h46 eh46 nxh46 => ?_)
        have hwp := hwp h46 eh46
        have hex := hex.tr nxh46.1
        have hnn := nxh46.2.1.trans hnn
        have hzz := nxh46.2.2.trans hzz
        have hx45 := hx45.tr nxh46.1
        have hn45 := nxh46.2.1.trans hn45
        have hz45 := nxh46.2.2.trans hz45
        have okl0 := okl0.ex nxh46.1
        have okb20 := okb20.ex nxh46.1
        have okb26 := okb26.ex nxh46.1
        have okb33 := okb33.ex nxh46.1
        have okb40 := okb40.ex nxh46.1
        have okb44 := okb44.ex nxh46.1
        refine x_iconst (v := 3) (pc := 159) dX12_readPart_159 (by decide) ?_
        refine x_istore (lv2 := [(5, .int 3), (4, .int v29), (0, .ref l0), (1, .int l1), (2, .int l2), (3, .int l3)]) (pc := 160) dX12_readPart_160 (by decide) rfl ?_
        refine x_sub [2, 3, 5, 1, 0] rfl ?_
        exact lp_X12_readPart_162 G d h0 h46 l0 l1 l3 v29 Q hex hnn hzz okl0 hwp ⟨qEx.rf _, rfl, rfl⟩
      · have hwp := hwp.2 c39
        refine x_iconst (v := 0) (pc := 136) dX12_readPart_136 (by decide) ?_
        exact x_zret (pc := 137) dX12_readPart_137 rfl hex hnn hzz (by decide) ⟨_, rfl, by decide, hwp⟩
    · have hwp := hwp.2 c32
      refine x_iconst (v := 0) (pc := 112) dX12_readPart_112 (by decide) ?_
      exact x_zret (pc := 113) dX12_readPart_113 rfl hex hnn hzz (by decide) ⟨_, rfl, by decide, hwp⟩
  · have hwp := hwp.2 c19
    refine x_aload_n (pc := 51) dX12_readPart_51 rfl ?_
    obtain ⟨b48, e49, hwp⟩ := hwp
    refine x_getR (pc := 52) dX12_readPart_52 qRX12_25 okl0 e49 (fun okb48 => ?_)
    refine x_iload (pc := 55) dX12_readPart_55 rfl ?_
    obtain ⟨i50, hwp⟩ := hwp
    refine x_laload (pc := 57) dX12_readPart_57 okb48 i50 ?_
    refine x_aload_n (pc := 58) dX12_readPart_58 rfl ?_
    refine x_getJ (pc := 59) dX12_readPart_59 qRX12_111 okl0 ?_
    refine x_lcmp (pc := 62) dX12_readPart_62 ?_
    refine x_if_ne (tgt := 72) (pc := 63) dX12_readPart_63 (by decide) (fun c51 => ?_) (fun c51 => ?_)
    · have hwp := hwp.1 c51
      refine y_iinc (c := 1) (pc := 72) dX12_readPart_72 rfl (by decide) (by decide) (fun v52 ev52 => ?_)
      have hwp := hwp v52 ev52
      refine x_lvE (lv2 := [(4, .int v52), (0, .ref l0), (1, .int l1), (2, .int l2), (3, .int l3)]) rfl ?_
      refine x_goto (tgt := 45) (pc := 75) dX12_readPart_75 (by decide) ?_
      refine x_sub [1, 2, 3, 4, 0] rfl ?_
      exact hbk45 _ hwp ⟨hx45, hn45, hz45⟩
    · have hwp := hwp.2 c51
      refine x_aload_n (pc := 66) dX12_readPart_66 rfl ?_
      refine x_iconst (v := 3) (pc := 67) dX12_readPart_67 (by decide) ?_
      refine x_invV (As := [.int 3]) (st := []) (pc := 68) dX12_readPart_68 lRX12_136 fX12_bad vX12_bad okl0 rfl (Nat.le_of_ble_eq_true rfl) (q_R (by omega) (by decide)) (q_C hnn hzz (by decide) (by decide)) (sn_X12_bad G (d + 5) l0 3 h _ okl0 hwp) (k_b (fun r54 h53 hwp zbr54 cxh53 => ?_))
      have hex := hex.tr cxh53.1
      have hnn : qn h53 = qn h0 + 0 := by have := cxh53.2.1; omega
      have hzz : qz h53 = qz h0 + 0 := by have := cxh53.2.2; omega
      have hx45 := hx45.tr cxh53.1
      have hn45 : qn h53 = qn hb := by have := cxh53.2.1; omega
      have hz45 : qz h53 = qz hb := by have := cxh53.2.2; omega
      have okl0 := okl0.ex cxh53.1
      have okb48 := okb48.ex cxh53.1
      exact x_zret (pc := 71) dX12_readPart_71 rfl hex hnn hzz hwp.1 ⟨_, rfl, hwp.1, hwp.2⟩
theorem lp_X12_readPart_45 (G : GT) (d : Nat) (h0 hb : PH) (l0 : Nat) (l1 : Int32) (l2 : Int32) (l3 : Int32) (Q : Int32 → PH → Prop)  (hex : qEx h0 hb) (hnn : qn hb = qn h0 + 0) (hzz : qz hb = qz h0 + 0) (okl0 : qOK hb 11 l0) {s : Int32 × PH} (hwp : qLoop (wp_X12_readPart_45 l0 l1 l2 l3 Q) s) : E_X12_readPart_45 G d h0 hb l0 l1 l2 l3 Q s :=
  qLoop.use (E := E_X12_readPart_45 G d h0 hb l0 l1 l2 l3 Q) (fun back s hbk hw hx => bd_X12_readPart_45 G d h0 hb l0 l1 l2 l3 Q hex hnn hzz okl0 back hbk s.1 s.2 hw hx.1 hx.2.1 hx.2.2) hwp
def wp_X12_readPart (l0 : Nat) (l1 : Int32) (h : PH) (Q : Int32 → PH → Prop) : Prop := (∃ b1, qR h l0 16 = some b1 ∧ (vp_in 1 (qL h b1) ∧ ∀ v4 : Int32, v4 = qI h b1 (1 : Int32).toNatClampNeg → (wp_X12_slot 1 v4 h (fun r6 h5 => ((¬ v4 = 12 → (wp_X12_go l0 h5 (fun h8 => (wp_X12_isName l0 h8 (fun r11 h10 => ((¬ r11 = 0 → (qLoop (wp_X12_readPart_45 l0 l1 v4 r6 Q) (0, h10))) ∧ (r11 = 0 → (wp_X12_bad l0 1 h10 (fun r14 h13 => ((r14 = 0 ∨ r14 = 1) ∧ Q r14 h13)))))))))) ∧ (v4 = 12 → (wp_X12_bad l0 4 h5 (fun r17 h16 => ((r17 = 0 ∨ r17 = 1) ∧ Q r17 h16)))))))))
set_option maxHeartbeats 4000000 in
set_option maxRecDepth 100000 in
theorem sn_X12_readPart (G : GT) (d : Nat) (l0 : Nat) (l1 : Int32) (h : PH) (Q : Int32 → PH → Prop) (okl0 : qOK h 11 l0) (hwp : wp_X12_readPart l0 l1 h Q) : Mt G (6 + d) 0 0 mX12_readPart [.ref l0, .int l1] h (qqb Q) := by
  unfold wp_X12_readPart at hwp
  refine Mt.of (by decide) rfl (Nat.le_of_ble_eq_true rfl) ?_
  have hex := qEx.rf h
  have hnn : qn h = qn h + 0 := rfl
  have hzz : qz h = qz h + 0 := rfl
  refine x_lvE (lv2 := [(0, .ref l0), (1, .int l1)]) rfl ?_
  refine x_aload_n (pc := 0) dX12_readPart_0 rfl ?_
  obtain ⟨b1, e2, hwp⟩ := hwp
  refine x_getR (pc := 1) dX12_readPart_1 qRX12_19 okl0 e2 (fun okb1 => ?_)
  refine x_iconst (v := 1) (pc := 4) dX12_readPart_4 (by decide) ?_
  obtain ⟨i3, hwp⟩ := hwp
  refine x_iaload (pc := 5) dX12_readPart_5 okb1 i3 ?_
  refine x_nmI (fun v4 ev4 => ?_)
  have hwp := hwp v4 ev4
  refine x_istore_n (lv2 := [(2, .int v4), (0, .ref l0), (1, .int l1)]) (pc := 6) dX12_readPart_6 (by decide) rfl ?_
  refine x_iconst (v := 1) (pc := 7) dX12_readPart_7 (by decide) ?_
  refine x_iload_n (pc := 8) dX12_readPart_8 rfl ?_
  refine x_invS (As := [.int 1, .int v4]) (st := []) (pc := 9) dX12_readPart_9 lRX12_194 fX12_slot sX12_slot rfl (Nat.le_of_ble_eq_true rfl) (q_R (by omega) (by decide)) (q_C hnn hzz (by decide) (by decide)) (sn_X12_slot G (d + 5) 1 v4 h _  hwp) (k_i (fun r6 h5 hwp cxh5 => ?_))
  have hex := hex.tr cxh5.1
  have hnn : qn h5 = qn h + 0 := by have := cxh5.2.1; omega
  have hzz : qz h5 = qz h + 0 := by have := cxh5.2.2; omega
  have okl0 := okl0.ex cxh5.1
  have okb1 := okb1.ex cxh5.1
  refine x_istore_n (lv2 := [(3, .int r6), (2, .int v4), (0, .ref l0), (1, .int l1)]) (pc := 12) dX12_readPart_12 (by decide) rfl ?_
  refine x_iload_n (pc := 13) dX12_readPart_13 rfl ?_
  refine x_bipush (v := 12) (pc := 14) dX12_readPart_14 (by decide) ?_
  refine x_icmp_ne (tgt := 25) (pc := 16) dX12_readPart_16 (by decide) (fun c7 => ?_) (fun c7 => ?_)
  · have hwp := hwp.1 c7
    refine x_aload_n (pc := 25) dX12_readPart_25 rfl ?_
    refine x_invV (As := []) (st := []) (pc := 26) dX12_readPart_26 lRX12_146 fX12_go vX12_go okl0 rfl (Nat.le_of_ble_eq_true rfl) (q_R (by omega) (by decide)) (q_C hnn hzz (by decide) (by decide)) (sn_X12_go G (d + 4) l0 h5 _ okl0 hwp) (k_v (fun h8 hwp cxh8 => ?_))
    have hex := hex.tr cxh8.1
    have hnn : qn h8 = qn h + 0 := by have := cxh8.2.1; omega
    have hzz : qz h8 = qz h + 0 := by have := cxh8.2.2; omega
    have okl0 := okl0.ex cxh8.1
    have okb1 := okb1.ex cxh8.1
    refine x_aload_n (pc := 29) dX12_readPart_29 rfl ?_
    refine x_invV (As := []) (st := []) (pc := 30) dX12_readPart_30 lRX12_198 fX12_isName vX12_isName okl0 rfl (Nat.le_of_ble_eq_true rfl) (q_R (by omega) (by decide)) (q_C hnn hzz (by decide) (by decide)) (sn_X12_isName G (d + 2) l0 h8 _ okl0 hwp) (k_b (fun r11 h10 hwp zbr11 cxh10 => ?_))
    have hex := hex.tr cxh10.1
    have hnn : qn h10 = qn h + 0 := by have := cxh10.2.1; omega
    have hzz : qz h10 = qz h + 0 := by have := cxh10.2.2; omega
    have okl0 := okl0.ex cxh10.1
    have okb1 := okb1.ex cxh10.1
    refine x_if_ne (tgt := 42) (pc := 33) dX12_readPart_33 (by decide) (fun c12 => ?_) (fun c12 => ?_)
    · have hwp := hwp.1 c12
      refine x_iconst (v := 0) (pc := 42) dX12_readPart_42 (by decide) ?_
      refine x_istore (lv2 := [(4, .int 0), (3, .int r6), (2, .int v4), (0, .ref l0), (1, .int l1)]) (pc := 43) dX12_readPart_43 (by decide) rfl ?_
      refine x_sub [3, 4, 2, 1, 0] rfl ?_
      exact lp_X12_readPart_45 G d h h10 l0 l1 v4 r6 Q hex hnn hzz okl0 hwp ⟨qEx.rf _, rfl, rfl⟩
    · have hwp := hwp.2 c12
      refine x_aload_n (pc := 36) dX12_readPart_36 rfl ?_
      refine x_iconst (v := 1) (pc := 37) dX12_readPart_37 (by decide) ?_
      refine x_invV (As := [.int 1]) (st := []) (pc := 38) dX12_readPart_38 lRX12_136 fX12_bad vX12_bad okl0 rfl (Nat.le_of_ble_eq_true rfl) (q_R (by omega) (by decide)) (q_C hnn hzz (by decide) (by decide)) (sn_X12_bad G (d + 5) l0 1 h10 _ okl0 hwp) (k_b (fun r14 h13 hwp zbr14 cxh13 => ?_))
      have hex := hex.tr cxh13.1
      have hnn : qn h13 = qn h + 0 := by have := cxh13.2.1; omega
      have hzz : qz h13 = qz h + 0 := by have := cxh13.2.2; omega
      have okl0 := okl0.ex cxh13.1
      have okb1 := okb1.ex cxh13.1
      exact x_zret (pc := 41) dX12_readPart_41 rfl hex hnn hzz hwp.1 ⟨_, rfl, hwp.1, hwp.2⟩
  · have hwp := hwp.2 c7
    refine x_aload_n (pc := 19) dX12_readPart_19 rfl ?_
    refine x_iconst (v := 4) (pc := 20) dX12_readPart_20 (by decide) ?_
    refine x_invV (As := [.int 4]) (st := []) (pc := 21) dX12_readPart_21 lRX12_136 fX12_bad vX12_bad okl0 rfl (Nat.le_of_ble_eq_true rfl) (q_R (by omega) (by decide)) (q_C hnn hzz (by decide) (by decide)) (sn_X12_bad G (d + 5) l0 4 h5 _ okl0 hwp) (k_b (fun r17 h16 hwp zbr17 cxh16 => ?_))
    have hex := hex.tr cxh16.1
    have hnn : qn h16 = qn h + 0 := by have := cxh16.2.1; omega
    have hzz : qz h16 = qz h + 0 := by have := cxh16.2.2; omega
    have okl0 := okl0.ex cxh16.1
    have okb1 := okb1.ex cxh16.1
    exact x_zret (pc := 24) dX12_readPart_24 rfl hex hnn hzz hwp.1 ⟨_, rfl, hwp.1, hwp.2⟩

theorem dX12_readLine_0 : decode cX12_readLine 0 = .ok (.aload_n 0, 1) := by decide +kernel
theorem dX12_readLine_1 : decode cX12_readLine 1 = .ok (.invokevirtual 175, 3) := by decide +kernel
theorem dX12_readLine_4 : decode cX12_readLine 4 = .ok (.ifCond .eq 51, 3) := by decide +kernel
theorem dX12_readLine_7 : decode cX12_readLine 7 = .ok (.aload_n 0, 1) := by decide +kernel
theorem dX12_readLine_8 : decode cX12_readLine 8 = .ok (.getfield 16, 3) := by decide +kernel
theorem dX12_readLine_11 : decode cX12_readLine 11 = .ok (.iconst 1, 1) := by decide +kernel
theorem dX12_readLine_12 : decode cX12_readLine 12 = .ok (.iaload, 1) := by decide +kernel
theorem dX12_readLine_13 : decode cX12_readLine 13 = .ok (.iconst (-1), 1) := by decide +kernel
theorem dX12_readLine_14 : decode cX12_readLine 14 = .ok (.if_icmp .eq 9, 3) := by decide +kernel
theorem dX12_readLine_17 : decode cX12_readLine 17 = .ok (.aload_n 0, 1) := by decide +kernel
theorem dX12_readLine_18 : decode cX12_readLine 18 = .ok (.iconst 3, 1) := by decide +kernel
theorem dX12_readLine_19 : decode cX12_readLine 19 = .ok (.invokevirtual 136, 3) := by decide +kernel
theorem dX12_readLine_22 : decode cX12_readLine 22 = .ok (.ireturn, 1) := by decide +kernel
theorem dX12_readLine_23 : decode cX12_readLine 23 = .ok (.aload_n 0, 1) := by decide +kernel
theorem dX12_readLine_24 : decode cX12_readLine 24 = .ok (.invokevirtual 146, 3) := by decide +kernel
theorem dX12_readLine_27 : decode cX12_readLine 27 = .ok (.aload_n 0, 1) := by decide +kernel
theorem dX12_readLine_28 : decode cX12_readLine 28 = .ok (.iconst 0, 1) := by decide +kernel
theorem dX12_readLine_29 : decode cX12_readLine 29 = .ok (.sipush 999, 3) := by decide +kernel
theorem dX12_readLine_32 : decode cX12_readLine 32 = .ok (.invokevirtual 201, 3) := by decide +kernel
theorem dX12_readLine_35 : decode cX12_readLine 35 = .ok (.ifCond .ne 5, 3) := by decide +kernel
theorem dX12_readLine_38 : decode cX12_readLine 38 = .ok (.iconst 0, 1) := by decide +kernel
theorem dX12_readLine_39 : decode cX12_readLine 39 = .ok (.ireturn, 1) := by decide +kernel
theorem dX12_readLine_40 : decode cX12_readLine 40 = .ok (.aload_n 0, 1) := by decide +kernel
theorem dX12_readLine_41 : decode cX12_readLine 41 = .ok (.getfield 16, 3) := by decide +kernel
theorem dX12_readLine_44 : decode cX12_readLine 44 = .ok (.iconst 1, 1) := by decide +kernel
theorem dX12_readLine_45 : decode cX12_readLine 45 = .ok (.aload_n 0, 1) := by decide +kernel
theorem dX12_readLine_46 : decode cX12_readLine 46 = .ok (.getfield 143, 3) := by decide +kernel
theorem dX12_readLine_49 : decode cX12_readLine 49 = .ok (.iastore, 1) := by decide +kernel
theorem dX12_readLine_50 : decode cX12_readLine 50 = .ok (.aload_n 0, 1) := by decide +kernel
theorem dX12_readLine_51 : decode cX12_readLine 51 = .ok (.invokevirtual 223, 3) := by decide +kernel
theorem dX12_readLine_54 : decode cX12_readLine 54 = .ok (.ireturn, 1) := by decide +kernel
theorem dX12_readLine_55 : decode cX12_readLine 55 = .ok (.aload_n 0, 1) := by decide +kernel
theorem dX12_readLine_56 : decode cX12_readLine 56 = .ok (.invokevirtual 167, 3) := by decide +kernel
theorem dX12_readLine_59 : decode cX12_readLine 59 = .ok (.istore_n 1, 1) := by decide +kernel
theorem dX12_readLine_60 : decode cX12_readLine 60 = .ok (.iload_n 1, 1) := by decide +kernel
theorem dX12_readLine_61 : decode cX12_readLine 61 = .ok (.iconst (-1), 1) := by decide +kernel
theorem dX12_readLine_62 : decode cX12_readLine 62 = .ok (.if_icmp .ne 9, 3) := by decide +kernel
theorem dX12_readLine_65 : decode cX12_readLine 65 = .ok (.aload_n 0, 1) := by decide +kernel
theorem dX12_readLine_66 : decode cX12_readLine 66 = .ok (.iconst 1, 1) := by decide +kernel
theorem dX12_readLine_67 : decode cX12_readLine 67 = .ok (.invokevirtual 136, 3) := by decide +kernel
theorem dX12_readLine_70 : decode cX12_readLine 70 = .ok (.ireturn, 1) := by decide +kernel
theorem dX12_readLine_71 : decode cX12_readLine 71 = .ok (.aload_n 0, 1) := by decide +kernel
theorem dX12_readLine_72 : decode cX12_readLine 72 = .ok (.iload_n 1, 1) := by decide +kernel
theorem dX12_readLine_73 : decode cX12_readLine 73 = .ok (.invokevirtual 233, 3) := by decide +kernel
theorem dX12_readLine_76 : decode cX12_readLine 76 = .ok (.ifCond .eq 14, 3) := by decide +kernel
theorem dX12_readLine_79 : decode cX12_readLine 79 = .ok (.aload_n 0, 1) := by decide +kernel
theorem dX12_readLine_80 : decode cX12_readLine 80 = .ok (.invokevirtual 223, 3) := by decide +kernel
theorem dX12_readLine_83 : decode cX12_readLine 83 = .ok (.ifCond .eq 7, 3) := by decide +kernel
theorem dX12_readLine_86 : decode cX12_readLine 86 = .ok (.iconst 1, 1) := by decide +kernel
theorem dX12_readLine_87 : decode cX12_readLine 87 = .ok (.goto 4, 3) := by decide +kernel
theorem dX12_readLine_90 : decode cX12_readLine 90 = .ok (.iconst 0, 1) := by decide +kernel
theorem dX12_readLine_91 : decode cX12_readLine 91 = .ok (.ireturn, 1) := by decide +kernel
def wp_X12_readLine (l0 : Nat) (h : PH) (Q : Int32 → PH → Prop) : Prop := (wp_X12_isRub l0 h (fun r2 h1 => ((r2 = 0 → (wp_X12_partAtHand l0 h1 (fun r5 h4 => ((¬ r5 = (-1) → (wp_X12_readPart l0 r5 h4 (fun r8 h7 => ((r8 = 0 → Q 0 h7) ∧ (¬ (r8 = 0) → (wp_X12_readEnd l0 h7 (fun r11 h10 => ((r11 = 0 → Q 0 h10) ∧ (¬ (r11 = 0) → Q 1 h10))))))))) ∧ (r5 = (-1) → (wp_X12_bad l0 1 h4 (fun r14 h13 => ((r14 = 0 ∨ r14 = 1) ∧ Q r14 h13)))))))) ∧ (¬ (r2 = 0) → (∃ b16, qR h1 l0 15 = some b16 ∧ (vp_in 1 (qL h1 b16) ∧ (((qI h1 b16 (1 : Int32).toNatClampNeg) = (-1) → (wp_X12_go l0 h1 (fun h20 => (wp_X12_readNumber l0 0 999 h20 (fun r23 h22 => ((¬ r23 = 0 → (∃ b25, qR h22 l0 15 = some b25 ∧ (vp_in 1 (qL h22 b25) ∧ ∀ h27, h27 = qsI h22 b25 (1 : Int32).toNatClampNeg (qI h22 l0 13) → (wp_X12_readEnd l0 h27 (fun r30 h29 => ((r30 = 0 ∨ r30 = 1) ∧ Q r30 h29)))))) ∧ (r23 = 0 → Q 0 h22))))))) ∧ (¬ ((qI h1 b16 (1 : Int32).toNatClampNeg) = (-1)) → (wp_X12_bad l0 3 h1 (fun r33 h32 => ((r33 = 0 ∨ r33 = 1) ∧ Q r33 h32)))))))))))
set_option maxHeartbeats 4000000 in
set_option maxRecDepth 100000 in
theorem sn_X12_readLine (G : GT) (d : Nat) (l0 : Nat) (h : PH) (Q : Int32 → PH → Prop) (okl0 : qOK h 11 l0) (hwp : wp_X12_readLine l0 h Q) : Mt G (7 + d) 0 0 mX12_readLine [.ref l0] h (qqb Q) := by
  unfold wp_X12_readLine at hwp
  refine Mt.of (by decide) rfl (Nat.le_of_ble_eq_true rfl) ?_
  have hex := qEx.rf h
  have hnn : qn h = qn h + 0 := rfl
  have hzz : qz h = qz h + 0 := rfl
  refine x_lvE (lv2 := [(0, .ref l0)]) rfl ?_
  refine x_aload_n (pc := 0) dX12_readLine_0 rfl ?_
  refine x_invV (As := []) (st := []) (pc := 1) dX12_readLine_1 lRX12_175 fX12_isRub vX12_isRub okl0 rfl (Nat.le_of_ble_eq_true rfl) (q_R (by omega) (by decide)) (q_C hnn hzz (by decide) (by decide)) (sn_X12_isRub G (d + 5) l0 h _ okl0 hwp) (k_b (fun r2 h1 hwp zbr2 cxh1 => ?_))
  have hex := hex.tr cxh1.1
  have hnn : qn h1 = qn h + 0 := by have := cxh1.2.1; omega
  have hzz : qz h1 = qz h + 0 := by have := cxh1.2.2; omega
  have okl0 := okl0.ex cxh1.1
  refine x_if_eq (tgt := 55) (pc := 4) dX12_readLine_4 (by decide) (fun c3 => ?_) (fun c3 => ?_)
  · have hwp := hwp.1 c3
    refine x_aload_n (pc := 55) dX12_readLine_55 rfl ?_
    refine x_invV (As := []) (st := []) (pc := 56) dX12_readLine_56 lRX12_167 fX12_partAtHand vX12_partAtHand okl0 rfl (Nat.le_of_ble_eq_true rfl) (q_R (by omega) (by decide)) (q_C hnn hzz (by decide) (by decide)) (sn_X12_partAtHand G (d + 4) l0 h1 _ okl0 hwp) (k_i (fun r5 h4 hwp cxh4 => ?_))
    have hex := hex.tr cxh4.1
    have hnn : qn h4 = qn h + 0 := by have := cxh4.2.1; omega
    have hzz : qz h4 = qz h + 0 := by have := cxh4.2.2; omega
    have okl0 := okl0.ex cxh4.1
    refine x_istore_n (lv2 := [(1, .int r5), (0, .ref l0)]) (pc := 59) dX12_readLine_59 (by decide) rfl ?_
    refine x_iload_n (pc := 60) dX12_readLine_60 rfl ?_
    refine x_iconst (v := (-1)) (pc := 61) dX12_readLine_61 (by decide) ?_
    refine x_icmp_ne (tgt := 71) (pc := 62) dX12_readLine_62 (by decide) (fun c6 => ?_) (fun c6 => ?_)
    · have hwp := hwp.1 c6
      refine x_aload_n (pc := 71) dX12_readLine_71 rfl ?_
      refine x_iload_n (pc := 72) dX12_readLine_72 rfl ?_
      refine x_invV (As := [.int r5]) (st := []) (pc := 73) dX12_readLine_73 lRX12_233 fX12_readPart vX12_readPart okl0 rfl (Nat.le_of_ble_eq_true rfl) (q_R (by omega) (by decide)) (q_C hnn hzz (by decide) (by decide)) (sn_X12_readPart G (d + 0) l0 r5 h4 _ okl0 hwp) (k_b (fun r8 h7 hwp zbr8 cxh7 => ?_))
      have hex := hex.tr cxh7.1
      have hnn : qn h7 = qn h + 0 := by have := cxh7.2.1; omega
      have hzz : qz h7 = qz h + 0 := by have := cxh7.2.2; omega
      have okl0 := okl0.ex cxh7.1
      refine x_if_eq (tgt := 90) (pc := 76) dX12_readLine_76 (by decide) (fun c9 => ?_) (fun c9 => ?_)
      · have hwp := hwp.1 c9
        refine x_iconst (v := 0) (pc := 90) dX12_readLine_90 (by decide) ?_
        exact x_zret (pc := 91) dX12_readLine_91 rfl hex hnn hzz (by decide) ⟨_, rfl, by decide, hwp⟩
      · have hwp := hwp.2 c9
        refine x_aload_n (pc := 79) dX12_readLine_79 rfl ?_
        refine x_invV (As := []) (st := []) (pc := 80) dX12_readLine_80 lRX12_223 fX12_readEnd vX12_readEnd okl0 rfl (Nat.le_of_ble_eq_true rfl) (q_R (by omega) (by decide)) (q_C hnn hzz (by decide) (by decide)) (sn_X12_readEnd G (d + 4) l0 h7 _ okl0 hwp) (k_b (fun r11 h10 hwp zbr11 cxh10 => ?_))
        have hex := hex.tr cxh10.1
        have hnn : qn h10 = qn h + 0 := by have := cxh10.2.1; omega
        have hzz : qz h10 = qz h + 0 := by have := cxh10.2.2; omega
        have okl0 := okl0.ex cxh10.1
        refine x_if_eq (tgt := 90) (pc := 83) dX12_readLine_83 (by decide) (fun c12 => ?_) (fun c12 => ?_)
        · have hwp := hwp.1 c12
          refine x_iconst (v := 0) (pc := 90) dX12_readLine_90 (by decide) ?_
          exact x_zret (pc := 91) dX12_readLine_91 rfl hex hnn hzz (by decide) ⟨_, rfl, by decide, hwp⟩
        · have hwp := hwp.2 c12
          refine x_iconst (v := 1) (pc := 86) dX12_readLine_86 (by decide) ?_
          refine x_goto (tgt := 91) (pc := 87) dX12_readLine_87 (by decide) ?_
          exact x_zret (pc := 91) dX12_readLine_91 rfl hex hnn hzz (by decide) ⟨_, rfl, by decide, hwp⟩
    · have hwp := hwp.2 c6
      refine x_aload_n (pc := 65) dX12_readLine_65 rfl ?_
      refine x_iconst (v := 1) (pc := 66) dX12_readLine_66 (by decide) ?_
      refine x_invV (As := [.int 1]) (st := []) (pc := 67) dX12_readLine_67 lRX12_136 fX12_bad vX12_bad okl0 rfl (Nat.le_of_ble_eq_true rfl) (q_R (by omega) (by decide)) (q_C hnn hzz (by decide) (by decide)) (sn_X12_bad G (d + 6) l0 1 h4 _ okl0 hwp) (k_b (fun r14 h13 hwp zbr14 cxh13 => ?_))
      have hex := hex.tr cxh13.1
      have hnn : qn h13 = qn h + 0 := by have := cxh13.2.1; omega
      have hzz : qz h13 = qz h + 0 := by have := cxh13.2.2; omega
      have okl0 := okl0.ex cxh13.1
      exact x_zret (pc := 70) dX12_readLine_70 rfl hex hnn hzz hwp.1 ⟨_, rfl, hwp.1, hwp.2⟩
  · have hwp := hwp.2 c3
    refine x_aload_n (pc := 7) dX12_readLine_7 rfl ?_
    obtain ⟨b16, e17, hwp⟩ := hwp
    refine x_getR (pc := 8) dX12_readLine_8 qRX12_16 okl0 e17 (fun okb16 => ?_)
    refine x_iconst (v := 1) (pc := 11) dX12_readLine_11 (by decide) ?_
    obtain ⟨i18, hwp⟩ := hwp
    refine x_iaload (pc := 12) dX12_readLine_12 okb16 i18 ?_
    refine x_iconst (v := (-1)) (pc := 13) dX12_readLine_13 (by decide) ?_
    refine x_icmp_eq (tgt := 23) (pc := 14) dX12_readLine_14 (by decide) (fun c19 => ?_) (fun c19 => ?_)
    · have hwp := hwp.1 c19
      refine x_aload_n (pc := 23) dX12_readLine_23 rfl ?_
      refine x_invV (As := []) (st := []) (pc := 24) dX12_readLine_24 lRX12_146 fX12_go vX12_go okl0 rfl (Nat.le_of_ble_eq_true rfl) (q_R (by omega) (by decide)) (q_C hnn hzz (by decide) (by decide)) (sn_X12_go G (d + 5) l0 h1 _ okl0 hwp) (k_v (fun h20 hwp cxh20 => ?_))
      have hex := hex.tr cxh20.1
      have hnn : qn h20 = qn h + 0 := by have := cxh20.2.1; omega
      have hzz : qz h20 = qz h + 0 := by have := cxh20.2.2; omega
      have okl0 := okl0.ex cxh20.1
      have okb16 := okb16.ex cxh20.1
      refine x_aload_n (pc := 27) dX12_readLine_27 rfl ?_
      refine x_iconst (v := 0) (pc := 28) dX12_readLine_28 (by decide) ?_
      refine x_sipush (v := 999) (pc := 29) dX12_readLine_29 (by decide) ?_
      refine x_invV (As := [.int 0, .int 999]) (st := []) (pc := 32) dX12_readLine_32 lRX12_201 fX12_readNumber vX12_readNumber okl0 rfl (Nat.le_of_ble_eq_true rfl) (q_R (by omega) (by decide)) (q_C hnn hzz (by decide) (by decide)) (sn_X12_readNumber G (d + 4) l0 0 999 h20 _ okl0 hwp) (k_b (fun r23 h22 hwp zbr23 cxh22 => ?_))
      have hex := hex.tr cxh22.1
      have hnn : qn h22 = qn h + 0 := by have := cxh22.2.1; omega
      have hzz : qz h22 = qz h + 0 := by have := cxh22.2.2; omega
      have okl0 := okl0.ex cxh22.1
      have okb16 := okb16.ex cxh22.1
      refine x_if_ne (tgt := 40) (pc := 35) dX12_readLine_35 (by decide) (fun c24 => ?_) (fun c24 => ?_)
      · have hwp := hwp.1 c24
        refine x_aload_n (pc := 40) dX12_readLine_40 rfl ?_
        obtain ⟨b25, e26, hwp⟩ := hwp
        refine x_getR (pc := 41) dX12_readLine_41 qRX12_16 okl0 e26 (fun okb25 => ?_)
        refine x_iconst (v := 1) (pc := 44) dX12_readLine_44 (by decide) ?_
        refine x_aload_n (pc := 45) dX12_readLine_45 rfl ?_
        refine x_getI (pc := 46) dX12_readLine_46 qRX12_143 okl0 (by decide) ?_
        obtain ⟨i28, hwp⟩ := hwp
        refine y_iastore (pc := 49) dX12_readLine_49 okb25 i28 (fun h27 eh27 nxh27 => ?_)
        have hwp := hwp h27 eh27
        have hex := hex.tr nxh27.1
        have hnn := nxh27.2.1.trans hnn
        have hzz := nxh27.2.2.trans hzz
        have okl0 := okl0.ex nxh27.1
        have okb16 := okb16.ex nxh27.1
        have okb25 := okb25.ex nxh27.1
        refine x_aload_n (pc := 50) dX12_readLine_50 rfl ?_
        refine x_invV (As := []) (st := []) (pc := 51) dX12_readLine_51 lRX12_223 fX12_readEnd vX12_readEnd okl0 rfl (Nat.le_of_ble_eq_true rfl) (q_R (by omega) (by decide)) (q_C hnn hzz (by decide) (by decide)) (sn_X12_readEnd G (d + 4) l0 h27 _ okl0 hwp) (k_b (fun r30 h29 hwp zbr30 cxh29 => ?_))
        have hex := hex.tr cxh29.1
        have hnn : qn h29 = qn h + 0 := by have := cxh29.2.1; omega
        have hzz : qz h29 = qz h + 0 := by have := cxh29.2.2; omega
        have okl0 := okl0.ex cxh29.1
        have okb16 := okb16.ex cxh29.1
        have okb25 := okb25.ex cxh29.1
        exact x_zret (pc := 54) dX12_readLine_54 rfl hex hnn hzz hwp.1 ⟨_, rfl, hwp.1, hwp.2⟩
      · have hwp := hwp.2 c24
        refine x_iconst (v := 0) (pc := 38) dX12_readLine_38 (by decide) ?_
        exact x_zret (pc := 39) dX12_readLine_39 rfl hex hnn hzz (by decide) ⟨_, rfl, by decide, hwp⟩
    · have hwp := hwp.2 c19
      refine x_aload_n (pc := 17) dX12_readLine_17 rfl ?_
      refine x_iconst (v := 3) (pc := 18) dX12_readLine_18 (by decide) ?_
      refine x_invV (As := [.int 3]) (st := []) (pc := 19) dX12_readLine_19 lRX12_136 fX12_bad vX12_bad okl0 rfl (Nat.le_of_ble_eq_true rfl) (q_R (by omega) (by decide)) (q_C hnn hzz (by decide) (by decide)) (sn_X12_bad G (d + 6) l0 3 h1 _ okl0 hwp) (k_b (fun r33 h32 hwp zbr33 cxh32 => ?_))
      have hex := hex.tr cxh32.1
      have hnn : qn h32 = qn h + 0 := by have := cxh32.2.1; omega
      have hzz : qz h32 = qz h + 0 := by have := cxh32.2.2; omega
      have okl0 := okl0.ex cxh32.1
      have okb16 := okb16.ex cxh32.1
      exact x_zret (pc := 22) dX12_readLine_22 rfl hex hnn hzz hwp.1 ⟨_, rfl, hwp.1, hwp.2⟩

theorem dX12_copy_0 : decode cX12_copy 0 = .ok (.aload_n 0, 1) := by decide +kernel
theorem dX12_copy_1 : decode cX12_copy 1 = .ok (.getfield 13, 3) := by decide +kernel
theorem dX12_copy_4 : decode cX12_copy 4 = .ok (.iload_n 2, 1) := by decide +kernel
theorem dX12_copy_5 : decode cX12_copy 5 = .ok (.aload_n 0, 1) := by decide +kernel
theorem dX12_copy_6 : decode cX12_copy 6 = .ok (.getfield 13, 3) := by decide +kernel
theorem dX12_copy_9 : decode cX12_copy 9 = .ok (.iload_n 1, 1) := by decide +kernel
theorem dX12_copy_10 : decode cX12_copy 10 = .ok (.iaload, 1) := by decide +kernel
theorem dX12_copy_11 : decode cX12_copy 11 = .ok (.iastore, 1) := by decide +kernel
theorem dX12_copy_12 : decode cX12_copy 12 = .ok (.aload_n 0, 1) := by decide +kernel
theorem dX12_copy_13 : decode cX12_copy 13 = .ok (.getfield 16, 3) := by decide +kernel
theorem dX12_copy_16 : decode cX12_copy 16 = .ok (.iload_n 2, 1) := by decide +kernel
theorem dX12_copy_17 : decode cX12_copy 17 = .ok (.aload_n 0, 1) := by decide +kernel
theorem dX12_copy_18 : decode cX12_copy 18 = .ok (.getfield 16, 3) := by decide +kernel
theorem dX12_copy_21 : decode cX12_copy 21 = .ok (.iload_n 1, 1) := by decide +kernel
theorem dX12_copy_22 : decode cX12_copy 22 = .ok (.iaload, 1) := by decide +kernel
theorem dX12_copy_23 : decode cX12_copy 23 = .ok (.iastore, 1) := by decide +kernel
theorem dX12_copy_24 : decode cX12_copy 24 = .ok (.aload_n 0, 1) := by decide +kernel
theorem dX12_copy_25 : decode cX12_copy 25 = .ok (.getfield 19, 3) := by decide +kernel
theorem dX12_copy_28 : decode cX12_copy 28 = .ok (.iload_n 2, 1) := by decide +kernel
theorem dX12_copy_29 : decode cX12_copy 29 = .ok (.aload_n 0, 1) := by decide +kernel
theorem dX12_copy_30 : decode cX12_copy 30 = .ok (.getfield 19, 3) := by decide +kernel
theorem dX12_copy_33 : decode cX12_copy 33 = .ok (.iload_n 1, 1) := by decide +kernel
theorem dX12_copy_34 : decode cX12_copy 34 = .ok (.iaload, 1) := by decide +kernel
theorem dX12_copy_35 : decode cX12_copy 35 = .ok (.iastore, 1) := by decide +kernel
theorem dX12_copy_36 : decode cX12_copy 36 = .ok (.iconst 0, 1) := by decide +kernel
theorem dX12_copy_37 : decode cX12_copy 37 = .ok (.istore_n 3, 1) := by decide +kernel
theorem dX12_copy_38 : decode cX12_copy 38 = .ok (.iload_n 3, 1) := by decide +kernel
theorem dX12_copy_39 : decode cX12_copy 39 = .ok (.bipush 96, 2) := by decide +kernel
theorem dX12_copy_41 : decode cX12_copy 41 = .ok (.if_icmp .ge 31, 3) := by decide +kernel
theorem dX12_copy_44 : decode cX12_copy 44 = .ok (.aload_n 0, 1) := by decide +kernel
theorem dX12_copy_45 : decode cX12_copy 45 = .ok (.getfield 22, 3) := by decide +kernel
theorem dX12_copy_48 : decode cX12_copy 48 = .ok (.bipush 96, 2) := by decide +kernel
theorem dX12_copy_50 : decode cX12_copy 50 = .ok (.iload_n 2, 1) := by decide +kernel
theorem dX12_copy_51 : decode cX12_copy 51 = .ok (.imul, 1) := by decide +kernel
theorem dX12_copy_52 : decode cX12_copy 52 = .ok (.iload_n 3, 1) := by decide +kernel
theorem dX12_copy_53 : decode cX12_copy 53 = .ok (.iadd, 1) := by decide +kernel
theorem dX12_copy_54 : decode cX12_copy 54 = .ok (.aload_n 0, 1) := by decide +kernel
theorem dX12_copy_55 : decode cX12_copy 55 = .ok (.getfield 22, 3) := by decide +kernel
theorem dX12_copy_58 : decode cX12_copy 58 = .ok (.bipush 96, 2) := by decide +kernel
theorem dX12_copy_60 : decode cX12_copy 60 = .ok (.iload_n 1, 1) := by decide +kernel
theorem dX12_copy_61 : decode cX12_copy 61 = .ok (.imul, 1) := by decide +kernel
theorem dX12_copy_62 : decode cX12_copy 62 = .ok (.iload_n 3, 1) := by decide +kernel
theorem dX12_copy_63 : decode cX12_copy 63 = .ok (.iadd, 1) := by decide +kernel
theorem dX12_copy_64 : decode cX12_copy 64 = .ok (.iaload, 1) := by decide +kernel
theorem dX12_copy_65 : decode cX12_copy 65 = .ok (.iastore, 1) := by decide +kernel
theorem dX12_copy_66 : decode cX12_copy 66 = .ok (.iinc 3 1, 3) := by decide +kernel
theorem dX12_copy_69 : decode cX12_copy 69 = .ok (.goto (-31), 3) := by decide +kernel
theorem dX12_copy_72 : decode cX12_copy 72 = .ok (.return_, 1) := by decide +kernel
def E_X12_copy_38 (G : GT) (d : Nat) (h0 hb : PH) (l0 : Nat) (l1 : Int32) (l2 : Int32) (Q : PH → Prop) (s : Int32 × PH) : Prop := qEx hb s.2 ∧ qn s.2 = qn hb ∧ qz s.2 = qz hb → Ex G (qrm (0 + d) 0 0) mX12_copy (qn h0) (qz h0) (ZN G h0 0 0 (qqv Q)) 38 [(0, .ref l0), (1, .int l1), (2, .int l2), (3, .int s.1)] [] s.2
def wb_X12_copy_38 (l0 : Nat) (l1 : Int32) (l2 : Int32)  (Q : PH → Prop) (bk38 : Int32 × PH → Prop) (l3 : Int32) (h : PH) : Prop := ((96 ≤ l3 → Q h) ∧ (¬ (96 ≤ l3) → (∃ b23, qR h l0 17 = some b23 ∧ (∃ b25, qR h l0 17 = some b25 ∧ (vp_in ((96 * l1) + l3) (qL h b25) ∧ (vp_in ((96 * l2) + l3) (qL h b23) ∧ ∀ h28, h28 = qsI h b23 ((96 * l2) + l3).toNatClampNeg (qI h b25 ((96 * l1) + l3).toNatClampNeg) → ∀ v30 : Int32, v30 = l3 + 1 → bk38 (v30, h28)))))))
def wp_X12_copy_38 (l0 : Nat) (l1 : Int32) (l2 : Int32)  (Q : PH → Prop) (bk38 : Int32 × PH → Prop) (s : Int32 × PH) : Prop := wb_X12_copy_38 l0 l1 l2 Q bk38 s.1 s.2
set_option maxHeartbeats 4000000 in
set_option maxRecDepth 100000 in
theorem bd_X12_copy_38 (G : GT) (d : Nat) (h0 hb : PH) (l0 : Nat) (l1 : Int32) (l2 : Int32) (Q : PH → Prop)  (hex : qEx h0 hb) (hnn : qn hb = qn h0 + 0) (hzz : qz hb = qz h0 + 0) (okl0 : qOK hb 11 l0) (bk38 : Int32 × PH → Prop) (hbk38 : ∀ s2, bk38 s2 → E_X12_copy_38 G d h0 hb l0 l1 l2 Q s2) (l3 : Int32) (h : PH) (hwp : wb_X12_copy_38 l0 l1 l2 Q bk38 l3 h) (hx38 : qEx hb h) (hn38 : qn h = qn hb) (hz38 : qz h = qz hb) : Ex G (qrm (0 + d) 0 0) mX12_copy (qn h0) (qz h0) (ZN G h0 0 0 (qqv Q)) 38 [(0, .ref l0), (1, .int l1), (2, .int l2), (3, .int l3)] [] h := by
  unfold wb_X12_copy_38 at hwp
  have hex := hex.tr hx38
  have hnn := hn38.trans hnn
  have hzz := hz38.trans hzz
  have okl0 := okl0.ex hx38
  refine x_iload_n (pc := 38) dX12_copy_38 rfl ?_
  refine x_bipush (v := 96) (pc := 39) dX12_copy_39 (by decide) ?_
  refine x_icmp_ge (tgt := 72) (pc := 41) dX12_copy_41 (by decide) (fun c22 => ?_) (fun c22 => ?_)
  · have hwp := hwp.1 c22
    exact x_vret (pc := 72) dX12_copy_72 rfl hex hnn hzz ⟨rfl, hwp⟩
  · have hwp := hwp.2 c22
    refine x_aload_n (pc := 44) dX12_copy_44 rfl ?_
    obtain ⟨b23, e24, hwp⟩ := hwp
    refine x_getR (pc := 45) dX12_copy_45 qRX12_22 okl0 e24 (fun okb23 => ?_)
    refine x_bipush (v := 96) (pc := 48) dX12_copy_48 (by decide) ?_
    refine x_iload_n (pc := 50) dX12_copy_50 rfl ?_
    refine x_imul (pc := 51) dX12_copy_51 ?_
    refine x_iload_n (pc := 52) dX12_copy_52 rfl ?_
    refine x_iadd (pc := 53) dX12_copy_53 ?_
    refine x_aload_n (pc := 54) dX12_copy_54 rfl ?_
    obtain ⟨b25, e26, hwp⟩ := hwp
    refine x_getR (pc := 55) dX12_copy_55 qRX12_22 okl0 e26 (fun okb25 => ?_)
    refine x_bipush (v := 96) (pc := 58) dX12_copy_58 (by decide) ?_
    refine x_iload_n (pc := 60) dX12_copy_60 rfl ?_
    refine x_imul (pc := 61) dX12_copy_61 ?_
    refine x_iload_n (pc := 62) dX12_copy_62 rfl ?_
    refine x_iadd (pc := 63) dX12_copy_63 ?_
    obtain ⟨i27, hwp⟩ := hwp
    refine x_iaload (pc := 64) dX12_copy_64 okb25 i27 ?_
    obtain ⟨i29, hwp⟩ := hwp
    refine y_iastore (pc := 65) dX12_copy_65 okb23 i29 (fun h28 eh28 nxh28 => ?_)
    have hwp := hwp h28 eh28
    have hex := hex.tr nxh28.1
    have hnn := nxh28.2.1.trans hnn
    have hzz := nxh28.2.2.trans hzz
    have hx38 := hx38.tr nxh28.1
    have hn38 := nxh28.2.1.trans hn38
    have hz38 := nxh28.2.2.trans hz38
    have okl0 := okl0.ex nxh28.1
    have okb23 := okb23.ex nxh28.1
    have okb25 := okb25.ex nxh28.1
    refine y_iinc (c := 1) (pc := 66) dX12_copy_66 rfl (by decide) (by decide) (fun v30 ev30 => ?_)
    have hwp := hwp v30 ev30
    refine x_lvE (lv2 := [(3, .int v30), (0, .ref l0), (1, .int l1), (2, .int l2)]) rfl ?_
    refine x_goto (tgt := 38) (pc := 69) dX12_copy_69 (by decide) ?_
    refine x_sub [1, 2, 3, 0] rfl ?_
    exact hbk38 _ hwp ⟨hx38, hn38, hz38⟩
theorem lp_X12_copy_38 (G : GT) (d : Nat) (h0 hb : PH) (l0 : Nat) (l1 : Int32) (l2 : Int32) (Q : PH → Prop)  (hex : qEx h0 hb) (hnn : qn hb = qn h0 + 0) (hzz : qz hb = qz h0 + 0) (okl0 : qOK hb 11 l0) {s : Int32 × PH} (hwp : qLoop (wp_X12_copy_38 l0 l1 l2 Q) s) : E_X12_copy_38 G d h0 hb l0 l1 l2 Q s :=
  qLoop.use (E := E_X12_copy_38 G d h0 hb l0 l1 l2 Q) (fun back s hbk hw hx => bd_X12_copy_38 G d h0 hb l0 l1 l2 Q hex hnn hzz okl0 back hbk s.1 s.2 hw hx.1 hx.2.1 hx.2.2) hwp
def wp_X12_copy (l0 : Nat) (l1 : Int32) (l2 : Int32) (h : PH) (Q : PH → Prop) : Prop := (∃ b1, qR h l0 14 = some b1 ∧ (∃ b3, qR h l0 14 = some b3 ∧ (vp_in l1 (qL h b3) ∧ (vp_in l2 (qL h b1) ∧ ∀ h6, h6 = qsI h b1 l2.toNatClampNeg (qI h b3 l1.toNatClampNeg) → (∃ b8, qR h6 l0 15 = some b8 ∧ (∃ b10, qR h6 l0 15 = some b10 ∧ (vp_in l1 (qL h6 b10) ∧ (vp_in l2 (qL h6 b8) ∧ ∀ h13, h13 = qsI h6 b8 l2.toNatClampNeg (qI h6 b10 l1.toNatClampNeg) → (∃ b15, qR h13 l0 16 = some b15 ∧ (∃ b17, qR h13 l0 16 = some b17 ∧ (vp_in l1 (qL h13 b17) ∧ (vp_in l2 (qL h13 b15) ∧ ∀ h20, h20 = qsI h13 b15 l2.toNatClampNeg (qI h13 b17 l1.toNatClampNeg) → (qLoop (wp_X12_copy_38 l0 l1 l2 Q) (0, h20))))))))))))))
set_option maxHeartbeats 4000000 in
set_option maxRecDepth 100000 in
theorem sn_X12_copy (G : GT) (d : Nat) (l0 : Nat) (l1 : Int32) (l2 : Int32) (h : PH) (Q : PH → Prop) (okl0 : qOK h 11 l0) (hwp : wp_X12_copy l0 l1 l2 h Q) : Mt G (0 + d) 0 0 mX12_copy [.ref l0, .int l1, .int l2] h (qqv Q) := by
  unfold wp_X12_copy at hwp
  refine Mt.of (by decide) rfl (Nat.le_of_ble_eq_true rfl) ?_
  have hex := qEx.rf h
  have hnn : qn h = qn h + 0 := rfl
  have hzz : qz h = qz h + 0 := rfl
  refine x_lvE (lv2 := [(0, .ref l0), (1, .int l1), (2, .int l2)]) rfl ?_
  refine x_aload_n (pc := 0) dX12_copy_0 rfl ?_
  obtain ⟨b1, e2, hwp⟩ := hwp
  refine x_getR (pc := 1) dX12_copy_1 qRX12_13 okl0 e2 (fun okb1 => ?_)
  refine x_iload_n (pc := 4) dX12_copy_4 rfl ?_
  refine x_aload_n (pc := 5) dX12_copy_5 rfl ?_
  obtain ⟨b3, e4, hwp⟩ := hwp
  refine x_getR (pc := 6) dX12_copy_6 qRX12_13 okl0 e4 (fun okb3 => ?_)
  refine x_iload_n (pc := 9) dX12_copy_9 rfl ?_
  obtain ⟨i5, hwp⟩ := hwp
  refine x_iaload (pc := 10) dX12_copy_10 okb3 i5 ?_
  obtain ⟨i7, hwp⟩ := hwp
  refine y_iastore (pc := 11) dX12_copy_11 okb1 i7 (fun h6 eh6 nxh6 => ?_)
  have hwp := hwp h6 eh6
  have hex := hex.tr nxh6.1
  have hnn := nxh6.2.1.trans hnn
  have hzz := nxh6.2.2.trans hzz
  have okl0 := okl0.ex nxh6.1
  have okb1 := okb1.ex nxh6.1
  have okb3 := okb3.ex nxh6.1
  refine x_aload_n (pc := 12) dX12_copy_12 rfl ?_
  obtain ⟨b8, e9, hwp⟩ := hwp
  refine x_getR (pc := 13) dX12_copy_13 qRX12_16 okl0 e9 (fun okb8 => ?_)
  refine x_iload_n (pc := 16) dX12_copy_16 rfl ?_
  refine x_aload_n (pc := 17) dX12_copy_17 rfl ?_
  obtain ⟨b10, e11, hwp⟩ := hwp
  refine x_getR (pc := 18) dX12_copy_18 qRX12_16 okl0 e11 (fun okb10 => ?_)
  refine x_iload_n (pc := 21) dX12_copy_21 rfl ?_
  obtain ⟨i12, hwp⟩ := hwp
  refine x_iaload (pc := 22) dX12_copy_22 okb10 i12 ?_
  obtain ⟨i14, hwp⟩ := hwp
  refine y_iastore (pc := 23) dX12_copy_23 okb8 i14 (fun h13 eh13 nxh13 => ?_)
  have hwp := hwp h13 eh13
  have hex := hex.tr nxh13.1
  have hnn := nxh13.2.1.trans hnn
  have hzz := nxh13.2.2.trans hzz
  have okl0 := okl0.ex nxh13.1
  have okb1 := okb1.ex nxh13.1
  have okb3 := okb3.ex nxh13.1
  have okb8 := okb8.ex nxh13.1
  have okb10 := okb10.ex nxh13.1
  refine x_aload_n (pc := 24) dX12_copy_24 rfl ?_
  obtain ⟨b15, e16, hwp⟩ := hwp
  refine x_getR (pc := 25) dX12_copy_25 qRX12_19 okl0 e16 (fun okb15 => ?_)
  refine x_iload_n (pc := 28) dX12_copy_28 rfl ?_
  refine x_aload_n (pc := 29) dX12_copy_29 rfl ?_
  obtain ⟨b17, e18, hwp⟩ := hwp
  refine x_getR (pc := 30) dX12_copy_30 qRX12_19 okl0 e18 (fun okb17 => ?_)
  refine x_iload_n (pc := 33) dX12_copy_33 rfl ?_
  obtain ⟨i19, hwp⟩ := hwp
  refine x_iaload (pc := 34) dX12_copy_34 okb17 i19 ?_
  obtain ⟨i21, hwp⟩ := hwp
  refine y_iastore (pc := 35) dX12_copy_35 okb15 i21 (fun h20 eh20 nxh20 => ?_)
  have hwp := hwp h20 eh20
  have hex := hex.tr nxh20.1
  have hnn := nxh20.2.1.trans hnn
  have hzz := nxh20.2.2.trans hzz
  have okl0 := okl0.ex nxh20.1
  have okb1 := okb1.ex nxh20.1
  have okb3 := okb3.ex nxh20.1
  have okb8 := okb8.ex nxh20.1
  have okb10 := okb10.ex nxh20.1
  have okb15 := okb15.ex nxh20.1
  have okb17 := okb17.ex nxh20.1
  refine x_iconst (v := 0) (pc := 36) dX12_copy_36 (by decide) ?_
  refine x_istore_n (lv2 := [(3, .int 0), (0, .ref l0), (1, .int l1), (2, .int l2)]) (pc := 37) dX12_copy_37 (by decide) rfl ?_
  refine x_sub [1, 2, 3, 0] rfl ?_
  exact lp_X12_copy_38 G d h h20 l0 l1 l2 Q hex hnn hzz okl0 hwp ⟨qEx.rf _, rfl, rfl⟩

theorem dX12_drawing_0 : decode cX12_drawing 0 = .ok (.aload_n 0, 1) := by decide +kernel
theorem dX12_drawing_1 : decode cX12_drawing 1 = .ok (.iconst 0, 1) := by decide +kernel
theorem dX12_drawing_2 : decode cX12_drawing 2 = .ok (.putfield 75, 3) := by decide +kernel
theorem dX12_drawing_5 : decode cX12_drawing 5 = .ok (.aload_n 0, 1) := by decide +kernel
theorem dX12_drawing_6 : decode cX12_drawing 6 = .ok (.invokevirtual 217, 3) := by decide +kernel
theorem dX12_drawing_9 : decode cX12_drawing 9 = .ok (.aload_n 0, 1) := by decide +kernel
theorem dX12_drawing_10 : decode cX12_drawing 10 = .ok (.aload_n 0, 1) := by decide +kernel
theorem dX12_drawing_11 : decode cX12_drawing 11 = .ok (.invokevirtual 220, 3) := by decide +kernel
theorem dX12_drawing_14 : decode cX12_drawing 14 = .ok (.putfield 86, 3) := by decide +kernel
theorem dX12_drawing_17 : decode cX12_drawing 17 = .ok (.aload_n 0, 1) := by decide +kernel
theorem dX12_drawing_18 : decode cX12_drawing 18 = .ok (.sipush 600, 3) := by decide +kernel
theorem dX12_drawing_21 : decode cX12_drawing 21 = .ok (.putfield 95, 3) := by decide +kernel
theorem dX12_drawing_24 : decode cX12_drawing 24 = .ok (.aload_n 0, 1) := by decide +kernel
theorem dX12_drawing_25 : decode cX12_drawing 25 = .ok (.iconst 0, 1) := by decide +kernel
theorem dX12_drawing_26 : decode cX12_drawing 26 = .ok (.putfield 130, 3) := by decide +kernel
theorem dX12_drawing_29 : decode cX12_drawing 29 = .ok (.aload_n 0, 1) := by decide +kernel
theorem dX12_drawing_30 : decode cX12_drawing 30 = .ok (.getfield 13, 3) := by decide +kernel
theorem dX12_drawing_33 : decode cX12_drawing 33 = .ok (.iconst 1, 1) := by decide +kernel
theorem dX12_drawing_34 : decode cX12_drawing 34 = .ok (.bipush 24, 2) := by decide +kernel
theorem dX12_drawing_36 : decode cX12_drawing 36 = .ok (.iastore, 1) := by decide +kernel
theorem dX12_drawing_37 : decode cX12_drawing 37 = .ok (.aload_n 0, 1) := by decide +kernel
theorem dX12_drawing_38 : decode cX12_drawing 38 = .ok (.getfield 16, 3) := by decide +kernel
theorem dX12_drawing_41 : decode cX12_drawing 41 = .ok (.iconst 1, 1) := by decide +kernel
theorem dX12_drawing_42 : decode cX12_drawing 42 = .ok (.iconst (-1), 1) := by decide +kernel
theorem dX12_drawing_43 : decode cX12_drawing 43 = .ok (.iastore, 1) := by decide +kernel
theorem dX12_drawing_44 : decode cX12_drawing 44 = .ok (.aload_n 0, 1) := by decide +kernel
theorem dX12_drawing_45 : decode cX12_drawing 45 = .ok (.getfield 19, 3) := by decide +kernel
theorem dX12_drawing_48 : decode cX12_drawing 48 = .ok (.iconst 1, 1) := by decide +kernel
theorem dX12_drawing_49 : decode cX12_drawing 49 = .ok (.iconst 0, 1) := by decide +kernel
theorem dX12_drawing_50 : decode cX12_drawing 50 = .ok (.iastore, 1) := by decide +kernel
theorem dX12_drawing_51 : decode cX12_drawing 51 = .ok (.aload_n 0, 1) := by decide +kernel
theorem dX12_drawing_52 : decode cX12_drawing 52 = .ok (.iconst 0, 1) := by decide +kernel
theorem dX12_drawing_53 : decode cX12_drawing 53 = .ok (.putfield 89, 3) := by decide +kernel
theorem dX12_drawing_56 : decode cX12_drawing 56 = .ok (.aload_n 0, 1) := by decide +kernel
theorem dX12_drawing_57 : decode cX12_drawing 57 = .ok (.invokevirtual 146, 3) := by decide +kernel
theorem dX12_drawing_60 : decode cX12_drawing 60 = .ok (.aload_n 0, 1) := by decide +kernel
theorem dX12_drawing_61 : decode cX12_drawing 61 = .ok (.invokevirtual 171, 3) := by decide +kernel
theorem dX12_drawing_64 : decode cX12_drawing 64 = .ok (.ifCond .eq 80, 3) := by decide +kernel
theorem dX12_drawing_67 : decode cX12_drawing 67 = .ok (.aload_n 0, 1) := by decide +kernel
theorem dX12_drawing_68 : decode cX12_drawing 68 = .ok (.invokevirtual 146, 3) := by decide +kernel
theorem dX12_drawing_71 : decode cX12_drawing 71 = .ok (.aload_n 0, 1) := by decide +kernel
theorem dX12_drawing_72 : decode cX12_drawing 72 = .ok (.getfield 98, 3) := by decide +kernel
theorem dX12_drawing_75 : decode cX12_drawing 75 = .ok (.iconst 3, 1) := by decide +kernel
theorem dX12_drawing_76 : decode cX12_drawing 76 = .ok (.if_icmp .ne 26, 3) := by decide +kernel
theorem dX12_drawing_79 : decode cX12_drawing 79 = .ok (.aload_n 0, 1) := by decide +kernel
theorem dX12_drawing_80 : decode cX12_drawing 80 = .ok (.getfield 115, 3) := by decide +kernel
theorem dX12_drawing_83 : decode cX12_drawing 83 = .ok (.iconst 2, 1) := by decide +kernel
theorem dX12_drawing_84 : decode cX12_drawing 84 = .ok (.irem, 1) := by decide +kernel
theorem dX12_drawing_85 : decode cX12_drawing 85 = .ok (.iconst 1, 1) := by decide +kernel
theorem dX12_drawing_86 : decode cX12_drawing 86 = .ok (.if_icmp .ne 16, 3) := by decide +kernel
theorem dX12_drawing_89 : decode cX12_drawing 89 = .ok (.aload_n 0, 1) := by decide +kernel
theorem dX12_drawing_90 : decode cX12_drawing 90 = .ok (.iconst 2, 1) := by decide +kernel
theorem dX12_drawing_91 : decode cX12_drawing 91 = .ok (.invokevirtual 136, 3) := by decide +kernel
theorem dX12_drawing_94 : decode cX12_drawing 94 = .ok (.pop, 1) := by decide +kernel
theorem dX12_drawing_95 : decode cX12_drawing 95 = .ok (.iconst (-1), 1) := by decide +kernel
theorem dX12_drawing_96 : decode cX12_drawing 96 = .ok (.aload_n 0, 1) := by decide +kernel
theorem dX12_drawing_97 : decode cX12_drawing 97 = .ok (.getfield 133, 3) := by decide +kernel
theorem dX12_drawing_100 : decode cX12_drawing 100 = .ok (.isub, 1) := by decide +kernel
theorem dX12_drawing_101 : decode cX12_drawing 101 = .ok (.ireturn, 1) := by decide +kernel
theorem dX12_drawing_102 : decode cX12_drawing 102 = .ok (.aload_n 0, 1) := by decide +kernel
theorem dX12_drawing_103 : decode cX12_drawing 103 = .ok (.bipush 8, 2) := by decide +kernel
theorem dX12_drawing_105 : decode cX12_drawing 105 = .ok (.bipush 48, 2) := by decide +kernel
theorem dX12_drawing_107 : decode cX12_drawing 107 = .ok (.invokevirtual 201, 3) := by decide +kernel
theorem dX12_drawing_110 : decode cX12_drawing 110 = .ok (.ifCond .ne 10, 3) := by decide +kernel
theorem dX12_drawing_113 : decode cX12_drawing 113 = .ok (.iconst (-1), 1) := by decide +kernel
theorem dX12_drawing_114 : decode cX12_drawing 114 = .ok (.aload_n 0, 1) := by decide +kernel
theorem dX12_drawing_115 : decode cX12_drawing 115 = .ok (.getfield 133, 3) := by decide +kernel
theorem dX12_drawing_118 : decode cX12_drawing 118 = .ok (.isub, 1) := by decide +kernel
theorem dX12_drawing_119 : decode cX12_drawing 119 = .ok (.ireturn, 1) := by decide +kernel
theorem dX12_drawing_120 : decode cX12_drawing 120 = .ok (.aload_n 0, 1) := by decide +kernel
theorem dX12_drawing_121 : decode cX12_drawing 121 = .ok (.getfield 13, 3) := by decide +kernel
theorem dX12_drawing_124 : decode cX12_drawing 124 = .ok (.iconst 1, 1) := by decide +kernel
theorem dX12_drawing_125 : decode cX12_drawing 125 = .ok (.aload_n 0, 1) := by decide +kernel
theorem dX12_drawing_126 : decode cX12_drawing 126 = .ok (.getfield 143, 3) := by decide +kernel
theorem dX12_drawing_129 : decode cX12_drawing 129 = .ok (.iastore, 1) := by decide +kernel
theorem dX12_drawing_130 : decode cX12_drawing 130 = .ok (.aload_n 0, 1) := by decide +kernel
theorem dX12_drawing_131 : decode cX12_drawing 131 = .ok (.invokevirtual 223, 3) := by decide +kernel
theorem dX12_drawing_134 : decode cX12_drawing 134 = .ok (.ifCond .ne 10, 3) := by decide +kernel
theorem dX12_drawing_137 : decode cX12_drawing 137 = .ok (.iconst (-1), 1) := by decide +kernel
theorem dX12_drawing_138 : decode cX12_drawing 138 = .ok (.aload_n 0, 1) := by decide +kernel
theorem dX12_drawing_139 : decode cX12_drawing 139 = .ok (.getfield 133, 3) := by decide +kernel
theorem dX12_drawing_142 : decode cX12_drawing 142 = .ok (.isub, 1) := by decide +kernel
theorem dX12_drawing_143 : decode cX12_drawing 143 = .ok (.ireturn, 1) := by decide +kernel
theorem dX12_drawing_144 : decode cX12_drawing 144 = .ok (.aload_n 0, 1) := by decide +kernel
theorem dX12_drawing_145 : decode cX12_drawing 145 = .ok (.getfield 98, 3) := by decide +kernel
theorem dX12_drawing_148 : decode cX12_drawing 148 = .ok (.ifCond .eq 17, 3) := by decide +kernel
theorem dX12_drawing_151 : decode cX12_drawing 151 = .ok (.aload_n 0, 1) := by decide +kernel
theorem dX12_drawing_152 : decode cX12_drawing 152 = .ok (.invokevirtual 226, 3) := by decide +kernel
theorem dX12_drawing_155 : decode cX12_drawing 155 = .ok (.ifCond .ne (-11), 3) := by decide +kernel
theorem dX12_drawing_158 : decode cX12_drawing 158 = .ok (.iconst (-1), 1) := by decide +kernel
theorem dX12_drawing_159 : decode cX12_drawing 159 = .ok (.aload_n 0, 1) := by decide +kernel
theorem dX12_drawing_160 : decode cX12_drawing 160 = .ok (.getfield 133, 3) := by decide +kernel
theorem dX12_drawing_163 : decode cX12_drawing 163 = .ok (.isub, 1) := by decide +kernel
theorem dX12_drawing_164 : decode cX12_drawing 164 = .ok (.ireturn, 1) := by decide +kernel
theorem dX12_drawing_165 : decode cX12_drawing 165 = .ok (.aload_n 0, 1) := by decide +kernel
theorem dX12_drawing_166 : decode cX12_drawing 166 = .ok (.getfield 16, 3) := by decide +kernel
theorem dX12_drawing_169 : decode cX12_drawing 169 = .ok (.iconst 1, 1) := by decide +kernel
theorem dX12_drawing_170 : decode cX12_drawing 170 = .ok (.iaload, 1) := by decide +kernel
theorem dX12_drawing_171 : decode cX12_drawing 171 = .ok (.iconst (-1), 1) := by decide +kernel
theorem dX12_drawing_172 : decode cX12_drawing 172 = .ok (.if_icmp .ne 10, 3) := by decide +kernel
theorem dX12_drawing_175 : decode cX12_drawing 175 = .ok (.aload_n 0, 1) := by decide +kernel
theorem dX12_drawing_176 : decode cX12_drawing 176 = .ok (.getfield 16, 3) := by decide +kernel
theorem dX12_drawing_179 : decode cX12_drawing 179 = .ok (.iconst 1, 1) := by decide +kernel
theorem dX12_drawing_180 : decode cX12_drawing 180 = .ok (.iconst 0, 1) := by decide +kernel
theorem dX12_drawing_181 : decode cX12_drawing 181 = .ok (.iastore, 1) := by decide +kernel
theorem dX12_drawing_182 : decode cX12_drawing 182 = .ok (.aload_n 0, 1) := by decide +kernel
theorem dX12_drawing_183 : decode cX12_drawing 183 = .ok (.iconst 1, 1) := by decide +kernel
theorem dX12_drawing_184 : decode cX12_drawing 184 = .ok (.iconst 0, 1) := by decide +kernel
theorem dX12_drawing_185 : decode cX12_drawing 185 = .ok (.invokevirtual 229, 3) := by decide +kernel
theorem dX12_drawing_188 : decode cX12_drawing 188 = .ok (.aload_n 0, 1) := by decide +kernel
theorem dX12_drawing_189 : decode cX12_drawing 189 = .ok (.getfield 19, 3) := by decide +kernel
theorem dX12_drawing_192 : decode cX12_drawing 192 = .ok (.iconst 0, 1) := by decide +kernel
theorem dX12_drawing_193 : decode cX12_drawing 193 = .ok (.iaload, 1) := by decide +kernel
theorem dX12_drawing_194 : decode cX12_drawing 194 = .ok (.ireturn, 1) := by decide +kernel
def E_X12_drawing_144 (G : GT) (d : Nat) (h0 hb : PH) (l0 : Nat) (Q : Int32 → PH → Prop) (s : PH) : Prop := qEx hb s ∧ qn s = qn hb ∧ qz s = qz hb → Ex G (qrm (8 + d) 0 0) mX12_drawing (qn h0) (qz h0) (ZN G h0 0 0 (qqi Q)) 144 [(0, .ref l0)] [] s
def wb_X12_drawing_144 (l0 : Nat)  (Q : Int32 → PH → Prop) (bk144 : PH → Prop)  (h : PH) : Prop := (((qI h l0 7) = 0 → (∃ b34, qR h l0 15 = some b34 ∧ (vp_in 1 (qL h b34) ∧ ((¬ (qI h b34 (1 : Int32).toNatClampNeg) = (-1) → (wp_X12_copy l0 1 0 h (fun h38 => (∃ b40, qR h38 l0 16 = some b40 ∧ (vp_in 0 (qL h38 b40) ∧ Q (qI h38 b40 (0 : Int32).toNatClampNeg) h38))))) ∧ ((qI h b34 (1 : Int32).toNatClampNeg) = (-1) → (∃ b43, qR h l0 15 = some b43 ∧ (vp_in 1 (qL h b43) ∧ ∀ h45, h45 = qsI h b43 (1 : Int32).toNatClampNeg 0 → (wp_X12_copy l0 1 0 h45 (fun h47 => (∃ b49, qR h47 l0 16 = some b49 ∧ (vp_in 0 (qL h47 b49) ∧ Q (qI h47 b49 (0 : Int32).toNatClampNeg) h47))))))))))) ∧ (¬ ((qI h l0 7) = 0) → (wp_X12_readLine l0 h (fun r53 h52 => ((¬ r53 = 0 → bk144 h52) ∧ (r53 = 0 → Q ((-1) - (qI h52 l0 11)) h52))))))
def wp_X12_drawing_144 (l0 : Nat)  (Q : Int32 → PH → Prop) (bk144 : PH → Prop) (s : PH) : Prop := wb_X12_drawing_144 l0 Q bk144 s
set_option maxHeartbeats 4000000 in
set_option maxRecDepth 100000 in
theorem bd_X12_drawing_144 (G : GT) (d : Nat) (h0 hb : PH) (l0 : Nat) (Q : Int32 → PH → Prop)  (hex : qEx h0 hb) (hnn : qn hb = qn h0 + 0) (hzz : qz hb = qz h0 + 0) (okl0 : qOK hb 11 l0) (bk144 : PH → Prop) (hbk144 : ∀ s2, bk144 s2 → E_X12_drawing_144 G d h0 hb l0 Q s2)  (h : PH) (hwp : wb_X12_drawing_144 l0 Q bk144 h) (hx144 : qEx hb h) (hn144 : qn h = qn hb) (hz144 : qz h = qz hb) : Ex G (qrm (8 + d) 0 0) mX12_drawing (qn h0) (qz h0) (ZN G h0 0 0 (qqi Q)) 144 [(0, .ref l0)] [] h := by
  unfold wb_X12_drawing_144 at hwp
  have hex := hex.tr hx144
  have hnn := hn144.trans hnn
  have hzz := hz144.trans hzz
  have okl0 := okl0.ex hx144
  refine x_aload_n (pc := 144) dX12_drawing_144 rfl ?_
  refine x_getI (pc := 145) dX12_drawing_145 qRX12_98 okl0 (by decide) ?_
  refine x_if_eq (tgt := 165) (pc := 148) dX12_drawing_148 (by decide) (fun c33 => ?_) (fun c33 => ?_)
  · have hwp := hwp.1 c33
    refine x_aload_n (pc := 165) dX12_drawing_165 rfl ?_
    obtain ⟨b34, e35, hwp⟩ := hwp
    refine x_getR (pc := 166) dX12_drawing_166 qRX12_16 okl0 e35 (fun okb34 => ?_)
    refine x_iconst (v := 1) (pc := 169) dX12_drawing_169 (by decide) ?_
    obtain ⟨i36, hwp⟩ := hwp
    refine x_iaload (pc := 170) dX12_drawing_170 okb34 i36 ?_
    refine x_iconst (v := (-1)) (pc := 171) dX12_drawing_171 (by decide) ?_
    refine x_icmp_ne (tgt := 182) (pc := 172) dX12_drawing_172 (by decide) (fun c37 => ?_) (fun c37 => ?_)
    · have hwp := hwp.1 c37
      refine x_aload_n (pc := 182) dX12_drawing_182 rfl ?_
      refine x_iconst (v := 1) (pc := 183) dX12_drawing_183 (by decide) ?_
      refine x_iconst (v := 0) (pc := 184) dX12_drawing_184 (by decide) ?_
      refine x_invV (As := [.int 1, .int 0]) (st := []) (pc := 185) dX12_drawing_185 lRX12_229 fX12_copy vX12_copy okl0 rfl (Nat.le_of_ble_eq_true rfl) (q_R (by omega) (by decide)) (q_C hnn hzz (by decide) (by decide)) (sn_X12_copy G (d + 7) l0 1 0 h _ okl0 hwp) (k_v (fun h38 hwp cxh38 => ?_))
      have hex := hex.tr cxh38.1
      have hnn : qn h38 = qn h0 + 0 := by have := cxh38.2.1; omega
      have hzz : qz h38 = qz h0 + 0 := by have := cxh38.2.2; omega
      have hx144 := hx144.tr cxh38.1
      have hn144 : qn h38 = qn hb := by have := cxh38.2.1; omega
      have hz144 : qz h38 = qz hb := by have := cxh38.2.2; omega
      have okl0 := okl0.ex cxh38.1
      have okb34 := okb34.ex cxh38.1
      refine x_aload_n (pc := 188) dX12_drawing_188 rfl ?_
      obtain ⟨b40, e41, hwp⟩ := hwp
      refine x_getR (pc := 189) dX12_drawing_189 qRX12_19 okl0 e41 (fun okb40 => ?_)
      refine x_iconst (v := 0) (pc := 192) dX12_drawing_192 (by decide) ?_
      obtain ⟨i42, hwp⟩ := hwp
      refine x_iaload (pc := 193) dX12_drawing_193 okb40 i42 ?_
      exact x_iret (pc := 194) dX12_drawing_194 rfl hex hnn hzz ⟨_, rfl, hwp⟩
    · have hwp := hwp.2 c37
      refine x_aload_n (pc := 175) dX12_drawing_175 rfl ?_
      obtain ⟨b43, e44, hwp⟩ := hwp
      refine x_getR (pc := 176) dX12_drawing_176 qRX12_16 okl0 e44 (fun okb43 => ?_)
      refine x_iconst (v := 1) (pc := 179) dX12_drawing_179 (by decide) ?_
      refine x_iconst (v := 0) (pc := 180) dX12_drawing_180 (by decide) ?_
      obtain ⟨i46, hwp⟩ := hwp
      refine y_iastore (pc := 181) dX12_drawing_181 okb43 i46 (fun h45 eh45 nxh45 => ?_)
      have hwp := hwp h45 eh45
      have hex := hex.tr nxh45.1
      have hnn := nxh45.2.1.trans hnn
      have hzz := nxh45.2.2.trans hzz
      have hx144 := hx144.tr nxh45.1
      have hn144 := nxh45.2.1.trans hn144
      have hz144 := nxh45.2.2.trans hz144
      have okl0 := okl0.ex nxh45.1
      have okb34 := okb34.ex nxh45.1
      have okb43 := okb43.ex nxh45.1
      refine x_aload_n (pc := 182) dX12_drawing_182 rfl ?_
      refine x_iconst (v := 1) (pc := 183) dX12_drawing_183 (by decide) ?_
      refine x_iconst (v := 0) (pc := 184) dX12_drawing_184 (by decide) ?_
      refine x_invV (As := [.int 1, .int 0]) (st := []) (pc := 185) dX12_drawing_185 lRX12_229 fX12_copy vX12_copy okl0 rfl (Nat.le_of_ble_eq_true rfl) (q_R (by omega) (by decide)) (q_C hnn hzz (by decide) (by decide)) (sn_X12_copy G (d + 7) l0 1 0 h45 _ okl0 hwp) (k_v (fun h47 hwp cxh47 => ?_))
      have hex := hex.tr cxh47.1
      have hnn : qn h47 = qn h0 + 0 := by have := cxh47.2.1; omega
      have hzz : qz h47 = qz h0 + 0 := by have := cxh47.2.2; omega
      have hx144 := hx144.tr cxh47.1
      have hn144 : qn h47 = qn hb := by have := cxh47.2.1; omega
      have hz144 : qz h47 = qz hb := by have := cxh47.2.2; omega
      have okl0 := okl0.ex cxh47.1
      have okb34 := okb34.ex cxh47.1
      have okb43 := okb43.ex cxh47.1
      refine x_aload_n (pc := 188) dX12_drawing_188 rfl ?_
      obtain ⟨b49, e50, hwp⟩ := hwp
      refine x_getR (pc := 189) dX12_drawing_189 qRX12_19 okl0 e50 (fun okb49 => ?_)
      refine x_iconst (v := 0) (pc := 192) dX12_drawing_192 (by decide) ?_
      obtain ⟨i51, hwp⟩ := hwp
      refine x_iaload (pc := 193) dX12_drawing_193 okb49 i51 ?_
      exact x_iret (pc := 194) dX12_drawing_194 rfl hex hnn hzz ⟨_, rfl, hwp⟩
  · have hwp := hwp.2 c33
    refine x_aload_n (pc := 151) dX12_drawing_151 rfl ?_
    refine x_invV (As := []) (st := []) (pc := 152) dX12_drawing_152 lRX12_226 fX12_readLine vX12_readLine okl0 rfl (Nat.le_of_ble_eq_true rfl) (q_R (by omega) (by decide)) (q_C hnn hzz (by decide) (by decide)) (sn_X12_readLine G (d + 0) l0 h _ okl0 hwp) (k_b (fun r53 h52 hwp zbr53 cxh52 => ?_))
    have hex := hex.tr cxh52.1
    have hnn : qn h52 = qn h0 + 0 := by have := cxh52.2.1; omega
    have hzz : qz h52 = qz h0 + 0 := by have := cxh52.2.2; omega
    have hx144 := hx144.tr cxh52.1
    have hn144 : qn h52 = qn hb := by have := cxh52.2.1; omega
    have hz144 : qz h52 = qz hb := by have := cxh52.2.2; omega
    have okl0 := okl0.ex cxh52.1
    refine x_if_ne (tgt := 144) (pc := 155) dX12_drawing_155 (by decide) (fun c54 => ?_) (fun c54 => ?_)
    · have hwp := hwp.1 c54
      refine x_sub [0] rfl ?_
      exact hbk144 _ hwp ⟨hx144, hn144, hz144⟩
    · have hwp := hwp.2 c54
      refine x_iconst (v := (-1)) (pc := 158) dX12_drawing_158 (by decide) ?_
      refine x_aload_n (pc := 159) dX12_drawing_159 rfl ?_
      refine x_getI (pc := 160) dX12_drawing_160 qRX12_133 okl0 (by decide) ?_
      refine x_isub (pc := 163) dX12_drawing_163 ?_
      exact x_iret (pc := 164) dX12_drawing_164 rfl hex hnn hzz ⟨_, rfl, hwp⟩
theorem lp_X12_drawing_144 (G : GT) (d : Nat) (h0 hb : PH) (l0 : Nat) (Q : Int32 → PH → Prop)  (hex : qEx h0 hb) (hnn : qn hb = qn h0 + 0) (hzz : qz hb = qz h0 + 0) (okl0 : qOK hb 11 l0) {s : PH} (hwp : qLoop (wp_X12_drawing_144 l0 Q) s) : E_X12_drawing_144 G d h0 hb l0 Q s :=
  qLoop.use (E := E_X12_drawing_144 G d h0 hb l0 Q) (fun back s hbk hw hx => bd_X12_drawing_144 G d h0 hb l0 Q hex hnn hzz okl0 back hbk s hw hx.1 hx.2.1 hx.2.2) hwp
def wp_X12_drawing_102 (l0 : Nat)  (h : PH) (Q : Int32 → PH → Prop) : Prop := (wp_X12_readNumber l0 8 48 h (fun r56 h55 => ((¬ r56 = 0 → (∃ b58, qR h55 l0 14 = some b58 ∧ (vp_in 1 (qL h55 b58) ∧ ∀ h60, h60 = qsI h55 b58 (1 : Int32).toNatClampNeg (qI h55 l0 13) → (wp_X12_readEnd l0 h60 (fun r63 h62 => ((¬ r63 = 0 → (qLoop (wp_X12_drawing_144 l0 Q) h62)) ∧ (r63 = 0 → Q ((-1) - (qI h62 l0 11)) h62))))))) ∧ (r56 = 0 → Q ((-1) - (qI h55 l0 11)) h55))))
set_option maxHeartbeats 4000000 in
set_option maxRecDepth 100000 in
theorem sg_X12_drawing_102 (G : GT) (d : Nat) (h0 : PH) (l0 : Nat) (h : PH) (Q : Int32 → PH → Prop) (hex : qEx h0 h) (hnn : qn h = qn h0 + 0) (hzz : qz h = qz h0 + 0) (okl0 : qOK h 11 l0) (hwp : wp_X12_drawing_102 l0 h Q) : Ex G (qrm (8 + d) 0 0) mX12_drawing (qn h0) (qz h0) (ZN G h0 0 0 (qqi Q)) 102 [(0, .ref l0)] [] h := by
  unfold wp_X12_drawing_102 at hwp
  refine x_aload_n (pc := 102) dX12_drawing_102 rfl ?_
  refine x_bipush (v := 8) (pc := 103) dX12_drawing_103 (by decide) ?_
  refine x_bipush (v := 48) (pc := 105) dX12_drawing_105 (by decide) ?_
  refine x_invV (As := [.int 8, .int 48]) (st := []) (pc := 107) dX12_drawing_107 lRX12_201 fX12_readNumber vX12_readNumber okl0 rfl (Nat.le_of_ble_eq_true rfl) (q_R (by omega) (by decide)) (q_C hnn hzz (by decide) (by decide)) (sn_X12_readNumber G (d + 5) l0 8 48 h _ okl0 hwp) (k_b (fun r56 h55 hwp zbr56 cxh55 => ?_))
  have hex := hex.tr cxh55.1
  have hnn : qn h55 = qn h0 + 0 := by have := cxh55.2.1; omega
  have hzz : qz h55 = qz h0 + 0 := by have := cxh55.2.2; omega
  have okl0 := okl0.ex cxh55.1
  refine x_if_ne (tgt := 120) (pc := 110) dX12_drawing_110 (by decide) (fun c57 => ?_) (fun c57 => ?_)
  · have hwp := hwp.1 c57
    refine x_aload_n (pc := 120) dX12_drawing_120 rfl ?_
    obtain ⟨b58, e59, hwp⟩ := hwp
    refine x_getR (pc := 121) dX12_drawing_121 qRX12_13 okl0 e59 (fun okb58 => ?_)
    refine x_iconst (v := 1) (pc := 124) dX12_drawing_124 (by decide) ?_
    refine x_aload_n (pc := 125) dX12_drawing_125 rfl ?_
    refine x_getI (pc := 126) dX12_drawing_126 qRX12_143 okl0 (by decide) ?_
    obtain ⟨i61, hwp⟩ := hwp
    refine y_iastore (pc := 129) dX12_drawing_129 okb58 i61 (fun h60 eh60 nxh60 => ?_)
    have hwp := hwp h60 eh60
    have hex := hex.tr nxh60.1
    have hnn := nxh60.2.1.trans hnn
    have hzz := nxh60.2.2.trans hzz
    have okl0 := okl0.ex nxh60.1
    have okb58 := okb58.ex nxh60.1
    refine x_aload_n (pc := 130) dX12_drawing_130 rfl ?_
    refine x_invV (As := []) (st := []) (pc := 131) dX12_drawing_131 lRX12_223 fX12_readEnd vX12_readEnd okl0 rfl (Nat.le_of_ble_eq_true rfl) (q_R (by omega) (by decide)) (q_C hnn hzz (by decide) (by decide)) (sn_X12_readEnd G (d + 5) l0 h60 _ okl0 hwp) (k_b (fun r63 h62 hwp zbr63 cxh62 => ?_))
    have hex := hex.tr cxh62.1
    have hnn : qn h62 = qn h0 + 0 := by have := cxh62.2.1; omega
    have hzz : qz h62 = qz h0 + 0 := by have := cxh62.2.2; omega
    have okl0 := okl0.ex cxh62.1
    have okb58 := okb58.ex cxh62.1
    refine x_if_ne (tgt := 144) (pc := 134) dX12_drawing_134 (by decide) (fun c64 => ?_) (fun c64 => ?_)
    · have hwp := hwp.1 c64
      refine x_sub [0] rfl ?_
      exact lp_X12_drawing_144 G d h0 h62 l0 Q hex hnn hzz okl0 hwp ⟨qEx.rf _, rfl, rfl⟩
    · have hwp := hwp.2 c64
      refine x_iconst (v := (-1)) (pc := 137) dX12_drawing_137 (by decide) ?_
      refine x_aload_n (pc := 138) dX12_drawing_138 rfl ?_
      refine x_getI (pc := 139) dX12_drawing_139 qRX12_133 okl0 (by decide) ?_
      refine x_isub (pc := 142) dX12_drawing_142 ?_
      exact x_iret (pc := 143) dX12_drawing_143 rfl hex hnn hzz ⟨_, rfl, hwp⟩
  · have hwp := hwp.2 c57
    refine x_iconst (v := (-1)) (pc := 113) dX12_drawing_113 (by decide) ?_
    refine x_aload_n (pc := 114) dX12_drawing_114 rfl ?_
    refine x_getI (pc := 115) dX12_drawing_115 qRX12_133 okl0 (by decide) ?_
    refine x_isub (pc := 118) dX12_drawing_118 ?_
    exact x_iret (pc := 119) dX12_drawing_119 rfl hex hnn hzz ⟨_, rfl, hwp⟩
def wp_X12_drawing (l0 : Nat) (h : PH) (Q : Int32 → PH → Prop) : Prop := (∀ h1, h1 = qsI h l0 0 0 → (wp_X12_lay l0 h1 (fun h2 => (wp_X12_take l0 h2 (fun r5 h4 => (∀ h6, h6 = qsI h4 l0 3 r5 → (∀ h7, h7 = qsI h6 l0 4 600 → (∀ h8, h8 = qsI h7 l0 10 0 → (∃ b9, qR h8 l0 14 = some b9 ∧ (vp_in 1 (qL h8 b9) ∧ ∀ h11, h11 = qsI h8 b9 (1 : Int32).toNatClampNeg 24 → (∃ b13, qR h11 l0 15 = some b13 ∧ (vp_in 1 (qL h11 b13) ∧ ∀ h15, h15 = qsI h11 b13 (1 : Int32).toNatClampNeg (-1) → (∃ b17, qR h15 l0 16 = some b17 ∧ (vp_in 1 (qL h15 b17) ∧ ∀ h19, h19 = qsI h15 b17 (1 : Int32).toNatClampNeg 0 → (∀ h21, h21 = qsI h19 l0 5 0 → (wp_X12_go l0 h21 (fun h22 => (wp_X12_isTurn l0 h22 (fun r25 h24 => ((r25 = 0 → (qLoop (wp_X12_drawing_144 l0 Q) h24)) ∧ (¬ (r25 = 0) → (wp_X12_go l0 h24 (fun h27 => ((¬ (qI h27 l0 7) = 3 → (wp_X12_drawing_102 l0 h27 Q)) ∧ ((qI h27 l0 7) = 3 → ((¬ ((qI h27 l0 8) - (qI h27 l0 8) / 2 * 2) = 1 → (wp_X12_drawing_102 l0 h27 Q)) ∧ (((qI h27 l0 8) - (qI h27 l0 8) / 2 * 2) = 1 → (wp_X12_bad l0 2 h27 (fun r32 h31 => Q ((-1) - (qI h31 l0 11)) h31)))))))))))))))))))))))))))))
set_option maxHeartbeats 4000000 in
set_option maxRecDepth 100000 in
theorem sn_X12_drawing (G : GT) (d : Nat) (l0 : Nat) (h : PH) (Q : Int32 → PH → Prop) (okl0 : qOK h 11 l0) (hwp : wp_X12_drawing l0 h Q) : Mt G (8 + d) 0 0 mX12_drawing [.ref l0] h (qqi Q) := by
  unfold wp_X12_drawing at hwp
  refine Mt.of (by decide) rfl (Nat.le_of_ble_eq_true rfl) ?_
  have hex := qEx.rf h
  have hnn : qn h = qn h + 0 := rfl
  have hzz : qz h = qz h + 0 := rfl
  refine x_lvE (lv2 := [(0, .ref l0)]) rfl ?_
  refine x_aload_n (pc := 0) dX12_drawing_0 rfl ?_
  refine x_iconst (v := 0) (pc := 1) dX12_drawing_1 (by decide) ?_
  refine y_putI (pc := 2) dX12_drawing_2 qRX12_75 okl0 (fun h1 eh1 nxh1 => ?_)
  have hwp := hwp h1 eh1
  have hex := hex.tr nxh1.1
  have hnn := nxh1.2.1.trans hnn
  have hzz := nxh1.2.2.trans hzz
  have okl0 := okl0.ex nxh1.1
  refine x_aload_n (pc := 5) dX12_drawing_5 rfl ?_
  refine x_invV (As := []) (st := []) (pc := 6) dX12_drawing_6 lRX12_217 fX12_lay vX12_lay okl0 rfl (Nat.le_of_ble_eq_true rfl) (q_R (by omega) (by decide)) (q_C hnn hzz (by decide) (by decide)) (sn_X12_lay G (d + 7) l0 h1 _ okl0 hwp) (k_v (fun h2 hwp cxh2 => ?_))
  have hex := hex.tr cxh2.1
  have hnn : qn h2 = qn h + 0 := by have := cxh2.2.1; omega
  have hzz : qz h2 = qz h + 0 := by have := cxh2.2.2; omega
  have okl0 := okl0.ex cxh2.1
  refine x_aload_n (pc := 9) dX12_drawing_9 rfl ?_
  refine x_aload_n (pc := 10) dX12_drawing_10 rfl ?_
  refine x_invV (As := []) (st := [.ref l0]) (pc := 11) dX12_drawing_11 lRX12_220 fX12_take vX12_take okl0 rfl (Nat.le_of_ble_eq_true rfl) (q_R (by omega) (by decide)) (q_C hnn hzz (by decide) (by decide)) (sn_X12_take G (d + 7) l0 h2 _ okl0 hwp) (k_i (fun r5 h4 hwp cxh4 => ?_))
  have hex := hex.tr cxh4.1
  have hnn : qn h4 = qn h + 0 := by have := cxh4.2.1; omega
  have hzz : qz h4 = qz h + 0 := by have := cxh4.2.2; omega
  have okl0 := okl0.ex cxh4.1
  refine y_putI (pc := 14) dX12_drawing_14 qRX12_86 okl0 (fun h6 eh6 nxh6 => ?_)
  have hwp := hwp h6 eh6
  have hex := hex.tr nxh6.1
  have hnn := nxh6.2.1.trans hnn
  have hzz := nxh6.2.2.trans hzz
  have okl0 := okl0.ex nxh6.1
  refine x_aload_n (pc := 17) dX12_drawing_17 rfl ?_
  refine x_sipush (v := 600) (pc := 18) dX12_drawing_18 (by decide) ?_
  refine y_putI (pc := 21) dX12_drawing_21 qRX12_95 okl0 (fun h7 eh7 nxh7 => ?_)
  have hwp := hwp h7 eh7
  have hex := hex.tr nxh7.1
  have hnn := nxh7.2.1.trans hnn
  have hzz := nxh7.2.2.trans hzz
  have okl0 := okl0.ex nxh7.1
  refine x_aload_n (pc := 24) dX12_drawing_24 rfl ?_
  refine x_iconst (v := 0) (pc := 25) dX12_drawing_25 (by decide) ?_
  refine y_putI (pc := 26) dX12_drawing_26 qRX12_130 okl0 (fun h8 eh8 nxh8 => ?_)
  have hwp := hwp h8 eh8
  have hex := hex.tr nxh8.1
  have hnn := nxh8.2.1.trans hnn
  have hzz := nxh8.2.2.trans hzz
  have okl0 := okl0.ex nxh8.1
  refine x_aload_n (pc := 29) dX12_drawing_29 rfl ?_
  obtain ⟨b9, e10, hwp⟩ := hwp
  refine x_getR (pc := 30) dX12_drawing_30 qRX12_13 okl0 e10 (fun okb9 => ?_)
  refine x_iconst (v := 1) (pc := 33) dX12_drawing_33 (by decide) ?_
  refine x_bipush (v := 24) (pc := 34) dX12_drawing_34 (by decide) ?_
  obtain ⟨i12, hwp⟩ := hwp
  refine y_iastore (pc := 36) dX12_drawing_36 okb9 i12 (fun h11 eh11 nxh11 => ?_)
  have hwp := hwp h11 eh11
  have hex := hex.tr nxh11.1
  have hnn := nxh11.2.1.trans hnn
  have hzz := nxh11.2.2.trans hzz
  have okl0 := okl0.ex nxh11.1
  have okb9 := okb9.ex nxh11.1
  refine x_aload_n (pc := 37) dX12_drawing_37 rfl ?_
  obtain ⟨b13, e14, hwp⟩ := hwp
  refine x_getR (pc := 38) dX12_drawing_38 qRX12_16 okl0 e14 (fun okb13 => ?_)
  refine x_iconst (v := 1) (pc := 41) dX12_drawing_41 (by decide) ?_
  refine x_iconst (v := (-1)) (pc := 42) dX12_drawing_42 (by decide) ?_
  obtain ⟨i16, hwp⟩ := hwp
  refine y_iastore (pc := 43) dX12_drawing_43 okb13 i16 (fun h15 eh15 nxh15 => ?_)
  have hwp := hwp h15 eh15
  have hex := hex.tr nxh15.1
  have hnn := nxh15.2.1.trans hnn
  have hzz := nxh15.2.2.trans hzz
  have okl0 := okl0.ex nxh15.1
  have okb9 := okb9.ex nxh15.1
  have okb13 := okb13.ex nxh15.1
  refine x_aload_n (pc := 44) dX12_drawing_44 rfl ?_
  obtain ⟨b17, e18, hwp⟩ := hwp
  refine x_getR (pc := 45) dX12_drawing_45 qRX12_19 okl0 e18 (fun okb17 => ?_)
  refine x_iconst (v := 1) (pc := 48) dX12_drawing_48 (by decide) ?_
  refine x_iconst (v := 0) (pc := 49) dX12_drawing_49 (by decide) ?_
  obtain ⟨i20, hwp⟩ := hwp
  refine y_iastore (pc := 50) dX12_drawing_50 okb17 i20 (fun h19 eh19 nxh19 => ?_)
  have hwp := hwp h19 eh19
  have hex := hex.tr nxh19.1
  have hnn := nxh19.2.1.trans hnn
  have hzz := nxh19.2.2.trans hzz
  have okl0 := okl0.ex nxh19.1
  have okb9 := okb9.ex nxh19.1
  have okb13 := okb13.ex nxh19.1
  have okb17 := okb17.ex nxh19.1
  refine x_aload_n (pc := 51) dX12_drawing_51 rfl ?_
  refine x_iconst (v := 0) (pc := 52) dX12_drawing_52 (by decide) ?_
  refine y_putI (pc := 53) dX12_drawing_53 qRX12_89 okl0 (fun h21 eh21 nxh21 => ?_)
  have hwp := hwp h21 eh21
  have hex := hex.tr nxh21.1
  have hnn := nxh21.2.1.trans hnn
  have hzz := nxh21.2.2.trans hzz
  have okl0 := okl0.ex nxh21.1
  have okb9 := okb9.ex nxh21.1
  have okb13 := okb13.ex nxh21.1
  have okb17 := okb17.ex nxh21.1
  refine x_aload_n (pc := 56) dX12_drawing_56 rfl ?_
  refine x_invV (As := []) (st := []) (pc := 57) dX12_drawing_57 lRX12_146 fX12_go vX12_go okl0 rfl (Nat.le_of_ble_eq_true rfl) (q_R (by omega) (by decide)) (q_C hnn hzz (by decide) (by decide)) (sn_X12_go G (d + 6) l0 h21 _ okl0 hwp) (k_v (fun h22 hwp cxh22 => ?_))
  have hex := hex.tr cxh22.1
  have hnn : qn h22 = qn h + 0 := by have := cxh22.2.1; omega
  have hzz : qz h22 = qz h + 0 := by have := cxh22.2.2; omega
  have okl0 := okl0.ex cxh22.1
  have okb9 := okb9.ex cxh22.1
  have okb13 := okb13.ex cxh22.1
  have okb17 := okb17.ex cxh22.1
  refine x_aload_n (pc := 60) dX12_drawing_60 rfl ?_
  refine x_invV (As := []) (st := []) (pc := 61) dX12_drawing_61 lRX12_171 fX12_isTurn vX12_isTurn okl0 rfl (Nat.le_of_ble_eq_true rfl) (q_R (by omega) (by decide)) (q_C hnn hzz (by decide) (by decide)) (sn_X12_isTurn G (d + 6) l0 h22 _ okl0 hwp) (k_b (fun r25 h24 hwp zbr25 cxh24 => ?_))
  have hex := hex.tr cxh24.1
  have hnn : qn h24 = qn h + 0 := by have := cxh24.2.1; omega
  have hzz : qz h24 = qz h + 0 := by have := cxh24.2.2; omega
  have okl0 := okl0.ex cxh24.1
  have okb9 := okb9.ex cxh24.1
  have okb13 := okb13.ex cxh24.1
  have okb17 := okb17.ex cxh24.1
  refine x_if_eq (tgt := 144) (pc := 64) dX12_drawing_64 (by decide) (fun c26 => ?_) (fun c26 => ?_)
  · have hwp := hwp.1 c26
    refine x_sub [0] rfl ?_
    exact lp_X12_drawing_144 G d h h24 l0 Q hex hnn hzz okl0 hwp ⟨qEx.rf _, rfl, rfl⟩
  · have hwp := hwp.2 c26
    refine x_aload_n (pc := 67) dX12_drawing_67 rfl ?_
    refine x_invV (As := []) (st := []) (pc := 68) dX12_drawing_68 lRX12_146 fX12_go vX12_go okl0 rfl (Nat.le_of_ble_eq_true rfl) (q_R (by omega) (by decide)) (q_C hnn hzz (by decide) (by decide)) (sn_X12_go G (d + 6) l0 h24 _ okl0 hwp) (k_v (fun h27 hwp cxh27 => ?_))
    have hex := hex.tr cxh27.1
    have hnn : qn h27 = qn h + 0 := by have := cxh27.2.1; omega
    have hzz : qz h27 = qz h + 0 := by have := cxh27.2.2; omega
    have okl0 := okl0.ex cxh27.1
    have okb9 := okb9.ex cxh27.1
    have okb13 := okb13.ex cxh27.1
    have okb17 := okb17.ex cxh27.1
    refine x_aload_n (pc := 71) dX12_drawing_71 rfl ?_
    refine x_getI (pc := 72) dX12_drawing_72 qRX12_98 okl0 (by decide) ?_
    refine x_iconst (v := 3) (pc := 75) dX12_drawing_75 (by decide) ?_
    refine x_icmp_ne (tgt := 102) (pc := 76) dX12_drawing_76 (by decide) (fun c29 => ?_) (fun c29 => ?_)
    · have hwp := hwp.1 c29
      refine x_sub [0] rfl ?_
      exact sg_X12_drawing_102 G d h l0 h27 Q hex hnn hzz okl0 hwp
    · have hwp := hwp.2 c29
      refine x_aload_n (pc := 79) dX12_drawing_79 rfl ?_
      refine x_getI (pc := 80) dX12_drawing_80 qRX12_115 okl0 (by decide) ?_
      refine x_iconst (v := 2) (pc := 83) dX12_drawing_83 (by decide) ?_
      refine x_irem (pc := 84) dX12_drawing_84 (by decide) ?_
      refine x_iconst (v := 1) (pc := 85) dX12_drawing_85 (by decide) ?_
      refine x_icmp_ne (tgt := 102) (pc := 86) dX12_drawing_86 (by decide) (fun c30 => ?_) (fun c30 => ?_)
      · have hwp := hwp.1 c30
        refine x_sub [0] rfl ?_
        exact sg_X12_drawing_102 G d h l0 h27 Q hex hnn hzz okl0 hwp
      · have hwp := hwp.2 c30
        refine x_aload_n (pc := 89) dX12_drawing_89 rfl ?_
        refine x_iconst (v := 2) (pc := 90) dX12_drawing_90 (by decide) ?_
        refine x_invV (As := [.int 2]) (st := []) (pc := 91) dX12_drawing_91 lRX12_136 fX12_bad vX12_bad okl0 rfl (Nat.le_of_ble_eq_true rfl) (q_R (by omega) (by decide)) (q_C hnn hzz (by decide) (by decide)) (sn_X12_bad G (d + 7) l0 2 h27 _ okl0 hwp) (k_b (fun r32 h31 hwp zbr32 cxh31 => ?_))
        have hex := hex.tr cxh31.1
        have hnn : qn h31 = qn h + 0 := by have := cxh31.2.1; omega
        have hzz : qz h31 = qz h + 0 := by have := cxh31.2.2; omega
        have okl0 := okl0.ex cxh31.1
        have okb9 := okb9.ex cxh31.1
        have okb13 := okb13.ex cxh31.1
        have okb17 := okb17.ex cxh31.1
        refine x_pop (pc := 94) dX12_drawing_94 rfl ?_
        refine x_iconst (v := (-1)) (pc := 95) dX12_drawing_95 (by decide) ?_
        refine x_aload_n (pc := 96) dX12_drawing_96 rfl ?_
        refine x_getI (pc := 97) dX12_drawing_97 qRX12_133 okl0 (by decide) ?_
        refine x_isub (pc := 100) dX12_drawing_100 ?_
        exact x_iret (pc := 101) dX12_drawing_101 rfl hex hnn hzz ⟨_, rfl, hwp⟩

theorem dX12_fault_0 : decode cX12_fault 0 = .ok (.aload_n 0, 1) := by decide +kernel
theorem dX12_fault_1 : decode cX12_fault 1 = .ok (.iconst 0, 1) := by decide +kernel
theorem dX12_fault_2 : decode cX12_fault 2 = .ok (.putfield 75, 3) := by decide +kernel
theorem dX12_fault_5 : decode cX12_fault 5 = .ok (.aload_n 0, 1) := by decide +kernel
theorem dX12_fault_6 : decode cX12_fault 6 = .ok (.getfield 130, 3) := by decide +kernel
theorem dX12_fault_9 : decode cX12_fault 9 = .ok (.ireturn, 1) := by decide +kernel
def wp_X12_fault (l0 : Nat) (h : PH) (Q : Int32 → PH → Prop) : Prop := (∀ h1, h1 = qsI h l0 0 0 → Q (qI h1 l0 10) h1)
set_option maxHeartbeats 4000000 in
set_option maxRecDepth 100000 in
theorem sn_X12_fault (G : GT) (d : Nat) (l0 : Nat) (h : PH) (Q : Int32 → PH → Prop) (okl0 : qOK h 11 l0) (hwp : wp_X12_fault l0 h Q) : Mt G (0 + d) 0 0 mX12_fault [.ref l0] h (qqi Q) := by
  unfold wp_X12_fault at hwp
  refine Mt.of (by decide) rfl (Nat.le_of_ble_eq_true rfl) ?_
  have hex := qEx.rf h
  have hnn : qn h = qn h + 0 := rfl
  have hzz : qz h = qz h + 0 := rfl
  refine x_lvE (lv2 := [(0, .ref l0)]) rfl ?_
  refine x_aload_n (pc := 0) dX12_fault_0 rfl ?_
  refine x_iconst (v := 0) (pc := 1) dX12_fault_1 (by decide) ?_
  refine y_putI (pc := 2) dX12_fault_2 qRX12_75 okl0 (fun h1 eh1 nxh1 => ?_)
  have hwp := hwp h1 eh1
  have hex := hex.tr nxh1.1
  have hnn := nxh1.2.1.trans hnn
  have hzz := nxh1.2.2.trans hzz
  have okl0 := okl0.ex nxh1.1
  refine x_aload_n (pc := 5) dX12_fault_5 rfl ?_
  refine x_getI (pc := 6) dX12_fault_6 qRX12_130 okl0 (by decide) ?_
  exact x_iret (pc := 9) dX12_fault_9 rfl hex hnn hzz ⟨_, rfl, hwp⟩

theorem dX12_round_0 : decode cX12_round 0 = .ok (.iload_n 1, 1) := by decide +kernel
theorem dX12_round_1 : decode cX12_round 1 = .ok (.aload_n 0, 1) := by decide +kernel
theorem dX12_round_2 : decode cX12_round 2 = .ok (.getfield 13, 3) := by decide +kernel
theorem dX12_round_5 : decode cX12_round 5 = .ok (.iconst 0, 1) := by decide +kernel
theorem dX12_round_6 : decode cX12_round 6 = .ok (.iaload, 1) := by decide +kernel
theorem dX12_round_7 : decode cX12_round 7 = .ok (.irem, 1) := by decide +kernel
theorem dX12_round_8 : decode cX12_round 8 = .ok (.aload_n 0, 1) := by decide +kernel
theorem dX12_round_9 : decode cX12_round 9 = .ok (.getfield 13, 3) := by decide +kernel
theorem dX12_round_12 : decode cX12_round 12 = .ok (.iconst 0, 1) := by decide +kernel
theorem dX12_round_13 : decode cX12_round 13 = .ok (.iaload, 1) := by decide +kernel
theorem dX12_round_14 : decode cX12_round 14 = .ok (.iadd, 1) := by decide +kernel
theorem dX12_round_15 : decode cX12_round 15 = .ok (.aload_n 0, 1) := by decide +kernel
theorem dX12_round_16 : decode cX12_round 16 = .ok (.getfield 13, 3) := by decide +kernel
theorem dX12_round_19 : decode cX12_round 19 = .ok (.iconst 0, 1) := by decide +kernel
theorem dX12_round_20 : decode cX12_round 20 = .ok (.iaload, 1) := by decide +kernel
theorem dX12_round_21 : decode cX12_round 21 = .ok (.irem, 1) := by decide +kernel
theorem dX12_round_22 : decode cX12_round 22 = .ok (.ireturn, 1) := by decide +kernel
def wp_X12_round (l0 : Nat) (l1 : Int32) (h : PH) (Q : Int32 → PH → Prop) : Prop := (∃ b1, qR h l0 14 = some b1 ∧ (vp_in 0 (qL h b1) ∧ (¬ (qI h b1 (0 : Int32).toNatClampNeg) = 0 ∧ (∃ b5, qR h l0 14 = some b5 ∧ (vp_in 0 (qL h b5) ∧ (∃ b8, qR h l0 14 = some b8 ∧ (vp_in 0 (qL h b8) ∧ (¬ (qI h b8 (0 : Int32).toNatClampNeg) = 0 ∧ Q (((l1 - l1 / (qI h b1 (0 : Int32).toNatClampNeg) * (qI h b1 (0 : Int32).toNatClampNeg)) + (qI h b5 (0 : Int32).toNatClampNeg)) - ((l1 - l1 / (qI h b1 (0 : Int32).toNatClampNeg) * (qI h b1 (0 : Int32).toNatClampNeg)) + (qI h b5 (0 : Int32).toNatClampNeg)) / (qI h b8 (0 : Int32).toNatClampNeg) * (qI h b8 (0 : Int32).toNatClampNeg)) h))))))))
set_option maxHeartbeats 4000000 in
set_option maxRecDepth 100000 in
theorem sn_X12_round (G : GT) (d : Nat) (l0 : Nat) (l1 : Int32) (h : PH) (Q : Int32 → PH → Prop) (okl0 : qOK h 11 l0) (hwp : wp_X12_round l0 l1 h Q) : Mt G (0 + d) 0 0 mX12_round [.ref l0, .int l1] h (qqi Q) := by
  unfold wp_X12_round at hwp
  refine Mt.of (by decide) rfl (Nat.le_of_ble_eq_true rfl) ?_
  have hex := qEx.rf h
  have hnn : qn h = qn h + 0 := rfl
  have hzz : qz h = qz h + 0 := rfl
  refine x_lvE (lv2 := [(0, .ref l0), (1, .int l1)]) rfl ?_
  refine x_iload_n (pc := 0) dX12_round_0 rfl ?_
  refine x_aload_n (pc := 1) dX12_round_1 rfl ?_
  obtain ⟨b1, e2, hwp⟩ := hwp
  refine x_getR (pc := 2) dX12_round_2 qRX12_13 okl0 e2 (fun okb1 => ?_)
  refine x_iconst (v := 0) (pc := 5) dX12_round_5 (by decide) ?_
  obtain ⟨i3, hwp⟩ := hwp
  refine x_iaload (pc := 6) dX12_round_6 okb1 i3 ?_
  obtain ⟨c4, hwp⟩ := hwp
  refine x_irem (pc := 7) dX12_round_7 c4 ?_
  refine x_aload_n (pc := 8) dX12_round_8 rfl ?_
  obtain ⟨b5, e6, hwp⟩ := hwp
  refine x_getR (pc := 9) dX12_round_9 qRX12_13 okl0 e6 (fun okb5 => ?_)
  refine x_iconst (v := 0) (pc := 12) dX12_round_12 (by decide) ?_
  obtain ⟨i7, hwp⟩ := hwp
  refine x_iaload (pc := 13) dX12_round_13 okb5 i7 ?_
  refine x_iadd (pc := 14) dX12_round_14 ?_
  refine x_aload_n (pc := 15) dX12_round_15 rfl ?_
  obtain ⟨b8, e9, hwp⟩ := hwp
  refine x_getR (pc := 16) dX12_round_16 qRX12_13 okl0 e9 (fun okb8 => ?_)
  refine x_iconst (v := 0) (pc := 19) dX12_round_19 (by decide) ?_
  obtain ⟨i10, hwp⟩ := hwp
  refine x_iaload (pc := 20) dX12_round_20 okb8 i10 ?_
  obtain ⟨c11, hwp⟩ := hwp
  refine x_irem (pc := 21) dX12_round_21 c11 ?_
  exact x_iret (pc := 22) dX12_round_22 rfl hex hnn hzz ⟨_, rfl, hwp⟩

theorem dX12_high_0 : decode cX12_high 0 = .ok (.iload_n 1, 1) := by decide +kernel
theorem dX12_high_1 : decode cX12_high 1 = .ok (.aload_n 0, 1) := by decide +kernel
theorem dX12_high_2 : decode cX12_high 2 = .ok (.getfield 13, 3) := by decide +kernel
theorem dX12_high_5 : decode cX12_high 5 = .ok (.iconst 0, 1) := by decide +kernel
theorem dX12_high_6 : decode cX12_high 6 = .ok (.iaload, 1) := by decide +kernel
theorem dX12_high_7 : decode cX12_high 7 = .ok (.iconst 2, 1) := by decide +kernel
theorem dX12_high_8 : decode cX12_high 8 = .ok (.idiv, 1) := by decide +kernel
theorem dX12_high_9 : decode cX12_high 9 = .ok (.if_icmp .gt 7, 3) := by decide +kernel
theorem dX12_high_12 : decode cX12_high 12 = .ok (.iload_n 1, 1) := by decide +kernel
theorem dX12_high_13 : decode cX12_high 13 = .ok (.goto 11, 3) := by decide +kernel
theorem dX12_high_16 : decode cX12_high 16 = .ok (.aload_n 0, 1) := by decide +kernel
theorem dX12_high_17 : decode cX12_high 17 = .ok (.getfield 13, 3) := by decide +kernel
theorem dX12_high_20 : decode cX12_high 20 = .ok (.iconst 0, 1) := by decide +kernel
theorem dX12_high_21 : decode cX12_high 21 = .ok (.iaload, 1) := by decide +kernel
theorem dX12_high_22 : decode cX12_high 22 = .ok (.iload_n 1, 1) := by decide +kernel
theorem dX12_high_23 : decode cX12_high 23 = .ok (.isub, 1) := by decide +kernel
theorem dX12_high_24 : decode cX12_high 24 = .ok (.ireturn, 1) := by decide +kernel
def wp_X12_high (l0 : Nat) (l1 : Int32) (h : PH) (Q : Int32 → PH → Prop) : Prop := (∃ b1, qR h l0 14 = some b1 ∧ (vp_in 0 (qL h b1) ∧ ((((qI h b1 (0 : Int32).toNatClampNeg) / 2) < l1 → (∃ b5, qR h l0 14 = some b5 ∧ (vp_in 0 (qL h b5) ∧ Q ((qI h b5 (0 : Int32).toNatClampNeg) - l1) h))) ∧ (¬ (((qI h b1 (0 : Int32).toNatClampNeg) / 2) < l1) → Q l1 h))))
set_option maxHeartbeats 4000000 in
set_option maxRecDepth 100000 in
theorem sn_X12_high (G : GT) (d : Nat) (l0 : Nat) (l1 : Int32) (h : PH) (Q : Int32 → PH → Prop) (okl0 : qOK h 11 l0) (hwp : wp_X12_high l0 l1 h Q) : Mt G (0 + d) 0 0 mX12_high [.ref l0, .int l1] h (qqi Q) := by
  unfold wp_X12_high at hwp
  refine Mt.of (by decide) rfl (Nat.le_of_ble_eq_true rfl) ?_
  have hex := qEx.rf h
  have hnn : qn h = qn h + 0 := rfl
  have hzz : qz h = qz h + 0 := rfl
  refine x_lvE (lv2 := [(0, .ref l0), (1, .int l1)]) rfl ?_
  refine x_iload_n (pc := 0) dX12_high_0 rfl ?_
  refine x_aload_n (pc := 1) dX12_high_1 rfl ?_
  obtain ⟨b1, e2, hwp⟩ := hwp
  refine x_getR (pc := 2) dX12_high_2 qRX12_13 okl0 e2 (fun okb1 => ?_)
  refine x_iconst (v := 0) (pc := 5) dX12_high_5 (by decide) ?_
  obtain ⟨i3, hwp⟩ := hwp
  refine x_iaload (pc := 6) dX12_high_6 okb1 i3 ?_
  refine x_iconst (v := 2) (pc := 7) dX12_high_7 (by decide) ?_
  refine x_idiv (pc := 8) dX12_high_8 (by decide) ?_
  refine x_icmp_gt (tgt := 16) (pc := 9) dX12_high_9 (by decide) (fun c4 => ?_) (fun c4 => ?_)
  · have hwp := hwp.1 c4
    refine x_aload_n (pc := 16) dX12_high_16 rfl ?_
    obtain ⟨b5, e6, hwp⟩ := hwp
    refine x_getR (pc := 17) dX12_high_17 qRX12_13 okl0 e6 (fun okb5 => ?_)
    refine x_iconst (v := 0) (pc := 20) dX12_high_20 (by decide) ?_
    obtain ⟨i7, hwp⟩ := hwp
    refine x_iaload (pc := 21) dX12_high_21 okb5 i7 ?_
    refine x_iload_n (pc := 22) dX12_high_22 rfl ?_
    refine x_isub (pc := 23) dX12_high_23 ?_
    exact x_iret (pc := 24) dX12_high_24 rfl hex hnn hzz ⟨_, rfl, hwp⟩
  · have hwp := hwp.2 c4
    refine x_iload_n (pc := 12) dX12_high_12 rfl ?_
    refine x_goto (tgt := 24) (pc := 13) dX12_high_13 (by decide) ?_
    exact x_iret (pc := 24) dX12_high_24 rfl hex hnn hzz ⟨_, rfl, hwp⟩

theorem dX12_isWithin_0 : decode cX12_isWithin 0 = .ok (.iload_n 2, 1) := by decide +kernel
theorem dX12_isWithin_1 : decode cX12_isWithin 1 = .ok (.iload_n 3, 1) := by decide +kernel
theorem dX12_isWithin_2 : decode cX12_isWithin 2 = .ok (.if_icmp .gt 21, 3) := by decide +kernel
theorem dX12_isWithin_5 : decode cX12_isWithin 5 = .ok (.iload_n 1, 1) := by decide +kernel
theorem dX12_isWithin_6 : decode cX12_isWithin 6 = .ok (.iload_n 2, 1) := by decide +kernel
theorem dX12_isWithin_7 : decode cX12_isWithin 7 = .ok (.if_icmp .lt 12, 3) := by decide +kernel
theorem dX12_isWithin_10 : decode cX12_isWithin 10 = .ok (.iload_n 1, 1) := by decide +kernel
theorem dX12_isWithin_11 : decode cX12_isWithin 11 = .ok (.iload_n 3, 1) := by decide +kernel
theorem dX12_isWithin_12 : decode cX12_isWithin 12 = .ok (.if_icmp .gt 7, 3) := by decide +kernel
theorem dX12_isWithin_15 : decode cX12_isWithin 15 = .ok (.iconst 1, 1) := by decide +kernel
theorem dX12_isWithin_16 : decode cX12_isWithin 16 = .ok (.goto 22, 3) := by decide +kernel
theorem dX12_isWithin_19 : decode cX12_isWithin 19 = .ok (.iconst 0, 1) := by decide +kernel
theorem dX12_isWithin_20 : decode cX12_isWithin 20 = .ok (.goto 18, 3) := by decide +kernel
theorem dX12_isWithin_23 : decode cX12_isWithin 23 = .ok (.iload_n 1, 1) := by decide +kernel
theorem dX12_isWithin_24 : decode cX12_isWithin 24 = .ok (.iload_n 2, 1) := by decide +kernel
theorem dX12_isWithin_25 : decode cX12_isWithin 25 = .ok (.if_icmp .ge 8, 3) := by decide +kernel
theorem dX12_isWithin_28 : decode cX12_isWithin 28 = .ok (.iload_n 1, 1) := by decide +kernel
theorem dX12_isWithin_29 : decode cX12_isWithin 29 = .ok (.iload_n 3, 1) := by decide +kernel
theorem dX12_isWithin_30 : decode cX12_isWithin 30 = .ok (.if_icmp .gt 7, 3) := by decide +kernel
theorem dX12_isWithin_33 : decode cX12_isWithin 33 = .ok (.iconst 1, 1) := by decide +kernel
theorem dX12_isWithin_34 : decode cX12_isWithin 34 = .ok (.goto 4, 3) := by decide +kernel
theorem dX12_isWithin_37 : decode cX12_isWithin 37 = .ok (.iconst 0, 1) := by decide +kernel
theorem dX12_isWithin_38 : decode cX12_isWithin 38 = .ok (.ireturn, 1) := by decide +kernel
def wp_X12_isWithin (l0 : Nat) (l1 : Int32) (l2 : Int32) (l3 : Int32) (h : PH) (Q : Int32 → PH → Prop) : Prop := ((l3 < l2 → ((l2 ≤ l1 → Q 1 h) ∧ (¬ (l2 ≤ l1) → ((l3 < l1 → Q 0 h) ∧ (¬ (l3 < l1) → Q 1 h))))) ∧ (¬ (l3 < l2) → ((l1 < l2 → Q 0 h) ∧ (¬ (l1 < l2) → ((l3 < l1 → Q 0 h) ∧ (¬ (l3 < l1) → Q 1 h))))))
set_option maxHeartbeats 4000000 in
set_option maxRecDepth 100000 in
theorem sn_X12_isWithin (G : GT) (d : Nat) (l0 : Nat) (l1 : Int32) (l2 : Int32) (l3 : Int32) (h : PH) (Q : Int32 → PH → Prop) (okl0 : qOK h 11 l0) (hwp : wp_X12_isWithin l0 l1 l2 l3 h Q) : Mt G (0 + d) 0 0 mX12_isWithin [.ref l0, .int l1, .int l2, .int l3] h (qqb Q) := by
  unfold wp_X12_isWithin at hwp
  refine Mt.of (by decide) rfl (Nat.le_of_ble_eq_true rfl) ?_
  have hex := qEx.rf h
  have hnn : qn h = qn h + 0 := rfl
  have hzz : qz h = qz h + 0 := rfl
  refine x_lvE (lv2 := [(0, .ref l0), (1, .int l1), (2, .int l2), (3, .int l3)]) rfl ?_
  refine x_iload_n (pc := 0) dX12_isWithin_0 rfl ?_
  refine x_iload_n (pc := 1) dX12_isWithin_1 rfl ?_
  refine x_icmp_gt (tgt := 23) (pc := 2) dX12_isWithin_2 (by decide) (fun c1 => ?_) (fun c1 => ?_)
  · have hwp := hwp.1 c1
    refine x_iload_n (pc := 23) dX12_isWithin_23 rfl ?_
    refine x_iload_n (pc := 24) dX12_isWithin_24 rfl ?_
    refine x_icmp_ge (tgt := 33) (pc := 25) dX12_isWithin_25 (by decide) (fun c2 => ?_) (fun c2 => ?_)
    · have hwp := hwp.1 c2
      refine x_iconst (v := 1) (pc := 33) dX12_isWithin_33 (by decide) ?_
      refine x_goto (tgt := 38) (pc := 34) dX12_isWithin_34 (by decide) ?_
      exact x_zret (pc := 38) dX12_isWithin_38 rfl hex hnn hzz (by decide) ⟨_, rfl, by decide, hwp⟩
    · have hwp := hwp.2 c2
      refine x_iload_n (pc := 28) dX12_isWithin_28 rfl ?_
      refine x_iload_n (pc := 29) dX12_isWithin_29 rfl ?_
      refine x_icmp_gt (tgt := 37) (pc := 30) dX12_isWithin_30 (by decide) (fun c3 => ?_) (fun c3 => ?_)
      · have hwp := hwp.1 c3
        refine x_iconst (v := 0) (pc := 37) dX12_isWithin_37 (by decide) ?_
        exact x_zret (pc := 38) dX12_isWithin_38 rfl hex hnn hzz (by decide) ⟨_, rfl, by decide, hwp⟩
      · have hwp := hwp.2 c3
        refine x_iconst (v := 1) (pc := 33) dX12_isWithin_33 (by decide) ?_
        refine x_goto (tgt := 38) (pc := 34) dX12_isWithin_34 (by decide) ?_
        exact x_zret (pc := 38) dX12_isWithin_38 rfl hex hnn hzz (by decide) ⟨_, rfl, by decide, hwp⟩
  · have hwp := hwp.2 c1
    refine x_iload_n (pc := 5) dX12_isWithin_5 rfl ?_
    refine x_iload_n (pc := 6) dX12_isWithin_6 rfl ?_
    refine x_icmp_lt (tgt := 19) (pc := 7) dX12_isWithin_7 (by decide) (fun c4 => ?_) (fun c4 => ?_)
    · have hwp := hwp.1 c4
      refine x_iconst (v := 0) (pc := 19) dX12_isWithin_19 (by decide) ?_
      refine x_goto (tgt := 38) (pc := 20) dX12_isWithin_20 (by decide) ?_
      exact x_zret (pc := 38) dX12_isWithin_38 rfl hex hnn hzz (by decide) ⟨_, rfl, by decide, hwp⟩
    · have hwp := hwp.2 c4
      refine x_iload_n (pc := 10) dX12_isWithin_10 rfl ?_
      refine x_iload_n (pc := 11) dX12_isWithin_11 rfl ?_
      refine x_icmp_gt (tgt := 19) (pc := 12) dX12_isWithin_12 (by decide) (fun c5 => ?_) (fun c5 => ?_)
      · have hwp := hwp.1 c5
        refine x_iconst (v := 0) (pc := 19) dX12_isWithin_19 (by decide) ?_
        refine x_goto (tgt := 38) (pc := 20) dX12_isWithin_20 (by decide) ?_
        exact x_zret (pc := 38) dX12_isWithin_38 rfl hex hnn hzz (by decide) ⟨_, rfl, by decide, hwp⟩
      · have hwp := hwp.2 c5
        refine x_iconst (v := 1) (pc := 15) dX12_isWithin_15 (by decide) ?_
        refine x_goto (tgt := 38) (pc := 16) dX12_isWithin_16 (by decide) ?_
        exact x_zret (pc := 38) dX12_isWithin_38 rfl hex hnn hzz (by decide) ⟨_, rfl, by decide, hwp⟩

theorem dX12_isWithin__0 : decode cX12_isWithin_ 0 = .ok (.iconst 0, 1) := by decide +kernel
theorem dX12_isWithin__1 : decode cX12_isWithin_ 1 = .ok (.iload_n 1, 1) := by decide +kernel
theorem dX12_isWithin__2 : decode cX12_isWithin_ 2 = .ok (.invokestatic 194, 3) := by decide +kernel
theorem dX12_isWithin__5 : decode cX12_isWithin_ 5 = .ok (.istore_n 3, 1) := by decide +kernel
theorem dX12_isWithin__6 : decode cX12_isWithin_ 6 = .ok (.aload_n 0, 1) := by decide +kernel
theorem dX12_isWithin__7 : decode cX12_isWithin_ 7 = .ok (.getfield 22, 3) := by decide +kernel
theorem dX12_isWithin__10 : decode cX12_isWithin_ 10 = .ok (.iload_n 3, 1) := by decide +kernel
theorem dX12_isWithin__11 : decode cX12_isWithin_ 11 = .ok (.iconst 5, 1) := by decide +kernel
theorem dX12_isWithin__12 : decode cX12_isWithin_ 12 = .ok (.iadd, 1) := by decide +kernel
theorem dX12_isWithin__13 : decode cX12_isWithin_ 13 = .ok (.iaload, 1) := by decide +kernel
theorem dX12_isWithin__14 : decode cX12_isWithin_ 14 = .ok (.iconst (-1), 1) := by decide +kernel
theorem dX12_isWithin__15 : decode cX12_isWithin_ 15 = .ok (.if_icmp .eq 32, 3) := by decide +kernel
theorem dX12_isWithin__18 : decode cX12_isWithin_ 18 = .ok (.aload_n 0, 1) := by decide +kernel
theorem dX12_isWithin__19 : decode cX12_isWithin_ 19 = .ok (.iload_n 2, 1) := by decide +kernel
theorem dX12_isWithin__20 : decode cX12_isWithin_ 20 = .ok (.aload_n 0, 1) := by decide +kernel
theorem dX12_isWithin__21 : decode cX12_isWithin_ 21 = .ok (.getfield 22, 3) := by decide +kernel
theorem dX12_isWithin__24 : decode cX12_isWithin_ 24 = .ok (.iload_n 3, 1) := by decide +kernel
theorem dX12_isWithin__25 : decode cX12_isWithin_ 25 = .ok (.iconst 5, 1) := by decide +kernel
theorem dX12_isWithin__26 : decode cX12_isWithin_ 26 = .ok (.iadd, 1) := by decide +kernel
theorem dX12_isWithin__27 : decode cX12_isWithin_ 27 = .ok (.iaload, 1) := by decide +kernel
theorem dX12_isWithin__28 : decode cX12_isWithin_ 28 = .ok (.aload_n 0, 1) := by decide +kernel
theorem dX12_isWithin__29 : decode cX12_isWithin_ 29 = .ok (.getfield 22, 3) := by decide +kernel
theorem dX12_isWithin__32 : decode cX12_isWithin_ 32 = .ok (.iload_n 3, 1) := by decide +kernel
theorem dX12_isWithin__33 : decode cX12_isWithin_ 33 = .ok (.bipush 6, 2) := by decide +kernel
theorem dX12_isWithin__35 : decode cX12_isWithin_ 35 = .ok (.iadd, 1) := by decide +kernel
theorem dX12_isWithin__36 : decode cX12_isWithin_ 36 = .ok (.iaload, 1) := by decide +kernel
theorem dX12_isWithin__37 : decode cX12_isWithin_ 37 = .ok (.invokevirtual 236, 3) := by decide +kernel
theorem dX12_isWithin__40 : decode cX12_isWithin_ 40 = .ok (.ifCond .eq 7, 3) := by decide +kernel
theorem dX12_isWithin__43 : decode cX12_isWithin_ 43 = .ok (.iconst 1, 1) := by decide +kernel
theorem dX12_isWithin__44 : decode cX12_isWithin_ 44 = .ok (.goto 4, 3) := by decide +kernel
theorem dX12_isWithin__47 : decode cX12_isWithin_ 47 = .ok (.iconst 0, 1) := by decide +kernel
theorem dX12_isWithin__48 : decode cX12_isWithin_ 48 = .ok (.ireturn, 1) := by decide +kernel
def wp_X12_isWithin_ (l0 : Nat) (l1 : Int32) (l2 : Int32) (h : PH) (Q : Int32 → PH → Prop) : Prop := (wp_X12_slot 0 l1 h (fun r2 h1 => (∃ b3, qR h1 l0 17 = some b3 ∧ (vp_in (r2 + 5) (qL h1 b3) ∧ (((qI h1 b3 (r2 + 5).toNatClampNeg) = (-1) → Q 0 h1) ∧ (¬ ((qI h1 b3 (r2 + 5).toNatClampNeg) = (-1)) → (∃ b7, qR h1 l0 17 = some b7 ∧ (vp_in (r2 + 5) (qL h1 b7) ∧ (∃ b10, qR h1 l0 17 = some b10 ∧ (vp_in (r2 + 6) (qL h1 b10) ∧ (wp_X12_isWithin l0 l2 (qI h1 b7 (r2 + 5).toNatClampNeg) (qI h1 b10 (r2 + 6).toNatClampNeg) h1 (fun r14 h13 => ((r14 = 0 → Q 0 h13) ∧ (¬ (r14 = 0) → Q 1 h13))))))))))))))
set_option maxHeartbeats 4000000 in
set_option maxRecDepth 100000 in
theorem sn_X12_isWithin_ (G : GT) (d : Nat) (l0 : Nat) (l1 : Int32) (l2 : Int32) (h : PH) (Q : Int32 → PH → Prop) (okl0 : qOK h 11 l0) (hwp : wp_X12_isWithin_ l0 l1 l2 h Q) : Mt G (1 + d) 0 0 mX12_isWithin_ [.ref l0, .int l1, .int l2] h (qqb Q) := by
  unfold wp_X12_isWithin_ at hwp
  refine Mt.of (by decide) rfl (Nat.le_of_ble_eq_true rfl) ?_
  have hex := qEx.rf h
  have hnn : qn h = qn h + 0 := rfl
  have hzz : qz h = qz h + 0 := rfl
  refine x_lvE (lv2 := [(0, .ref l0), (1, .int l1), (2, .int l2)]) rfl ?_
  refine x_iconst (v := 0) (pc := 0) dX12_isWithin__0 (by decide) ?_
  refine x_iload_n (pc := 1) dX12_isWithin__1 rfl ?_
  refine x_invS (As := [.int 0, .int l1]) (st := []) (pc := 2) dX12_isWithin__2 lRX12_194 fX12_slot sX12_slot rfl (Nat.le_of_ble_eq_true rfl) (q_R (by omega) (by decide)) (q_C hnn hzz (by decide) (by decide)) (sn_X12_slot G (d + 0) 0 l1 h _  hwp) (k_i (fun r2 h1 hwp cxh1 => ?_))
  have hex := hex.tr cxh1.1
  have hnn : qn h1 = qn h + 0 := by have := cxh1.2.1; omega
  have hzz : qz h1 = qz h + 0 := by have := cxh1.2.2; omega
  have okl0 := okl0.ex cxh1.1
  refine x_istore_n (lv2 := [(3, .int r2), (0, .ref l0), (1, .int l1), (2, .int l2)]) (pc := 5) dX12_isWithin__5 (by decide) rfl ?_
  refine x_aload_n (pc := 6) dX12_isWithin__6 rfl ?_
  obtain ⟨b3, e4, hwp⟩ := hwp
  refine x_getR (pc := 7) dX12_isWithin__7 qRX12_22 okl0 e4 (fun okb3 => ?_)
  refine x_iload_n (pc := 10) dX12_isWithin__10 rfl ?_
  refine x_iconst (v := 5) (pc := 11) dX12_isWithin__11 (by decide) ?_
  refine x_iadd (pc := 12) dX12_isWithin__12 ?_
  obtain ⟨i5, hwp⟩ := hwp
  refine x_iaload (pc := 13) dX12_isWithin__13 okb3 i5 ?_
  refine x_iconst (v := (-1)) (pc := 14) dX12_isWithin__14 (by decide) ?_
  refine x_icmp_eq (tgt := 47) (pc := 15) dX12_isWithin__15 (by decide) (fun c6 => ?_) (fun c6 => ?_)
  · have hwp := hwp.1 c6
    refine x_iconst (v := 0) (pc := 47) dX12_isWithin__47 (by decide) ?_
    exact x_zret (pc := 48) dX12_isWithin__48 rfl hex hnn hzz (by decide) ⟨_, rfl, by decide, hwp⟩
  · have hwp := hwp.2 c6
    refine x_aload_n (pc := 18) dX12_isWithin__18 rfl ?_
    refine x_iload_n (pc := 19) dX12_isWithin__19 rfl ?_
    refine x_aload_n (pc := 20) dX12_isWithin__20 rfl ?_
    obtain ⟨b7, e8, hwp⟩ := hwp
    refine x_getR (pc := 21) dX12_isWithin__21 qRX12_22 okl0 e8 (fun okb7 => ?_)
    refine x_iload_n (pc := 24) dX12_isWithin__24 rfl ?_
    refine x_iconst (v := 5) (pc := 25) dX12_isWithin__25 (by decide) ?_
    refine x_iadd (pc := 26) dX12_isWithin__26 ?_
    obtain ⟨i9, hwp⟩ := hwp
    refine x_iaload (pc := 27) dX12_isWithin__27 okb7 i9 ?_
    refine x_aload_n (pc := 28) dX12_isWithin__28 rfl ?_
    obtain ⟨b10, e11, hwp⟩ := hwp
    refine x_getR (pc := 29) dX12_isWithin__29 qRX12_22 okl0 e11 (fun okb10 => ?_)
    refine x_iload_n (pc := 32) dX12_isWithin__32 rfl ?_
    refine x_bipush (v := 6) (pc := 33) dX12_isWithin__33 (by decide) ?_
    refine x_iadd (pc := 35) dX12_isWithin__35 ?_
    obtain ⟨i12, hwp⟩ := hwp
    refine x_iaload (pc := 36) dX12_isWithin__36 okb10 i12 ?_
    refine x_invV (As := [.int l2, .int (qI h1 b7 (r2 + 5).toNatClampNeg), .int (qI h1 b10 (r2 + 6).toNatClampNeg)]) (st := []) (pc := 37) dX12_isWithin__37 lRX12_236 fX12_isWithin vX12_isWithin okl0 rfl (Nat.le_of_ble_eq_true rfl) (q_R (by omega) (by decide)) (q_C hnn hzz (by decide) (by decide)) (sn_X12_isWithin G (d + 0) l0 l2 (qI h1 b7 (r2 + 5).toNatClampNeg) (qI h1 b10 (r2 + 6).toNatClampNeg) h1 _ okl0 hwp) (k_b (fun r14 h13 hwp zbr14 cxh13 => ?_))
    have hex := hex.tr cxh13.1
    have hnn : qn h13 = qn h + 0 := by have := cxh13.2.1; omega
    have hzz : qz h13 = qz h + 0 := by have := cxh13.2.2; omega
    have okl0 := okl0.ex cxh13.1
    have okb3 := okb3.ex cxh13.1
    have okb7 := okb7.ex cxh13.1
    have okb10 := okb10.ex cxh13.1
    refine x_if_eq (tgt := 47) (pc := 40) dX12_isWithin__40 (by decide) (fun c15 => ?_) (fun c15 => ?_)
    · have hwp := hwp.1 c15
      refine x_iconst (v := 0) (pc := 47) dX12_isWithin__47 (by decide) ?_
      exact x_zret (pc := 48) dX12_isWithin__48 rfl hex hnn hzz (by decide) ⟨_, rfl, by decide, hwp⟩
    · have hwp := hwp.2 c15
      refine x_iconst (v := 1) (pc := 43) dX12_isWithin__43 (by decide) ?_
      refine x_goto (tgt := 48) (pc := 44) dX12_isWithin__44 (by decide) ?_
      exact x_zret (pc := 48) dX12_isWithin__48 rfl hex hnn hzz (by decide) ⟨_, rfl, by decide, hwp⟩

theorem dX12_placeOf_0 : decode cX12_placeOf 0 = .ok (.aload_n 0, 1) := by decide +kernel
theorem dX12_placeOf_1 : decode cX12_placeOf 1 = .ok (.aload_n 0, 1) := by decide +kernel
theorem dX12_placeOf_2 : decode cX12_placeOf 2 = .ok (.getfield 22, 3) := by decide +kernel
theorem dX12_placeOf_5 : decode cX12_placeOf 5 = .ok (.iconst 0, 1) := by decide +kernel
theorem dX12_placeOf_6 : decode cX12_placeOf 6 = .ok (.iload_n 1, 1) := by decide +kernel
theorem dX12_placeOf_7 : decode cX12_placeOf 7 = .ok (.invokestatic 194, 3) := by decide +kernel
theorem dX12_placeOf_10 : decode cX12_placeOf 10 = .ok (.iconst 1, 1) := by decide +kernel
theorem dX12_placeOf_11 : decode cX12_placeOf 11 = .ok (.iadd, 1) := by decide +kernel
theorem dX12_placeOf_12 : decode cX12_placeOf 12 = .ok (.iaload, 1) := by decide +kernel
theorem dX12_placeOf_13 : decode cX12_placeOf 13 = .ok (.iload_n 2, 1) := by decide +kernel
theorem dX12_placeOf_14 : decode cX12_placeOf 14 = .ok (.iadd, 1) := by decide +kernel
theorem dX12_placeOf_15 : decode cX12_placeOf 15 = .ok (.invokevirtual 239, 3) := by decide +kernel
theorem dX12_placeOf_18 : decode cX12_placeOf 18 = .ok (.ireturn, 1) := by decide +kernel
def wp_X12_placeOf (l0 : Nat) (l1 : Int32) (l2 : Int32) (h : PH) (Q : Int32 → PH → Prop) : Prop := (∃ b1, qR h l0 17 = some b1 ∧ (wp_X12_slot 0 l1 h (fun r4 h3 => (vp_in (r4 + 1) (qL h3 b1) ∧ (wp_X12_round l0 ((qI h3 b1 (r4 + 1).toNatClampNeg) + l2) h3 (fun r7 h6 => Q r7 h6))))))
set_option maxHeartbeats 4000000 in
set_option maxRecDepth 100000 in
theorem sn_X12_placeOf (G : GT) (d : Nat) (l0 : Nat) (l1 : Int32) (l2 : Int32) (h : PH) (Q : Int32 → PH → Prop) (okl0 : qOK h 11 l0) (hwp : wp_X12_placeOf l0 l1 l2 h Q) : Mt G (1 + d) 0 0 mX12_placeOf [.ref l0, .int l1, .int l2] h (qqi Q) := by
  unfold wp_X12_placeOf at hwp
  refine Mt.of (by decide) rfl (Nat.le_of_ble_eq_true rfl) ?_
  have hex := qEx.rf h
  have hnn : qn h = qn h + 0 := rfl
  have hzz : qz h = qz h + 0 := rfl
  refine x_lvE (lv2 := [(0, .ref l0), (1, .int l1), (2, .int l2)]) rfl ?_
  refine x_aload_n (pc := 0) dX12_placeOf_0 rfl ?_
  refine x_aload_n (pc := 1) dX12_placeOf_1 rfl ?_
  obtain ⟨b1, e2, hwp⟩ := hwp
  refine x_getR (pc := 2) dX12_placeOf_2 qRX12_22 okl0 e2 (fun okb1 => ?_)
  refine x_iconst (v := 0) (pc := 5) dX12_placeOf_5 (by decide) ?_
  refine x_iload_n (pc := 6) dX12_placeOf_6 rfl ?_
  refine x_invS (As := [.int 0, .int l1]) (st := [.ref b1, .ref l0]) (pc := 7) dX12_placeOf_7 lRX12_194 fX12_slot sX12_slot rfl (Nat.le_of_ble_eq_true rfl) (q_R (by omega) (by decide)) (q_C hnn hzz (by decide) (by decide)) (sn_X12_slot G (d + 0) 0 l1 h _  hwp) (k_i (fun r4 h3 hwp cxh3 => ?_))
  have hex := hex.tr cxh3.1
  have hnn : qn h3 = qn h + 0 := by have := cxh3.2.1; omega
  have hzz : qz h3 = qz h + 0 := by have := cxh3.2.2; omega
  have okl0 := okl0.ex cxh3.1
  have okb1 := okb1.ex cxh3.1
  refine x_iconst (v := 1) (pc := 10) dX12_placeOf_10 (by decide) ?_
  refine x_iadd (pc := 11) dX12_placeOf_11 ?_
  obtain ⟨i5, hwp⟩ := hwp
  refine x_iaload (pc := 12) dX12_placeOf_12 okb1 i5 ?_
  refine x_iload_n (pc := 13) dX12_placeOf_13 rfl ?_
  refine x_iadd (pc := 14) dX12_placeOf_14 ?_
  refine x_invV (As := [.int ((qI h3 b1 (r4 + 1).toNatClampNeg) + l2)]) (st := []) (pc := 15) dX12_placeOf_15 lRX12_239 fX12_round vX12_round okl0 rfl (Nat.le_of_ble_eq_true rfl) (q_R (by omega) (by decide)) (q_C hnn hzz (by decide) (by decide)) (sn_X12_round G (d + 0) l0 ((qI h3 b1 (r4 + 1).toNatClampNeg) + l2) h3 _ okl0 hwp) (k_i (fun r7 h6 hwp cxh6 => ?_))
  have hex := hex.tr cxh6.1
  have hnn : qn h6 = qn h + 0 := by have := cxh6.2.1; omega
  have hzz : qz h6 = qz h + 0 := by have := cxh6.2.2; omega
  have okl0 := okl0.ex cxh6.1
  have okb1 := okb1.ex cxh6.1
  exact x_iret (pc := 18) dX12_placeOf_18 rfl hex hnn hzz ⟨_, rfl, hwp⟩

theorem dX12_armOf_0 : decode cX12_armOf 0 = .ok (.iconst 0, 1) := by decide +kernel
theorem dX12_armOf_1 : decode cX12_armOf 1 = .ok (.iload_n 1, 1) := by decide +kernel
theorem dX12_armOf_2 : decode cX12_armOf 2 = .ok (.invokestatic 194, 3) := by decide +kernel
theorem dX12_armOf_5 : decode cX12_armOf 5 = .ok (.istore_n 3, 1) := by decide +kernel
theorem dX12_armOf_6 : decode cX12_armOf 6 = .ok (.aload_n 0, 1) := by decide +kernel
theorem dX12_armOf_7 : decode cX12_armOf 7 = .ok (.getfield 22, 3) := by decide +kernel
theorem dX12_armOf_10 : decode cX12_armOf 10 = .ok (.iload_n 3, 1) := by decide +kernel
theorem dX12_armOf_11 : decode cX12_armOf 11 = .ok (.iconst 4, 1) := by decide +kernel
theorem dX12_armOf_12 : decode cX12_armOf 12 = .ok (.iadd, 1) := by decide +kernel
theorem dX12_armOf_13 : decode cX12_armOf 13 = .ok (.iaload, 1) := by decide +kernel
theorem dX12_armOf_14 : decode cX12_armOf 14 = .ok (.iconst (-1), 1) := by decide +kernel
theorem dX12_armOf_15 : decode cX12_armOf 15 = .ok (.if_icmp .eq 23, 3) := by decide +kernel
theorem dX12_armOf_18 : decode cX12_armOf 18 = .ok (.aload_n 0, 1) := by decide +kernel
theorem dX12_armOf_19 : decode cX12_armOf 19 = .ok (.iload_n 1, 1) := by decide +kernel
theorem dX12_armOf_20 : decode cX12_armOf 20 = .ok (.iload_n 2, 1) := by decide +kernel
theorem dX12_armOf_21 : decode cX12_armOf 21 = .ok (.invokevirtual 242, 3) := by decide +kernel
theorem dX12_armOf_24 : decode cX12_armOf 24 = .ok (.ifCond .eq 14, 3) := by decide +kernel
theorem dX12_armOf_27 : decode cX12_armOf 27 = .ok (.aload_n 0, 1) := by decide +kernel
theorem dX12_armOf_28 : decode cX12_armOf 28 = .ok (.getfield 22, 3) := by decide +kernel
theorem dX12_armOf_31 : decode cX12_armOf 31 = .ok (.iload_n 3, 1) := by decide +kernel
theorem dX12_armOf_32 : decode cX12_armOf 32 = .ok (.iconst 4, 1) := by decide +kernel
theorem dX12_armOf_33 : decode cX12_armOf 33 = .ok (.iadd, 1) := by decide +kernel
theorem dX12_armOf_34 : decode cX12_armOf 34 = .ok (.iaload, 1) := by decide +kernel
theorem dX12_armOf_35 : decode cX12_armOf 35 = .ok (.goto 11, 3) := by decide +kernel
theorem dX12_armOf_38 : decode cX12_armOf 38 = .ok (.aload_n 0, 1) := by decide +kernel
theorem dX12_armOf_39 : decode cX12_armOf 39 = .ok (.getfield 22, 3) := by decide +kernel
theorem dX12_armOf_42 : decode cX12_armOf 42 = .ok (.iload_n 3, 1) := by decide +kernel
theorem dX12_armOf_43 : decode cX12_armOf 43 = .ok (.iconst 3, 1) := by decide +kernel
theorem dX12_armOf_44 : decode cX12_armOf 44 = .ok (.iadd, 1) := by decide +kernel
theorem dX12_armOf_45 : decode cX12_armOf 45 = .ok (.iaload, 1) := by decide +kernel
theorem dX12_armOf_46 : decode cX12_armOf 46 = .ok (.ireturn, 1) := by decide +kernel
def wp_X12_armOf (l0 : Nat) (l1 : Int32) (l2 : Int32) (h : PH) (Q : Int32 → PH → Prop) : Prop := (wp_X12_slot 0 l1 h (fun r2 h1 => (∃ b3, qR h1 l0 17 = some b3 ∧ (vp_in (r2 + 4) (qL h1 b3) ∧ (((qI h1 b3 (r2 + 4).toNatClampNeg) = (-1) → (∃ b7, qR h1 l0 17 = some b7 ∧ (vp_in (r2 + 3) (qL h1 b7) ∧ Q (qI h1 b7 (r2 + 3).toNatClampNeg) h1))) ∧ (¬ ((qI h1 b3 (r2 + 4).toNatClampNeg) = (-1)) → (wp_X12_isWithin_ l0 l1 l2 h1 (fun r11 h10 => ((r11 = 0 → (∃ b13, qR h10 l0 17 = some b13 ∧ (vp_in (r2 + 3) (qL h10 b13) ∧ Q (qI h10 b13 (r2 + 3).toNatClampNeg) h10))) ∧ (¬ (r11 = 0) → (∃ b16, qR h10 l0 17 = some b16 ∧ (vp_in (r2 + 4) (qL h10 b16) ∧ Q (qI h10 b16 (r2 + 4).toNatClampNeg) h10))))))))))))
set_option maxHeartbeats 4000000 in
set_option maxRecDepth 100000 in
theorem sn_X12_armOf (G : GT) (d : Nat) (l0 : Nat) (l1 : Int32) (l2 : Int32) (h : PH) (Q : Int32 → PH → Prop) (okl0 : qOK h 11 l0) (hwp : wp_X12_armOf l0 l1 l2 h Q) : Mt G (2 + d) 0 0 mX12_armOf [.ref l0, .int l1, .int l2] h (qqi Q) := by
  unfold wp_X12_armOf at hwp
  refine Mt.of (by decide) rfl (Nat.le_of_ble_eq_true rfl) ?_
  have hex := qEx.rf h
  have hnn : qn h = qn h + 0 := rfl
  have hzz : qz h = qz h + 0 := rfl
  refine x_lvE (lv2 := [(0, .ref l0), (1, .int l1), (2, .int l2)]) rfl ?_
  refine x_iconst (v := 0) (pc := 0) dX12_armOf_0 (by decide) ?_
  refine x_iload_n (pc := 1) dX12_armOf_1 rfl ?_
  refine x_invS (As := [.int 0, .int l1]) (st := []) (pc := 2) dX12_armOf_2 lRX12_194 fX12_slot sX12_slot rfl (Nat.le_of_ble_eq_true rfl) (q_R (by omega) (by decide)) (q_C hnn hzz (by decide) (by decide)) (sn_X12_slot G (d + 1) 0 l1 h _  hwp) (k_i (fun r2 h1 hwp cxh1 => ?_))
  have hex := hex.tr cxh1.1
  have hnn : qn h1 = qn h + 0 := by have := cxh1.2.1; omega
  have hzz : qz h1 = qz h + 0 := by have := cxh1.2.2; omega
  have okl0 := okl0.ex cxh1.1
  refine x_istore_n (lv2 := [(3, .int r2), (0, .ref l0), (1, .int l1), (2, .int l2)]) (pc := 5) dX12_armOf_5 (by decide) rfl ?_
  refine x_aload_n (pc := 6) dX12_armOf_6 rfl ?_
  obtain ⟨b3, e4, hwp⟩ := hwp
  refine x_getR (pc := 7) dX12_armOf_7 qRX12_22 okl0 e4 (fun okb3 => ?_)
  refine x_iload_n (pc := 10) dX12_armOf_10 rfl ?_
  refine x_iconst (v := 4) (pc := 11) dX12_armOf_11 (by decide) ?_
  refine x_iadd (pc := 12) dX12_armOf_12 ?_
  obtain ⟨i5, hwp⟩ := hwp
  refine x_iaload (pc := 13) dX12_armOf_13 okb3 i5 ?_
  refine x_iconst (v := (-1)) (pc := 14) dX12_armOf_14 (by decide) ?_
  refine x_icmp_eq (tgt := 38) (pc := 15) dX12_armOf_15 (by decide) (fun c6 => ?_) (fun c6 => ?_)
  · have hwp := hwp.1 c6
    refine x_aload_n (pc := 38) dX12_armOf_38 rfl ?_
    obtain ⟨b7, e8, hwp⟩ := hwp
    refine x_getR (pc := 39) dX12_armOf_39 qRX12_22 okl0 e8 (fun okb7 => ?_)
    refine x_iload_n (pc := 42) dX12_armOf_42 rfl ?_
    refine x_iconst (v := 3) (pc := 43) dX12_armOf_43 (by decide) ?_
    refine x_iadd (pc := 44) dX12_armOf_44 ?_
    obtain ⟨i9, hwp⟩ := hwp
    refine x_iaload (pc := 45) dX12_armOf_45 okb7 i9 ?_
    exact x_iret (pc := 46) dX12_armOf_46 rfl hex hnn hzz ⟨_, rfl, hwp⟩
  · have hwp := hwp.2 c6
    refine x_aload_n (pc := 18) dX12_armOf_18 rfl ?_
    refine x_iload_n (pc := 19) dX12_armOf_19 rfl ?_
    refine x_iload_n (pc := 20) dX12_armOf_20 rfl ?_
    refine x_invV (As := [.int l1, .int l2]) (st := []) (pc := 21) dX12_armOf_21 lRX12_242 fX12_isWithin_ vX12_isWithin_ okl0 rfl (Nat.le_of_ble_eq_true rfl) (q_R (by omega) (by decide)) (q_C hnn hzz (by decide) (by decide)) (sn_X12_isWithin_ G (d + 0) l0 l1 l2 h1 _ okl0 hwp) (k_b (fun r11 h10 hwp zbr11 cxh10 => ?_))
    have hex := hex.tr cxh10.1
    have hnn : qn h10 = qn h + 0 := by have := cxh10.2.1; omega
    have hzz : qz h10 = qz h + 0 := by have := cxh10.2.2; omega
    have okl0 := okl0.ex cxh10.1
    have okb3 := okb3.ex cxh10.1
    refine x_if_eq (tgt := 38) (pc := 24) dX12_armOf_24 (by decide) (fun c12 => ?_) (fun c12 => ?_)
    · have hwp := hwp.1 c12
      refine x_aload_n (pc := 38) dX12_armOf_38 rfl ?_
      obtain ⟨b13, e14, hwp⟩ := hwp
      refine x_getR (pc := 39) dX12_armOf_39 qRX12_22 okl0 e14 (fun okb13 => ?_)
      refine x_iload_n (pc := 42) dX12_armOf_42 rfl ?_
      refine x_iconst (v := 3) (pc := 43) dX12_armOf_43 (by decide) ?_
      refine x_iadd (pc := 44) dX12_armOf_44 ?_
      obtain ⟨i15, hwp⟩ := hwp
      refine x_iaload (pc := 45) dX12_armOf_45 okb13 i15 ?_
      exact x_iret (pc := 46) dX12_armOf_46 rfl hex hnn hzz ⟨_, rfl, hwp⟩
    · have hwp := hwp.2 c12
      refine x_aload_n (pc := 27) dX12_armOf_27 rfl ?_
      obtain ⟨b16, e17, hwp⟩ := hwp
      refine x_getR (pc := 28) dX12_armOf_28 qRX12_22 okl0 e17 (fun okb16 => ?_)
      refine x_iload_n (pc := 31) dX12_armOf_31 rfl ?_
      refine x_iconst (v := 4) (pc := 32) dX12_armOf_32 (by decide) ?_
      refine x_iadd (pc := 33) dX12_armOf_33 ?_
      obtain ⟨i18, hwp⟩ := hwp
      refine x_iaload (pc := 34) dX12_armOf_34 okb16 i18 ?_
      refine x_goto (tgt := 46) (pc := 35) dX12_armOf_35 (by decide) ?_
      exact x_iret (pc := 46) dX12_armOf_46 rfl hex hnn hzz ⟨_, rfl, hwp⟩

theorem dX12_energyOf_0 : decode cX12_energyOf 0 = .ok (.iconst 0, 1) := by decide +kernel
theorem dX12_energyOf_1 : decode cX12_energyOf 1 = .ok (.iload_n 1, 1) := by decide +kernel
theorem dX12_energyOf_2 : decode cX12_energyOf 2 = .ok (.invokestatic 194, 3) := by decide +kernel
theorem dX12_energyOf_5 : decode cX12_energyOf 5 = .ok (.istore_n 3, 1) := by decide +kernel
theorem dX12_energyOf_6 : decode cX12_energyOf 6 = .ok (.aload_n 0, 1) := by decide +kernel
theorem dX12_energyOf_7 : decode cX12_energyOf 7 = .ok (.getfield 22, 3) := by decide +kernel
theorem dX12_energyOf_10 : decode cX12_energyOf 10 = .ok (.iload_n 3, 1) := by decide +kernel
theorem dX12_energyOf_11 : decode cX12_energyOf 11 = .ok (.iconst 2, 1) := by decide +kernel
theorem dX12_energyOf_12 : decode cX12_energyOf 12 = .ok (.iadd, 1) := by decide +kernel
theorem dX12_energyOf_13 : decode cX12_energyOf 13 = .ok (.iaload, 1) := by decide +kernel
theorem dX12_energyOf_14 : decode cX12_energyOf 14 = .ok (.istore 4, 2) := by decide +kernel
theorem dX12_energyOf_16 : decode cX12_energyOf 16 = .ok (.aload_n 0, 1) := by decide +kernel
theorem dX12_energyOf_17 : decode cX12_energyOf 17 = .ok (.getfield 22, 3) := by decide +kernel
theorem dX12_energyOf_20 : decode cX12_energyOf 20 = .ok (.iload_n 3, 1) := by decide +kernel
theorem dX12_energyOf_21 : decode cX12_energyOf 21 = .ok (.iconst 0, 1) := by decide +kernel
theorem dX12_energyOf_22 : decode cX12_energyOf 22 = .ok (.iadd, 1) := by decide +kernel
theorem dX12_energyOf_23 : decode cX12_energyOf 23 = .ok (.iaload, 1) := by decide +kernel
theorem dX12_energyOf_24 : decode cX12_energyOf 24 = .ok (.tableswitch 173 0 3 #[32, 48, 82, 154], 32) := by decide +kernel
theorem dX12_energyOf_56 : decode cX12_energyOf 56 = .ok (.iload 4, 2) := by decide +kernel
theorem dX12_energyOf_58 : decode cX12_energyOf 58 = .ok (.aload_n 0, 1) := by decide +kernel
theorem dX12_energyOf_59 : decode cX12_energyOf 59 = .ok (.iload_n 1, 1) := by decide +kernel
theorem dX12_energyOf_60 : decode cX12_energyOf 60 = .ok (.iload_n 2, 1) := by decide +kernel
theorem dX12_energyOf_61 : decode cX12_energyOf 61 = .ok (.invokevirtual 244, 3) := by decide +kernel
theorem dX12_energyOf_64 : decode cX12_energyOf 64 = .ok (.imul, 1) := by decide +kernel
theorem dX12_energyOf_65 : decode cX12_energyOf 65 = .ok (.aload_n 0, 1) := by decide +kernel
theorem dX12_energyOf_66 : decode cX12_energyOf 66 = .ok (.iload_n 2, 1) := by decide +kernel
theorem dX12_energyOf_67 : decode cX12_energyOf 67 = .ok (.invokevirtual 247, 3) := by decide +kernel
theorem dX12_energyOf_70 : decode cX12_energyOf 70 = .ok (.imul, 1) := by decide +kernel
theorem dX12_energyOf_71 : decode cX12_energyOf 71 = .ok (.ireturn, 1) := by decide +kernel
theorem dX12_energyOf_72 : decode cX12_energyOf 72 = .ok (.aload_n 0, 1) := by decide +kernel
theorem dX12_energyOf_73 : decode cX12_energyOf 73 = .ok (.iload_n 1, 1) := by decide +kernel
theorem dX12_energyOf_74 : decode cX12_energyOf 74 = .ok (.iload_n 2, 1) := by decide +kernel
theorem dX12_energyOf_75 : decode cX12_energyOf 75 = .ok (.invokevirtual 242, 3) := by decide +kernel
theorem dX12_energyOf_78 : decode cX12_energyOf 78 = .ok (.ifCond .eq 26, 3) := by decide +kernel
theorem dX12_energyOf_81 : decode cX12_energyOf 81 = .ok (.bipush 10, 2) := by decide +kernel
theorem dX12_energyOf_83 : decode cX12_energyOf 83 = .ok (.iload 4, 2) := by decide +kernel
theorem dX12_energyOf_85 : decode cX12_energyOf 85 = .ok (.imul, 1) := by decide +kernel
theorem dX12_energyOf_86 : decode cX12_energyOf 86 = .ok (.aload_n 0, 1) := by decide +kernel
theorem dX12_energyOf_87 : decode cX12_energyOf 87 = .ok (.getfield 13, 3) := by decide +kernel
theorem dX12_energyOf_90 : decode cX12_energyOf 90 = .ok (.iconst 0, 1) := by decide +kernel
theorem dX12_energyOf_91 : decode cX12_energyOf 91 = .ok (.iaload, 1) := by decide +kernel
theorem dX12_energyOf_92 : decode cX12_energyOf 92 = .ok (.iconst 2, 1) := by decide +kernel
theorem dX12_energyOf_93 : decode cX12_energyOf 93 = .ok (.idiv, 1) := by decide +kernel
theorem dX12_energyOf_94 : decode cX12_energyOf 94 = .ok (.aload_n 0, 1) := by decide +kernel
theorem dX12_energyOf_95 : decode cX12_energyOf 95 = .ok (.iload_n 2, 1) := by decide +kernel
theorem dX12_energyOf_96 : decode cX12_energyOf 96 = .ok (.invokevirtual 247, 3) := by decide +kernel
theorem dX12_energyOf_99 : decode cX12_energyOf 99 = .ok (.isub, 1) := by decide +kernel
theorem dX12_energyOf_100 : decode cX12_energyOf 100 = .ok (.imul, 1) := by decide +kernel
theorem dX12_energyOf_101 : decode cX12_energyOf 101 = .ok (.goto 4, 3) := by decide +kernel
theorem dX12_energyOf_104 : decode cX12_energyOf 104 = .ok (.iconst 0, 1) := by decide +kernel
theorem dX12_energyOf_105 : decode cX12_energyOf 105 = .ok (.ireturn, 1) := by decide +kernel
theorem dX12_energyOf_106 : decode cX12_energyOf 106 = .ok (.aload_n 0, 1) := by decide +kernel
theorem dX12_energyOf_107 : decode cX12_energyOf 107 = .ok (.iload_n 2, 1) := by decide +kernel
theorem dX12_energyOf_108 : decode cX12_energyOf 108 = .ok (.aload_n 0, 1) := by decide +kernel
theorem dX12_energyOf_109 : decode cX12_energyOf 109 = .ok (.getfield 22, 3) := by decide +kernel
theorem dX12_energyOf_112 : decode cX12_energyOf 112 = .ok (.iload_n 3, 1) := by decide +kernel
theorem dX12_energyOf_113 : decode cX12_energyOf 113 = .ok (.bipush 7, 2) := by decide +kernel
theorem dX12_energyOf_115 : decode cX12_energyOf 115 = .ok (.iadd, 1) := by decide +kernel
theorem dX12_energyOf_116 : decode cX12_energyOf 116 = .ok (.iaload, 1) := by decide +kernel
theorem dX12_energyOf_117 : decode cX12_energyOf 117 = .ok (.isub, 1) := by decide +kernel
theorem dX12_energyOf_118 : decode cX12_energyOf 118 = .ok (.invokevirtual 239, 3) := by decide +kernel
theorem dX12_energyOf_121 : decode cX12_energyOf 121 = .ok (.istore 5, 2) := by decide +kernel
theorem dX12_energyOf_123 : decode cX12_energyOf 123 = .ok (.iload 5, 2) := by decide +kernel
theorem dX12_energyOf_125 : decode cX12_energyOf 125 = .ok (.aload_n 0, 1) := by decide +kernel
theorem dX12_energyOf_126 : decode cX12_energyOf 126 = .ok (.getfield 13, 3) := by decide +kernel
theorem dX12_energyOf_129 : decode cX12_energyOf 129 = .ok (.iconst 0, 1) := by decide +kernel
theorem dX12_energyOf_130 : decode cX12_energyOf 130 = .ok (.iaload, 1) := by decide +kernel
theorem dX12_energyOf_131 : decode cX12_energyOf 131 = .ok (.iload 5, 2) := by decide +kernel
theorem dX12_energyOf_133 : decode cX12_energyOf 133 = .ok (.isub, 1) := by decide +kernel
theorem dX12_energyOf_134 : decode cX12_energyOf 134 = .ok (.if_icmp .le 14, 3) := by decide +kernel
theorem dX12_energyOf_137 : decode cX12_energyOf 137 = .ok (.aload_n 0, 1) := by decide +kernel
theorem dX12_energyOf_138 : decode cX12_energyOf 138 = .ok (.getfield 13, 3) := by decide +kernel
theorem dX12_energyOf_141 : decode cX12_energyOf 141 = .ok (.iconst 0, 1) := by decide +kernel
theorem dX12_energyOf_142 : decode cX12_energyOf 142 = .ok (.iaload, 1) := by decide +kernel
theorem dX12_energyOf_143 : decode cX12_energyOf 143 = .ok (.iload 5, 2) := by decide +kernel
theorem dX12_energyOf_145 : decode cX12_energyOf 145 = .ok (.isub, 1) := by decide +kernel
theorem dX12_energyOf_146 : decode cX12_energyOf 146 = .ok (.istore 5, 2) := by decide +kernel
theorem dX12_energyOf_148 : decode cX12_energyOf 148 = .ok (.iload 5, 2) := by decide +kernel
theorem dX12_energyOf_150 : decode cX12_energyOf 150 = .ok (.bipush 6, 2) := by decide +kernel
theorem dX12_energyOf_152 : decode cX12_energyOf 152 = .ok (.if_icmp .ge 12, 3) := by decide +kernel
theorem dX12_energyOf_155 : decode cX12_energyOf 155 = .ok (.aload_n 0, 1) := by decide +kernel
theorem dX12_energyOf_156 : decode cX12_energyOf 156 = .ok (.iload_n 1, 1) := by decide +kernel
theorem dX12_energyOf_157 : decode cX12_energyOf 157 = .ok (.iload_n 2, 1) := by decide +kernel
theorem dX12_energyOf_158 : decode cX12_energyOf 158 = .ok (.invokevirtual 242, 3) := by decide +kernel
theorem dX12_energyOf_161 : decode cX12_energyOf 161 = .ok (.ifCond .eq 7, 3) := by decide +kernel
theorem dX12_energyOf_164 : decode cX12_energyOf 164 = .ok (.iconst 0, 1) := by decide +kernel
theorem dX12_energyOf_165 : decode cX12_energyOf 165 = .ok (.goto 12, 3) := by decide +kernel
theorem dX12_energyOf_168 : decode cX12_energyOf 168 = .ok (.iload 4, 2) := by decide +kernel
theorem dX12_energyOf_170 : decode cX12_energyOf 170 = .ok (.ineg, 1) := by decide +kernel
theorem dX12_energyOf_171 : decode cX12_energyOf 171 = .ok (.bipush 6, 2) := by decide +kernel
theorem dX12_energyOf_173 : decode cX12_energyOf 173 = .ok (.iload 5, 2) := by decide +kernel
theorem dX12_energyOf_175 : decode cX12_energyOf 175 = .ok (.isub, 1) := by decide +kernel
theorem dX12_energyOf_176 : decode cX12_energyOf 176 = .ok (.imul, 1) := by decide +kernel
theorem dX12_energyOf_177 : decode cX12_energyOf 177 = .ok (.ireturn, 1) := by decide +kernel
theorem dX12_energyOf_178 : decode cX12_energyOf 178 = .ok (.aload_n 0, 1) := by decide +kernel
theorem dX12_energyOf_179 : decode cX12_energyOf 179 = .ok (.iload_n 1, 1) := by decide +kernel
theorem dX12_energyOf_180 : decode cX12_energyOf 180 = .ok (.iload_n 2, 1) := by decide +kernel
theorem dX12_energyOf_181 : decode cX12_energyOf 181 = .ok (.invokevirtual 242, 3) := by decide +kernel
theorem dX12_energyOf_184 : decode cX12_energyOf 184 = .ok (.ifCond .eq 11, 3) := by decide +kernel
theorem dX12_energyOf_187 : decode cX12_energyOf 187 = .ok (.bipush 40, 2) := by decide +kernel
theorem dX12_energyOf_189 : decode cX12_energyOf 189 = .ok (.iload 4, 2) := by decide +kernel
theorem dX12_energyOf_191 : decode cX12_energyOf 191 = .ok (.imul, 1) := by decide +kernel
theorem dX12_energyOf_192 : decode cX12_energyOf 192 = .ok (.goto 4, 3) := by decide +kernel
theorem dX12_energyOf_195 : decode cX12_energyOf 195 = .ok (.iconst 0, 1) := by decide +kernel
theorem dX12_energyOf_196 : decode cX12_energyOf 196 = .ok (.ireturn, 1) := by decide +kernel
theorem dX12_energyOf_197 : decode cX12_energyOf 197 = .ok (.iconst 0, 1) := by decide +kernel
theorem dX12_energyOf_198 : decode cX12_energyOf 198 = .ok (.ireturn, 1) := by decide +kernel
def wp_X12_energyOf_148 (l0 : Nat) (l1 : Int32) (l2 : Int32) (l4 : Int32) (l5 : Int32)  (h : PH) (Q : Int32 → PH → Prop) : Prop := ((6 ≤ l5 → Q 0 h) ∧ (¬ (6 ≤ l5) → (wp_X12_isWithin_ l0 l1 l2 h (fun r44 h43 => ((r44 = 0 → Q ((-l4) * (6 - l5)) h43) ∧ (¬ (r44 = 0) → Q 0 h43))))))
set_option maxHeartbeats 4000000 in
set_option maxRecDepth 100000 in
theorem sg_X12_energyOf_148 (G : GT) (d : Nat) (h0 : PH) (l0 : Nat) (l1 : Int32) (l2 : Int32) (l4 : Int32) (l5 : Int32) (h : PH) (Q : Int32 → PH → Prop) (hex : qEx h0 h) (hnn : qn h = qn h0 + 0) (hzz : qz h = qz h0 + 0) (okl0 : qOK h 11 l0) (hwp : wp_X12_energyOf_148 l0 l1 l2 l4 l5 h Q) : Ex G (qrm (3 + d) 0 0) mX12_energyOf (qn h0) (qz h0) (ZN G h0 0 0 (qqi Q)) 148 [(0, .ref l0), (1, .int l1), (2, .int l2), (4, .int l4), (5, .int l5)] [] h := by
  unfold wp_X12_energyOf_148 at hwp
  refine x_iload (pc := 148) dX12_energyOf_148 rfl ?_
  refine x_bipush (v := 6) (pc := 150) dX12_energyOf_150 (by decide) ?_
  refine x_icmp_ge (tgt := 164) (pc := 152) dX12_energyOf_152 (by decide) (fun c42 => ?_) (fun c42 => ?_)
  · have hwp := hwp.1 c42
    refine x_iconst (v := 0) (pc := 164) dX12_energyOf_164 (by decide) ?_
    refine x_goto (tgt := 177) (pc := 165) dX12_energyOf_165 (by decide) ?_
    exact x_iret (pc := 177) dX12_energyOf_177 rfl hex hnn hzz ⟨_, rfl, hwp⟩
  · have hwp := hwp.2 c42
    refine x_aload_n (pc := 155) dX12_energyOf_155 rfl ?_
    refine x_iload_n (pc := 156) dX12_energyOf_156 rfl ?_
    refine x_iload_n (pc := 157) dX12_energyOf_157 rfl ?_
    refine x_invV (As := [.int l1, .int l2]) (st := []) (pc := 158) dX12_energyOf_158 lRX12_242 fX12_isWithin_ vX12_isWithin_ okl0 rfl (Nat.le_of_ble_eq_true rfl) (q_R (by omega) (by decide)) (q_C hnn hzz (by decide) (by decide)) (sn_X12_isWithin_ G (d + 1) l0 l1 l2 h _ okl0 hwp) (k_b (fun r44 h43 hwp zbr44 cxh43 => ?_))
    have hex := hex.tr cxh43.1
    have hnn : qn h43 = qn h0 + 0 := by have := cxh43.2.1; omega
    have hzz : qz h43 = qz h0 + 0 := by have := cxh43.2.2; omega
    have okl0 := okl0.ex cxh43.1
    refine x_if_eq (tgt := 168) (pc := 161) dX12_energyOf_161 (by decide) (fun c45 => ?_) (fun c45 => ?_)
    · have hwp := hwp.1 c45
      refine x_iload (pc := 168) dX12_energyOf_168 rfl ?_
      refine x_ineg (pc := 170) dX12_energyOf_170 ?_
      refine x_bipush (v := 6) (pc := 171) dX12_energyOf_171 (by decide) ?_
      refine x_iload (pc := 173) dX12_energyOf_173 rfl ?_
      refine x_isub (pc := 175) dX12_energyOf_175 ?_
      refine x_imul (pc := 176) dX12_energyOf_176 ?_
      exact x_iret (pc := 177) dX12_energyOf_177 rfl hex hnn hzz ⟨_, rfl, hwp⟩
    · have hwp := hwp.2 c45
      refine x_iconst (v := 0) (pc := 164) dX12_energyOf_164 (by decide) ?_
      refine x_goto (tgt := 177) (pc := 165) dX12_energyOf_165 (by decide) ?_
      exact x_iret (pc := 177) dX12_energyOf_177 rfl hex hnn hzz ⟨_, rfl, hwp⟩
def wp_X12_energyOf (l0 : Nat) (l1 : Int32) (l2 : Int32) (h : PH) (Q : Int32 → PH → Prop) : Prop := (wp_X12_slot 0 l1 h (fun r2 h1 => (∃ b3, qR h1 l0 17 = some b3 ∧ (vp_in (r2 + 2) (qL h1 b3) ∧ ∀ v6 : Int32, v6 = qI h1 b3 (r2 + 2).toNatClampNeg → (∃ b7, qR h1 l0 17 = some b7 ∧ (vp_in (r2 + 0) (qL h1 b7) ∧ (((qI h1 b7 (r2 + 0).toNatClampNeg) = 0 → (wp_X12_armOf l0 l1 l2 h1 (fun r12 h11 => (wp_X12_high l0 l2 h11 (fun r14 h13 => Q ((v6 * r12) * r14) h13))))) ∧ ((qI h1 b7 (r2 + 0).toNatClampNeg) = 1 → (wp_X12_isWithin_ l0 l1 l2 h1 (fun r17 h16 => ((r17 = 0 → Q 0 h16) ∧ (¬ (r17 = 0) → (∃ b19, qR h16 l0 14 = some b19 ∧ (vp_in 0 (qL h16 b19) ∧ (wp_X12_high l0 l2 h16 (fun r23 h22 => Q ((10 * v6) * (((qI h16 b19 (0 : Int32).toNatClampNeg) / 2) - r23)) h22))))))))) ∧ ((qI h1 b7 (r2 + 0).toNatClampNeg) = 2 → (∃ b25, qR h1 l0 17 = some b25 ∧ (vp_in (r2 + 7) (qL h1 b25) ∧ (wp_X12_round l0 (l2 - (qI h1 b25 (r2 + 7).toNatClampNeg)) h1 (fun r29 h28 => (∃ b30, qR h28 l0 14 = some b30 ∧ (vp_in 0 (qL h28 b30) ∧ ((r29 ≤ ((qI h28 b30 (0 : Int32).toNatClampNeg) - r29) → (wp_X12_energyOf_148 l0 l1 l2 v6 r29 h28 Q)) ∧ (¬ (r29 ≤ ((qI h28 b30 (0 : Int32).toNatClampNeg) - r29)) → (∃ b34, qR h28 l0 14 = some b34 ∧ (vp_in 0 (qL h28 b34) ∧ ∀ v37 : Int32, v37 = (qI h28 b34 (0 : Int32).toNatClampNeg) - r29 → (wp_X12_energyOf_148 l0 l1 l2 v6 v37 h28 Q)))))))))))) ∧ ((qI h1 b7 (r2 + 0).toNatClampNeg) = 3 → (wp_X12_isWithin_ l0 l1 l2 h1 (fun r40 h39 => ((r40 = 0 → Q 0 h39) ∧ (¬ (r40 = 0) → Q (40 * v6) h39))))) ∧ (¬ (qI h1 b7 (r2 + 0).toNatClampNeg) = 0 → ¬ (qI h1 b7 (r2 + 0).toNatClampNeg) = 1 → ¬ (qI h1 b7 (r2 + 0).toNatClampNeg) = 2 → ¬ (qI h1 b7 (r2 + 0).toNatClampNeg) = 3 → Q 0 h1))))))))
set_option maxHeartbeats 4000000 in
set_option maxRecDepth 100000 in
theorem sn_X12_energyOf (G : GT) (d : Nat) (l0 : Nat) (l1 : Int32) (l2 : Int32) (h : PH) (Q : Int32 → PH → Prop) (okl0 : qOK h 11 l0) (hwp : wp_X12_energyOf l0 l1 l2 h Q) : Mt G (3 + d) 0 0 mX12_energyOf [.ref l0, .int l1, .int l2] h (qqi Q) := by
  unfold wp_X12_energyOf at hwp
  refine Mt.of (by decide) rfl (Nat.le_of_ble_eq_true rfl) ?_
  have hex := qEx.rf h
  have hnn : qn h = qn h + 0 := rfl
  have hzz : qz h = qz h + 0 := rfl
  refine x_lvE (lv2 := [(0, .ref l0), (1, .int l1), (2, .int l2)]) rfl ?_
  refine x_iconst (v := 0) (pc := 0) dX12_energyOf_0 (by decide) ?_
  refine x_iload_n (pc := 1) dX12_energyOf_1 rfl ?_
  refine x_invS (As := [.int 0, .int l1]) (st := []) (pc := 2) dX12_energyOf_2 lRX12_194 fX12_slot sX12_slot rfl (Nat.le_of_ble_eq_true rfl) (q_R (by omega) (by decide)) (q_C hnn hzz (by decide) (by decide)) (sn_X12_slot G (d + 2) 0 l1 h _  hwp) (k_i (fun r2 h1 hwp cxh1 => ?_))
  have hex := hex.tr cxh1.1
  have hnn : qn h1 = qn h + 0 := by have := cxh1.2.1; omega
  have hzz : qz h1 = qz h + 0 := by have := cxh1.2.2; omega
  have okl0 := okl0.ex cxh1.1
  refine x_istore_n (lv2 := [(3, .int r2), (0, .ref l0), (1, .int l1), (2, .int l2)]) (pc := 5) dX12_energyOf_5 (by decide) rfl ?_
  refine x_aload_n (pc := 6) dX12_energyOf_6 rfl ?_
  obtain ⟨b3, e4, hwp⟩ := hwp
  refine x_getR (pc := 7) dX12_energyOf_7 qRX12_22 okl0 e4 (fun okb3 => ?_)
  refine x_iload_n (pc := 10) dX12_energyOf_10 rfl ?_
  refine x_iconst (v := 2) (pc := 11) dX12_energyOf_11 (by decide) ?_
  refine x_iadd (pc := 12) dX12_energyOf_12 ?_
  obtain ⟨i5, hwp⟩ := hwp
  refine x_iaload (pc := 13) dX12_energyOf_13 okb3 i5 ?_
  refine x_nmI (fun v6 ev6 => ?_)
  have hwp := hwp v6 ev6
  refine x_istore (lv2 := [(4, .int v6), (3, .int r2), (0, .ref l0), (1, .int l1), (2, .int l2)]) (pc := 14) dX12_energyOf_14 (by decide) rfl ?_
  refine x_aload_n (pc := 16) dX12_energyOf_16 rfl ?_
  obtain ⟨b7, e8, hwp⟩ := hwp
  refine x_getR (pc := 17) dX12_energyOf_17 qRX12_22 okl0 e8 (fun okb7 => ?_)
  refine x_iload_n (pc := 20) dX12_energyOf_20 rfl ?_
  refine x_iconst (v := 0) (pc := 21) dX12_energyOf_21 (by decide) ?_
  refine x_iadd (pc := 22) dX12_energyOf_22 ?_
  obtain ⟨i9, hwp⟩ := hwp
  refine x_iaload (pc := 23) dX12_energyOf_23 okb7 i9 ?_
  by_cases c10 : (qI h1 b7 (r2 + 0).toNatClampNeg) = 0
  · have hwp := hwp.1 c10
    refine x_tabIn (tgt := 56) (pc := 24) dX12_energyOf_24 (by rw [q_teq c10 (n := 0) (by decide)]; decide) (by rw [q_teq c10 (n := 0) (by decide)]; decide) (by rw [q_teq c10 (n := 0) (by decide)]; rfl) (by decide) ?_
    refine x_iload (pc := 56) dX12_energyOf_56 rfl ?_
    refine x_aload_n (pc := 58) dX12_energyOf_58 rfl ?_
    refine x_iload_n (pc := 59) dX12_energyOf_59 rfl ?_
    refine x_iload_n (pc := 60) dX12_energyOf_60 rfl ?_
    refine x_invV (As := [.int l1, .int l2]) (st := [.int v6]) (pc := 61) dX12_energyOf_61 lRX12_244 fX12_armOf vX12_armOf okl0 rfl (Nat.le_of_ble_eq_true rfl) (q_R (by omega) (by decide)) (q_C hnn hzz (by decide) (by decide)) (sn_X12_armOf G (d + 0) l0 l1 l2 h1 _ okl0 hwp) (k_i (fun r12 h11 hwp cxh11 => ?_))
    have hex := hex.tr cxh11.1
    have hnn : qn h11 = qn h + 0 := by have := cxh11.2.1; omega
    have hzz : qz h11 = qz h + 0 := by have := cxh11.2.2; omega
    have okl0 := okl0.ex cxh11.1
    have okb3 := okb3.ex cxh11.1
    have okb7 := okb7.ex cxh11.1
    refine x_imul (pc := 64) dX12_energyOf_64 ?_
    refine x_aload_n (pc := 65) dX12_energyOf_65 rfl ?_
    refine x_iload_n (pc := 66) dX12_energyOf_66 rfl ?_
    refine x_invV (As := [.int l2]) (st := [.int (v6 * r12)]) (pc := 67) dX12_energyOf_67 lRX12_247 fX12_high vX12_high okl0 rfl (Nat.le_of_ble_eq_true rfl) (q_R (by omega) (by decide)) (q_C hnn hzz (by decide) (by decide)) (sn_X12_high G (d + 2) l0 l2 h11 _ okl0 hwp) (k_i (fun r14 h13 hwp cxh13 => ?_))
    have hex := hex.tr cxh13.1
    have hnn : qn h13 = qn h + 0 := by have := cxh13.2.1; omega
    have hzz : qz h13 = qz h + 0 := by have := cxh13.2.2; omega
    have okl0 := okl0.ex cxh13.1
    have okb3 := okb3.ex cxh13.1
    have okb7 := okb7.ex cxh13.1
    refine x_imul (pc := 70) dX12_energyOf_70 ?_
    exact x_iret (pc := 71) dX12_energyOf_71 rfl hex hnn hzz ⟨_, rfl, hwp⟩
  by_cases c15 : (qI h1 b7 (r2 + 0).toNatClampNeg) = 1
  · have hwp := hwp.2.1 c15
    refine x_tabIn (tgt := 72) (pc := 24) dX12_energyOf_24 (by rw [q_teq c15 (n := 1) (by decide)]; decide) (by rw [q_teq c15 (n := 1) (by decide)]; decide) (by rw [q_teq c15 (n := 1) (by decide)]; rfl) (by decide) ?_
    refine x_aload_n (pc := 72) dX12_energyOf_72 rfl ?_
    refine x_iload_n (pc := 73) dX12_energyOf_73 rfl ?_
    refine x_iload_n (pc := 74) dX12_energyOf_74 rfl ?_
    refine x_invV (As := [.int l1, .int l2]) (st := []) (pc := 75) dX12_energyOf_75 lRX12_242 fX12_isWithin_ vX12_isWithin_ okl0 rfl (Nat.le_of_ble_eq_true rfl) (q_R (by omega) (by decide)) (q_C hnn hzz (by decide) (by decide)) (sn_X12_isWithin_ G (d + 1) l0 l1 l2 h1 _ okl0 hwp) (k_b (fun r17 h16 hwp zbr17 cxh16 => ?_))
    have hex := hex.tr cxh16.1
    have hnn : qn h16 = qn h + 0 := by have := cxh16.2.1; omega
    have hzz : qz h16 = qz h + 0 := by have := cxh16.2.2; omega
    have okl0 := okl0.ex cxh16.1
    have okb3 := okb3.ex cxh16.1
    have okb7 := okb7.ex cxh16.1
    refine x_if_eq (tgt := 104) (pc := 78) dX12_energyOf_78 (by decide) (fun c18 => ?_) (fun c18 => ?_)
    · have hwp := hwp.1 c18
      refine x_iconst (v := 0) (pc := 104) dX12_energyOf_104 (by decide) ?_
      exact x_iret (pc := 105) dX12_energyOf_105 rfl hex hnn hzz ⟨_, rfl, hwp⟩
    · have hwp := hwp.2 c18
      refine x_bipush (v := 10) (pc := 81) dX12_energyOf_81 (by decide) ?_
      refine x_iload (pc := 83) dX12_energyOf_83 rfl ?_
      refine x_imul (pc := 85) dX12_energyOf_85 ?_
      refine x_aload_n (pc := 86) dX12_energyOf_86 rfl ?_
      obtain ⟨b19, e20, hwp⟩ := hwp
      refine x_getR (pc := 87) dX12_energyOf_87 qRX12_13 okl0 e20 (fun okb19 => ?_)
      refine x_iconst (v := 0) (pc := 90) dX12_energyOf_90 (by decide) ?_
      obtain ⟨i21, hwp⟩ := hwp
      refine x_iaload (pc := 91) dX12_energyOf_91 okb19 i21 ?_
      refine x_iconst (v := 2) (pc := 92) dX12_energyOf_92 (by decide) ?_
      refine x_idiv (pc := 93) dX12_energyOf_93 (by decide) ?_
      refine x_aload_n (pc := 94) dX12_energyOf_94 rfl ?_
      refine x_iload_n (pc := 95) dX12_energyOf_95 rfl ?_
      refine x_invV (As := [.int l2]) (st := [.int ((qI h16 b19 (0 : Int32).toNatClampNeg) / 2), .int (10 * v6)]) (pc := 96) dX12_energyOf_96 lRX12_247 fX12_high vX12_high okl0 rfl (Nat.le_of_ble_eq_true rfl) (q_R (by omega) (by decide)) (q_C hnn hzz (by decide) (by decide)) (sn_X12_high G (d + 2) l0 l2 h16 _ okl0 hwp) (k_i (fun r23 h22 hwp cxh22 => ?_))
      have hex := hex.tr cxh22.1
      have hnn : qn h22 = qn h + 0 := by have := cxh22.2.1; omega
      have hzz : qz h22 = qz h + 0 := by have := cxh22.2.2; omega
      have okl0 := okl0.ex cxh22.1
      have okb3 := okb3.ex cxh22.1
      have okb7 := okb7.ex cxh22.1
      have okb19 := okb19.ex cxh22.1
      refine x_isub (pc := 99) dX12_energyOf_99 ?_
      refine x_imul (pc := 100) dX12_energyOf_100 ?_
      refine x_goto (tgt := 105) (pc := 101) dX12_energyOf_101 (by decide) ?_
      exact x_iret (pc := 105) dX12_energyOf_105 rfl hex hnn hzz ⟨_, rfl, hwp⟩
  by_cases c24 : (qI h1 b7 (r2 + 0).toNatClampNeg) = 2
  · have hwp := hwp.2.2.1 c24
    refine x_tabIn (tgt := 106) (pc := 24) dX12_energyOf_24 (by rw [q_teq c24 (n := 2) (by decide)]; decide) (by rw [q_teq c24 (n := 2) (by decide)]; decide) (by rw [q_teq c24 (n := 2) (by decide)]; rfl) (by decide) ?_
    refine x_aload_n (pc := 106) dX12_energyOf_106 rfl ?_
    refine x_iload_n (pc := 107) dX12_energyOf_107 rfl ?_
    refine x_aload_n (pc := 108) dX12_energyOf_108 rfl ?_
    obtain ⟨b25, e26, hwp⟩ := hwp
    refine x_getR (pc := 109) dX12_energyOf_109 qRX12_22 okl0 e26 (fun okb25 => ?_)
    refine x_iload_n (pc := 112) dX12_energyOf_112 rfl ?_
    refine x_bipush (v := 7) (pc := 113) dX12_energyOf_113 (by decide) ?_
    refine x_iadd (pc := 115) dX12_energyOf_115 ?_
    obtain ⟨i27, hwp⟩ := hwp
    refine x_iaload (pc := 116) dX12_energyOf_116 okb25 i27 ?_
    refine x_isub (pc := 117) dX12_energyOf_117 ?_
    refine x_invV (As := [.int (l2 - (qI h1 b25 (r2 + 7).toNatClampNeg))]) (st := []) (pc := 118) dX12_energyOf_118 lRX12_239 fX12_round vX12_round okl0 rfl (Nat.le_of_ble_eq_true rfl) (q_R (by omega) (by decide)) (q_C hnn hzz (by decide) (by decide)) (sn_X12_round G (d + 2) l0 (l2 - (qI h1 b25 (r2 + 7).toNatClampNeg)) h1 _ okl0 hwp) (k_i (fun r29 h28 hwp cxh28 => ?_))
    have hex := hex.tr cxh28.1
    have hnn : qn h28 = qn h + 0 := by have := cxh28.2.1; omega
    have hzz : qz h28 = qz h + 0 := by have := cxh28.2.2; omega
    have okl0 := okl0.ex cxh28.1
    have okb3 := okb3.ex cxh28.1
    have okb7 := okb7.ex cxh28.1
    have okb25 := okb25.ex cxh28.1
    refine x_istore (lv2 := [(5, .int r29), (4, .int v6), (3, .int r2), (0, .ref l0), (1, .int l1), (2, .int l2)]) (pc := 121) dX12_energyOf_121 (by decide) rfl ?_
    refine x_iload (pc := 123) dX12_energyOf_123 rfl ?_
    refine x_aload_n (pc := 125) dX12_energyOf_125 rfl ?_
    obtain ⟨b30, e31, hwp⟩ := hwp
    refine x_getR (pc := 126) dX12_energyOf_126 qRX12_13 okl0 e31 (fun okb30 => ?_)
    refine x_iconst (v := 0) (pc := 129) dX12_energyOf_129 (by decide) ?_
    obtain ⟨i32, hwp⟩ := hwp
    refine x_iaload (pc := 130) dX12_energyOf_130 okb30 i32 ?_
    refine x_iload (pc := 131) dX12_energyOf_131 rfl ?_
    refine x_isub (pc := 133) dX12_energyOf_133 ?_
    refine x_icmp_le (tgt := 148) (pc := 134) dX12_energyOf_134 (by decide) (fun c33 => ?_) (fun c33 => ?_)
    · have hwp := hwp.1 c33
      refine x_sub [3, 4, 5, 1, 0] rfl ?_
      exact sg_X12_energyOf_148 G d h l0 l1 l2 v6 r29 h28 Q hex hnn hzz okl0 hwp
    · have hwp := hwp.2 c33
      refine x_aload_n (pc := 137) dX12_energyOf_137 rfl ?_
      obtain ⟨b34, e35, hwp⟩ := hwp
      refine x_getR (pc := 138) dX12_energyOf_138 qRX12_13 okl0 e35 (fun okb34 => ?_)
      refine x_iconst (v := 0) (pc := 141) dX12_energyOf_141 (by decide) ?_
      obtain ⟨i36, hwp⟩ := hwp
      refine x_iaload (pc := 142) dX12_energyOf_142 okb34 i36 ?_
      refine x_iload (pc := 143) dX12_energyOf_143 rfl ?_
      refine x_isub (pc := 145) dX12_energyOf_145 ?_
      refine x_nmI (fun v37 ev37 => ?_)
      have hwp := hwp v37 ev37
      refine x_istore (lv2 := [(5, .int v37), (4, .int v6), (3, .int r2), (0, .ref l0), (1, .int l1), (2, .int l2)]) (pc := 146) dX12_energyOf_146 (by decide) rfl ?_
      refine x_sub [3, 4, 5, 1, 0] rfl ?_
      exact sg_X12_energyOf_148 G d h l0 l1 l2 v6 v37 h28 Q hex hnn hzz okl0 hwp
  by_cases c38 : (qI h1 b7 (r2 + 0).toNatClampNeg) = 3
  · have hwp := hwp.2.2.2.1 c38
    refine x_tabIn (tgt := 178) (pc := 24) dX12_energyOf_24 (by rw [q_teq c38 (n := 3) (by decide)]; decide) (by rw [q_teq c38 (n := 3) (by decide)]; decide) (by rw [q_teq c38 (n := 3) (by decide)]; rfl) (by decide) ?_
    refine x_aload_n (pc := 178) dX12_energyOf_178 rfl ?_
    refine x_iload_n (pc := 179) dX12_energyOf_179 rfl ?_
    refine x_iload_n (pc := 180) dX12_energyOf_180 rfl ?_
    refine x_invV (As := [.int l1, .int l2]) (st := []) (pc := 181) dX12_energyOf_181 lRX12_242 fX12_isWithin_ vX12_isWithin_ okl0 rfl (Nat.le_of_ble_eq_true rfl) (q_R (by omega) (by decide)) (q_C hnn hzz (by decide) (by decide)) (sn_X12_isWithin_ G (d + 1) l0 l1 l2 h1 _ okl0 hwp) (k_b (fun r40 h39 hwp zbr40 cxh39 => ?_))
    have hex := hex.tr cxh39.1
    have hnn : qn h39 = qn h + 0 := by have := cxh39.2.1; omega
    have hzz : qz h39 = qz h + 0 := by have := cxh39.2.2; omega
    have okl0 := okl0.ex cxh39.1
    have okb3 := okb3.ex cxh39.1
    have okb7 := okb7.ex cxh39.1
    refine x_if_eq (tgt := 195) (pc := 184) dX12_energyOf_184 (by decide) (fun c41 => ?_) (fun c41 => ?_)
    · have hwp := hwp.1 c41
      refine x_iconst (v := 0) (pc := 195) dX12_energyOf_195 (by decide) ?_
      exact x_iret (pc := 196) dX12_energyOf_196 rfl hex hnn hzz ⟨_, rfl, hwp⟩
    · have hwp := hwp.2 c41
      refine x_bipush (v := 40) (pc := 187) dX12_energyOf_187 (by decide) ?_
      refine x_iload (pc := 189) dX12_energyOf_189 rfl ?_
      refine x_imul (pc := 191) dX12_energyOf_191 ?_
      refine x_goto (tgt := 196) (pc := 192) dX12_energyOf_192 (by decide) ?_
      exact x_iret (pc := 196) dX12_energyOf_196 rfl hex hnn hzz ⟨_, rfl, hwp⟩
  have hwp := hwp.2.2.2.2 c10 c15 c24 c38
  refine x_tabOut (tgt := 197) (pc := 24) dX12_energyOf_24 (by have := q_tne c10 (n := 0) (by decide); have := q_tne c15 (n := 1) (by decide); have := q_tne c24 (n := 2) (by decide); have := q_tne c38 (n := 3) (by decide); omega) (by decide) ?_
  refine x_iconst (v := 0) (pc := 197) dX12_energyOf_197 (by decide) ?_
  exact x_iret (pc := 198) dX12_energyOf_198 rfl hex hnn hzz ⟨_, rfl, hwp⟩

theorem dX12_givesOf_0 : decode cX12_givesOf 0 = .ok (.iconst 0, 1) := by decide +kernel
theorem dX12_givesOf_1 : decode cX12_givesOf 1 = .ok (.iload_n 1, 1) := by decide +kernel
theorem dX12_givesOf_2 : decode cX12_givesOf 2 = .ok (.invokestatic 194, 3) := by decide +kernel
theorem dX12_givesOf_5 : decode cX12_givesOf 5 = .ok (.istore 4, 2) := by decide +kernel
theorem dX12_givesOf_7 : decode cX12_givesOf 7 = .ok (.aload_n 0, 1) := by decide +kernel
theorem dX12_givesOf_8 : decode cX12_givesOf 8 = .ok (.getfield 22, 3) := by decide +kernel
theorem dX12_givesOf_11 : decode cX12_givesOf 11 = .ok (.iload 4, 2) := by decide +kernel
theorem dX12_givesOf_13 : decode cX12_givesOf 13 = .ok (.iconst 0, 1) := by decide +kernel
theorem dX12_givesOf_14 : decode cX12_givesOf 14 = .ok (.iadd, 1) := by decide +kernel
theorem dX12_givesOf_15 : decode cX12_givesOf 15 = .ok (.iaload, 1) := by decide +kernel
theorem dX12_givesOf_16 : decode cX12_givesOf 16 = .ok (.iconst 4, 1) := by decide +kernel
theorem dX12_givesOf_17 : decode cX12_givesOf 17 = .ok (.if_icmp .ne 30, 3) := by decide +kernel
theorem dX12_givesOf_20 : decode cX12_givesOf 20 = .ok (.iload_n 2, 1) := by decide +kernel
theorem dX12_givesOf_21 : decode cX12_givesOf 21 = .ok (.aload_n 0, 1) := by decide +kernel
theorem dX12_givesOf_22 : decode cX12_givesOf 22 = .ok (.getfield 22, 3) := by decide +kernel
theorem dX12_givesOf_25 : decode cX12_givesOf 25 = .ok (.iload 4, 2) := by decide +kernel
theorem dX12_givesOf_27 : decode cX12_givesOf 27 = .ok (.iconst 1, 1) := by decide +kernel
theorem dX12_givesOf_28 : decode cX12_givesOf 28 = .ok (.iadd, 1) := by decide +kernel
theorem dX12_givesOf_29 : decode cX12_givesOf 29 = .ok (.iaload, 1) := by decide +kernel
theorem dX12_givesOf_30 : decode cX12_givesOf 30 = .ok (.if_icmp .ne 15, 3) := by decide +kernel
theorem dX12_givesOf_33 : decode cX12_givesOf 33 = .ok (.aload_n 0, 1) := by decide +kernel
theorem dX12_givesOf_34 : decode cX12_givesOf 34 = .ok (.getfield 22, 3) := by decide +kernel
theorem dX12_givesOf_37 : decode cX12_givesOf 37 = .ok (.iload 4, 2) := by decide +kernel
theorem dX12_givesOf_39 : decode cX12_givesOf 39 = .ok (.iconst 2, 1) := by decide +kernel
theorem dX12_givesOf_40 : decode cX12_givesOf 40 = .ok (.iadd, 1) := by decide +kernel
theorem dX12_givesOf_41 : decode cX12_givesOf 41 = .ok (.iaload, 1) := by decide +kernel
theorem dX12_givesOf_42 : decode cX12_givesOf 42 = .ok (.goto 4, 3) := by decide +kernel
theorem dX12_givesOf_45 : decode cX12_givesOf 45 = .ok (.iconst 0, 1) := by decide +kernel
theorem dX12_givesOf_46 : decode cX12_givesOf 46 = .ok (.ireturn, 1) := by decide +kernel
theorem dX12_givesOf_47 : decode cX12_givesOf 47 = .ok (.aload_n 0, 1) := by decide +kernel
theorem dX12_givesOf_48 : decode cX12_givesOf 48 = .ok (.iload_n 1, 1) := by decide +kernel
theorem dX12_givesOf_49 : decode cX12_givesOf 49 = .ok (.iload_n 2, 1) := by decide +kernel
theorem dX12_givesOf_50 : decode cX12_givesOf 50 = .ok (.invokevirtual 250, 3) := by decide +kernel
theorem dX12_givesOf_53 : decode cX12_givesOf 53 = .ok (.istore 5, 2) := by decide +kernel
theorem dX12_givesOf_55 : decode cX12_givesOf 55 = .ok (.aload_n 0, 1) := by decide +kernel
theorem dX12_givesOf_56 : decode cX12_givesOf 56 = .ok (.iload 5, 2) := by decide +kernel
theorem dX12_givesOf_58 : decode cX12_givesOf 58 = .ok (.iconst 1, 1) := by decide +kernel
theorem dX12_givesOf_59 : decode cX12_givesOf 59 = .ok (.iadd, 1) := by decide +kernel
theorem dX12_givesOf_60 : decode cX12_givesOf 60 = .ok (.invokevirtual 239, 3) := by decide +kernel
theorem dX12_givesOf_63 : decode cX12_givesOf 63 = .ok (.istore 6, 2) := by decide +kernel
theorem dX12_givesOf_65 : decode cX12_givesOf 65 = .ok (.aload_n 0, 1) := by decide +kernel
theorem dX12_givesOf_66 : decode cX12_givesOf 66 = .ok (.iload_n 1, 1) := by decide +kernel
theorem dX12_givesOf_67 : decode cX12_givesOf 67 = .ok (.iload 5, 2) := by decide +kernel
theorem dX12_givesOf_69 : decode cX12_givesOf 69 = .ok (.invokevirtual 253, 3) := by decide +kernel
theorem dX12_givesOf_72 : decode cX12_givesOf 72 = .ok (.aload_n 0, 1) := by decide +kernel
theorem dX12_givesOf_73 : decode cX12_givesOf 73 = .ok (.iload_n 1, 1) := by decide +kernel
theorem dX12_givesOf_74 : decode cX12_givesOf 74 = .ok (.iload 6, 2) := by decide +kernel
theorem dX12_givesOf_76 : decode cX12_givesOf 76 = .ok (.invokevirtual 253, 3) := by decide +kernel
theorem dX12_givesOf_79 : decode cX12_givesOf 79 = .ok (.isub, 1) := by decide +kernel
theorem dX12_givesOf_80 : decode cX12_givesOf 80 = .ok (.istore 7, 2) := by decide +kernel
theorem dX12_givesOf_82 : decode cX12_givesOf 82 = .ok (.aload_n 0, 1) := by decide +kernel
theorem dX12_givesOf_83 : decode cX12_givesOf 83 = .ok (.iload_n 1, 1) := by decide +kernel
theorem dX12_givesOf_84 : decode cX12_givesOf 84 = .ok (.iload 5, 2) := by decide +kernel
theorem dX12_givesOf_86 : decode cX12_givesOf 86 = .ok (.invokevirtual 242, 3) := by decide +kernel
theorem dX12_givesOf_89 : decode cX12_givesOf 89 = .ok (.istore 8, 2) := by decide +kernel
theorem dX12_givesOf_91 : decode cX12_givesOf 91 = .ok (.aload_n 0, 1) := by decide +kernel
theorem dX12_givesOf_92 : decode cX12_givesOf 92 = .ok (.iload_n 1, 1) := by decide +kernel
theorem dX12_givesOf_93 : decode cX12_givesOf 93 = .ok (.iload 6, 2) := by decide +kernel
theorem dX12_givesOf_95 : decode cX12_givesOf 95 = .ok (.invokevirtual 242, 3) := by decide +kernel
theorem dX12_givesOf_98 : decode cX12_givesOf 98 = .ok (.istore 9, 2) := by decide +kernel
theorem dX12_givesOf_100 : decode cX12_givesOf 100 = .ok (.aload_n 0, 1) := by decide +kernel
theorem dX12_givesOf_101 : decode cX12_givesOf 101 = .ok (.getfield 22, 3) := by decide +kernel
theorem dX12_givesOf_104 : decode cX12_givesOf 104 = .ok (.iload 4, 2) := by decide +kernel
theorem dX12_givesOf_106 : decode cX12_givesOf 106 = .ok (.iconst 0, 1) := by decide +kernel
theorem dX12_givesOf_107 : decode cX12_givesOf 107 = .ok (.iadd, 1) := by decide +kernel
theorem dX12_givesOf_108 : decode cX12_givesOf 108 = .ok (.iaload, 1) := by decide +kernel
theorem dX12_givesOf_109 : decode cX12_givesOf 109 = .ok (.tableswitch 102 0 2 #[27, 59, 82], 27) := by decide +kernel
theorem dX12_givesOf_136 : decode cX12_givesOf 136 = .ok (.iload_n 3, 1) := by decide +kernel
theorem dX12_givesOf_137 : decode cX12_givesOf 137 = .ok (.bipush 8, 2) := by decide +kernel
theorem dX12_givesOf_139 : decode cX12_givesOf 139 = .ok (.iand, 1) := by decide +kernel
theorem dX12_givesOf_140 : decode cX12_givesOf 140 = .ok (.ifCond .eq 25, 3) := by decide +kernel
theorem dX12_givesOf_143 : decode cX12_givesOf 143 = .ok (.aload_n 0, 1) := by decide +kernel
theorem dX12_givesOf_144 : decode cX12_givesOf 144 = .ok (.iload 6, 2) := by decide +kernel
theorem dX12_givesOf_146 : decode cX12_givesOf 146 = .ok (.invokevirtual 247, 3) := by decide +kernel
theorem dX12_givesOf_149 : decode cX12_givesOf 149 = .ok (.aload_n 0, 1) := by decide +kernel
theorem dX12_givesOf_150 : decode cX12_givesOf 150 = .ok (.iload 5, 2) := by decide +kernel
theorem dX12_givesOf_152 : decode cX12_givesOf 152 = .ok (.invokevirtual 247, 3) := by decide +kernel
theorem dX12_givesOf_155 : decode cX12_givesOf 155 = .ok (.if_icmp .le 10, 3) := by decide +kernel
theorem dX12_givesOf_158 : decode cX12_givesOf 158 = .ok (.iload 7, 2) := by decide +kernel
theorem dX12_givesOf_160 : decode cX12_givesOf 160 = .ok (.iconst 2, 1) := by decide +kernel
theorem dX12_givesOf_161 : decode cX12_givesOf 161 = .ok (.idiv, 1) := by decide +kernel
theorem dX12_givesOf_162 : decode cX12_givesOf 162 = .ok (.goto 5, 3) := by decide +kernel
theorem dX12_givesOf_165 : decode cX12_givesOf 165 = .ok (.iload 7, 2) := by decide +kernel
theorem dX12_givesOf_167 : decode cX12_givesOf 167 = .ok (.ireturn, 1) := by decide +kernel
theorem dX12_givesOf_168 : decode cX12_givesOf 168 = .ok (.iload_n 3, 1) := by decide +kernel
theorem dX12_givesOf_169 : decode cX12_givesOf 169 = .ok (.iconst 1, 1) := by decide +kernel
theorem dX12_givesOf_170 : decode cX12_givesOf 170 = .ok (.iand, 1) := by decide +kernel
theorem dX12_givesOf_171 : decode cX12_givesOf 171 = .ok (.ifCond .eq 17, 3) := by decide +kernel
theorem dX12_givesOf_174 : decode cX12_givesOf 174 = .ok (.iload 8, 2) := by decide +kernel
theorem dX12_givesOf_176 : decode cX12_givesOf 176 = .ok (.ifCond .ne 12, 3) := by decide +kernel
theorem dX12_givesOf_179 : decode cX12_givesOf 179 = .ok (.iload 9, 2) := by decide +kernel
theorem dX12_givesOf_181 : decode cX12_givesOf 181 = .ok (.ifCond .eq 7, 3) := by decide +kernel
theorem dX12_givesOf_184 : decode cX12_givesOf 184 = .ok (.iconst 0, 1) := by decide +kernel
theorem dX12_givesOf_185 : decode cX12_givesOf 185 = .ok (.goto 5, 3) := by decide +kernel
theorem dX12_givesOf_188 : decode cX12_givesOf 188 = .ok (.iload 7, 2) := by decide +kernel
theorem dX12_givesOf_190 : decode cX12_givesOf 190 = .ok (.ireturn, 1) := by decide +kernel
theorem dX12_givesOf_191 : decode cX12_givesOf 191 = .ok (.iload_n 3, 1) := by decide +kernel
theorem dX12_givesOf_192 : decode cX12_givesOf 192 = .ok (.iconst 2, 1) := by decide +kernel
theorem dX12_givesOf_193 : decode cX12_givesOf 193 = .ok (.iand, 1) := by decide +kernel
theorem dX12_givesOf_194 : decode cX12_givesOf 194 = .ok (.ifCond .eq 14, 3) := by decide +kernel
theorem dX12_givesOf_197 : decode cX12_givesOf 197 = .ok (.iload 8, 2) := by decide +kernel
theorem dX12_givesOf_199 : decode cX12_givesOf 199 = .ok (.iload 9, 2) := by decide +kernel
theorem dX12_givesOf_201 : decode cX12_givesOf 201 = .ok (.if_icmp .eq 7, 3) := by decide +kernel
theorem dX12_givesOf_204 : decode cX12_givesOf 204 = .ok (.iconst 0, 1) := by decide +kernel
theorem dX12_givesOf_205 : decode cX12_givesOf 205 = .ok (.goto 5, 3) := by decide +kernel
theorem dX12_givesOf_208 : decode cX12_givesOf 208 = .ok (.iload 7, 2) := by decide +kernel
theorem dX12_givesOf_210 : decode cX12_givesOf 210 = .ok (.ireturn, 1) := by decide +kernel
theorem dX12_givesOf_211 : decode cX12_givesOf 211 = .ok (.iload_n 3, 1) := by decide +kernel
theorem dX12_givesOf_212 : decode cX12_givesOf 212 = .ok (.iconst 4, 1) := by decide +kernel
theorem dX12_givesOf_213 : decode cX12_givesOf 213 = .ok (.iand, 1) := by decide +kernel
theorem dX12_givesOf_214 : decode cX12_givesOf 214 = .ok (.ifCond .eq 17, 3) := by decide +kernel
theorem dX12_givesOf_217 : decode cX12_givesOf 217 = .ok (.iload 8, 2) := by decide +kernel
theorem dX12_givesOf_219 : decode cX12_givesOf 219 = .ok (.ifCond .ne 12, 3) := by decide +kernel
theorem dX12_givesOf_222 : decode cX12_givesOf 222 = .ok (.iload 9, 2) := by decide +kernel
theorem dX12_givesOf_224 : decode cX12_givesOf 224 = .ok (.ifCond .eq 7, 3) := by decide +kernel
theorem dX12_givesOf_227 : decode cX12_givesOf 227 = .ok (.iconst 0, 1) := by decide +kernel
theorem dX12_givesOf_228 : decode cX12_givesOf 228 = .ok (.goto 5, 3) := by decide +kernel
theorem dX12_givesOf_231 : decode cX12_givesOf 231 = .ok (.iload 7, 2) := by decide +kernel
theorem dX12_givesOf_233 : decode cX12_givesOf 233 = .ok (.ireturn, 1) := by decide +kernel
def wp_X12_givesOf (l0 : Nat) (l1 : Int32) (l2 : Int32) (l3 : Int32) (h : PH) (Q : Int32 → PH → Prop) : Prop := (wp_X12_slot 0 l1 h (fun r2 h1 => (∃ b3, qR h1 l0 17 = some b3 ∧ (vp_in (r2 + 0) (qL h1 b3) ∧ ((¬ (qI h1 b3 (r2 + 0).toNatClampNeg) = 4 → (wp_X12_placeOf l0 l1 l2 h1 (fun r8 h7 => (wp_X12_round l0 (r8 + 1) h7 (fun r10 h9 => (wp_X12_energyOf l0 l1 r8 h9 (fun r12 h11 => (wp_X12_energyOf l0 l1 r10 h11 (fun r14 h13 => ∀ v15 : Int32, v15 = r12 - r14 → (wp_X12_isWithin_ l0 l1 r8 h13 (fun r17 h16 => (wp_X12_isWithin_ l0 l1 r10 h16 (fun r19 h18 => (∃ b20, qR h18 l0 17 = some b20 ∧ (vp_in (r2 + 0) (qL h18 b20) ∧ (((qI h18 b20 (r2 + 0).toNatClampNeg) = 0 → (((l3 &&& 8) = 0 → Q v15 h18) ∧ (¬ ((l3 &&& 8) = 0) → (wp_X12_high l0 r10 h18 (fun r26 h25 => (wp_X12_high l0 r8 h25 (fun r28 h27 => ((r26 ≤ r28 → Q v15 h27) ∧ (¬ (r26 ≤ r28) → Q (v15 / 2) h27))))))))) ∧ ((qI h18 b20 (r2 + 0).toNatClampNeg) = 1 → (((l3 &&& 1) = 0 → Q v15 h18) ∧ (¬ ((l3 &&& 1) = 0) → ((¬ r17 = 0 → Q v15 h18) ∧ (r17 = 0 → ((r19 = 0 → Q v15 h18) ∧ (¬ (r19 = 0) → Q 0 h18))))))) ∧ ((qI h18 b20 (r2 + 0).toNatClampNeg) = 2 → (((l3 &&& 2) = 0 → Q v15 h18) ∧ (¬ ((l3 &&& 2) = 0) → ((r17 = r19 → Q v15 h18) ∧ (¬ (r17 = r19) → Q 0 h18))))) ∧ (¬ (qI h18 b20 (r2 + 0).toNatClampNeg) = 0 → ¬ (qI h18 b20 (r2 + 0).toNatClampNeg) = 1 → ¬ (qI h18 b20 (r2 + 0).toNatClampNeg) = 2 → (((l3 &&& 4) = 0 → Q v15 h18) ∧ (¬ ((l3 &&& 4) = 0) → ((¬ r17 = 0 → Q v15 h18) ∧ (r17 = 0 → ((r19 = 0 → Q v15 h18) ∧ (¬ (r19 = 0) → Q 0 h18))))))))))))))))))))))) ∧ ((qI h1 b3 (r2 + 0).toNatClampNeg) = 4 → (∃ b40, qR h1 l0 17 = some b40 ∧ (vp_in (r2 + 1) (qL h1 b40) ∧ ((¬ l2 = (qI h1 b40 (r2 + 1).toNatClampNeg) → Q 0 h1) ∧ (l2 = (qI h1 b40 (r2 + 1).toNatClampNeg) → (∃ b44, qR h1 l0 17 = some b44 ∧ (vp_in (r2 + 2) (qL h1 b44) ∧ Q (qI h1 b44 (r2 + 2).toNatClampNeg) h1))))))))))))
set_option maxHeartbeats 4000000 in
set_option maxRecDepth 100000 in
theorem sn_X12_givesOf (G : GT) (d : Nat) (l0 : Nat) (l1 : Int32) (l2 : Int32) (l3 : Int32) (h : PH) (Q : Int32 → PH → Prop) (okl0 : qOK h 11 l0) (hwp : wp_X12_givesOf l0 l1 l2 l3 h Q) : Mt G (4 + d) 0 0 mX12_givesOf [.ref l0, .int l1, .int l2, .int l3] h (qqi Q) := by
  unfold wp_X12_givesOf at hwp
  refine Mt.of (by decide) rfl (Nat.le_of_ble_eq_true rfl) ?_
  have hex := qEx.rf h
  have hnn : qn h = qn h + 0 := rfl
  have hzz : qz h = qz h + 0 := rfl
  refine x_lvE (lv2 := [(0, .ref l0), (1, .int l1), (2, .int l2), (3, .int l3)]) rfl ?_
  refine x_iconst (v := 0) (pc := 0) dX12_givesOf_0 (by decide) ?_
  refine x_iload_n (pc := 1) dX12_givesOf_1 rfl ?_
  refine x_invS (As := [.int 0, .int l1]) (st := []) (pc := 2) dX12_givesOf_2 lRX12_194 fX12_slot sX12_slot rfl (Nat.le_of_ble_eq_true rfl) (q_R (by omega) (by decide)) (q_C hnn hzz (by decide) (by decide)) (sn_X12_slot G (d + 3) 0 l1 h _  hwp) (k_i (fun r2 h1 hwp cxh1 => ?_))
  have hex := hex.tr cxh1.1
  have hnn : qn h1 = qn h + 0 := by have := cxh1.2.1; omega
  have hzz : qz h1 = qz h + 0 := by have := cxh1.2.2; omega
  have okl0 := okl0.ex cxh1.1
  refine x_istore (lv2 := [(4, .int r2), (0, .ref l0), (1, .int l1), (2, .int l2), (3, .int l3)]) (pc := 5) dX12_givesOf_5 (by decide) rfl ?_
  refine x_aload_n (pc := 7) dX12_givesOf_7 rfl ?_
  obtain ⟨b3, e4, hwp⟩ := hwp
  refine x_getR (pc := 8) dX12_givesOf_8 qRX12_22 okl0 e4 (fun okb3 => ?_)
  refine x_iload (pc := 11) dX12_givesOf_11 rfl ?_
  refine x_iconst (v := 0) (pc := 13) dX12_givesOf_13 (by decide) ?_
  refine x_iadd (pc := 14) dX12_givesOf_14 ?_
  obtain ⟨i5, hwp⟩ := hwp
  refine x_iaload (pc := 15) dX12_givesOf_15 okb3 i5 ?_
  refine x_iconst (v := 4) (pc := 16) dX12_givesOf_16 (by decide) ?_
  refine x_icmp_ne (tgt := 47) (pc := 17) dX12_givesOf_17 (by decide) (fun c6 => ?_) (fun c6 => ?_)
  · have hwp := hwp.1 c6
    refine x_aload_n (pc := 47) dX12_givesOf_47 rfl ?_
    refine x_iload_n (pc := 48) dX12_givesOf_48 rfl ?_
    refine x_iload_n (pc := 49) dX12_givesOf_49 rfl ?_
    refine x_invV (As := [.int l1, .int l2]) (st := []) (pc := 50) dX12_givesOf_50 lRX12_250 fX12_placeOf vX12_placeOf okl0 rfl (Nat.le_of_ble_eq_true rfl) (q_R (by omega) (by decide)) (q_C hnn hzz (by decide) (by decide)) (sn_X12_placeOf G (d + 2) l0 l1 l2 h1 _ okl0 hwp) (k_i (fun r8 h7 hwp cxh7 => ?_))
    have hex := hex.tr cxh7.1
    have hnn : qn h7 = qn h + 0 := by have := cxh7.2.1; omega
    have hzz : qz h7 = qz h + 0 := by have := cxh7.2.2; omega
    have okl0 := okl0.ex cxh7.1
    have okb3 := okb3.ex cxh7.1
    refine x_istore (lv2 := [(5, .int r8), (4, .int r2), (0, .ref l0), (1, .int l1), (2, .int l2), (3, .int l3)]) (pc := 53) dX12_givesOf_53 (by decide) rfl ?_
    refine x_aload_n (pc := 55) dX12_givesOf_55 rfl ?_
    refine x_iload (pc := 56) dX12_givesOf_56 rfl ?_
    refine x_iconst (v := 1) (pc := 58) dX12_givesOf_58 (by decide) ?_
    refine x_iadd (pc := 59) dX12_givesOf_59 ?_
    refine x_invV (As := [.int (r8 + 1)]) (st := []) (pc := 60) dX12_givesOf_60 lRX12_239 fX12_round vX12_round okl0 rfl (Nat.le_of_ble_eq_true rfl) (q_R (by omega) (by decide)) (q_C hnn hzz (by decide) (by decide)) (sn_X12_round G (d + 3) l0 (r8 + 1) h7 _ okl0 hwp) (k_i (fun r10 h9 hwp cxh9 => ?_))
    have hex := hex.tr cxh9.1
    have hnn : qn h9 = qn h + 0 := by have := cxh9.2.1; omega
    have hzz : qz h9 = qz h + 0 := by have := cxh9.2.2; omega
    have okl0 := okl0.ex cxh9.1
    have okb3 := okb3.ex cxh9.1
    refine x_istore (lv2 := [(6, .int r10), (5, .int r8), (4, .int r2), (0, .ref l0), (1, .int l1), (2, .int l2), (3, .int l3)]) (pc := 63) dX12_givesOf_63 (by decide) rfl ?_
    refine x_aload_n (pc := 65) dX12_givesOf_65 rfl ?_
    refine x_iload_n (pc := 66) dX12_givesOf_66 rfl ?_
    refine x_iload (pc := 67) dX12_givesOf_67 rfl ?_
    refine x_invV (As := [.int l1, .int r8]) (st := []) (pc := 69) dX12_givesOf_69 lRX12_253 fX12_energyOf vX12_energyOf okl0 rfl (Nat.le_of_ble_eq_true rfl) (q_R (by omega) (by decide)) (q_C hnn hzz (by decide) (by decide)) (sn_X12_energyOf G (d + 0) l0 l1 r8 h9 _ okl0 hwp) (k_i (fun r12 h11 hwp cxh11 => ?_))
    have hex := hex.tr cxh11.1
    have hnn : qn h11 = qn h + 0 := by have := cxh11.2.1; omega
    have hzz : qz h11 = qz h + 0 := by have := cxh11.2.2; omega
    have okl0 := okl0.ex cxh11.1
    have okb3 := okb3.ex cxh11.1
    refine x_aload_n (pc := 72) dX12_givesOf_72 rfl ?_
    refine x_iload_n (pc := 73) dX12_givesOf_73 rfl ?_
    refine x_iload (pc := 74) dX12_givesOf_74 rfl ?_
    refine x_invV (As := [.int l1, .int r10]) (st := [.int r12]) (pc := 76) dX12_givesOf_76 lRX12_253 fX12_energyOf vX12_energyOf okl0 rfl (Nat.le_of_ble_eq_true rfl) (q_R (by omega) (by decide)) (q_C hnn hzz (by decide) (by decide)) (sn_X12_energyOf G (d + 0) l0 l1 r10 h11 _ okl0 hwp) (k_i (fun r14 h13 hwp cxh13 => ?_))
    have hex := hex.tr cxh13.1
    have hnn : qn h13 = qn h + 0 := by have := cxh13.2.1; omega
    have hzz : qz h13 = qz h + 0 := by have := cxh13.2.2; omega
    have okl0 := okl0.ex cxh13.1
    have okb3 := okb3.ex cxh13.1
    refine x_isub (pc := 79) dX12_givesOf_79 ?_
    refine x_nmI (fun v15 ev15 => ?_)
    have hwp := hwp v15 ev15
    refine x_istore (lv2 := [(7, .int v15), (6, .int r10), (5, .int r8), (4, .int r2), (0, .ref l0), (1, .int l1), (2, .int l2), (3, .int l3)]) (pc := 80) dX12_givesOf_80 (by decide) rfl ?_
    refine x_aload_n (pc := 82) dX12_givesOf_82 rfl ?_
    refine x_iload_n (pc := 83) dX12_givesOf_83 rfl ?_
    refine x_iload (pc := 84) dX12_givesOf_84 rfl ?_
    refine x_invV (As := [.int l1, .int r8]) (st := []) (pc := 86) dX12_givesOf_86 lRX12_242 fX12_isWithin_ vX12_isWithin_ okl0 rfl (Nat.le_of_ble_eq_true rfl) (q_R (by omega) (by decide)) (q_C hnn hzz (by decide) (by decide)) (sn_X12_isWithin_ G (d + 2) l0 l1 r8 h13 _ okl0 hwp) (k_b (fun r17 h16 hwp zbr17 cxh16 => ?_))
    have hex := hex.tr cxh16.1
    have hnn : qn h16 = qn h + 0 := by have := cxh16.2.1; omega
    have hzz : qz h16 = qz h + 0 := by have := cxh16.2.2; omega
    have okl0 := okl0.ex cxh16.1
    have okb3 := okb3.ex cxh16.1
    refine x_istore (lv2 := [(8, .int r17), (7, .int v15), (6, .int r10), (5, .int r8), (4, .int r2), (0, .ref l0), (1, .int l1), (2, .int l2), (3, .int l3)]) (pc := 89) dX12_givesOf_89 (by decide) rfl ?_
    refine x_aload_n (pc := 91) dX12_givesOf_91 rfl ?_
    refine x_iload_n (pc := 92) dX12_givesOf_92 rfl ?_
    refine x_iload (pc := 93) dX12_givesOf_93 rfl ?_
    refine x_invV (As := [.int l1, .int r10]) (st := []) (pc := 95) dX12_givesOf_95 lRX12_242 fX12_isWithin_ vX12_isWithin_ okl0 rfl (Nat.le_of_ble_eq_true rfl) (q_R (by omega) (by decide)) (q_C hnn hzz (by decide) (by decide)) (sn_X12_isWithin_ G (d + 2) l0 l1 r10 h16 _ okl0 hwp) (k_b (fun r19 h18 hwp zbr19 cxh18 => ?_))
    have hex := hex.tr cxh18.1
    have hnn : qn h18 = qn h + 0 := by have := cxh18.2.1; omega
    have hzz : qz h18 = qz h + 0 := by have := cxh18.2.2; omega
    have okl0 := okl0.ex cxh18.1
    have okb3 := okb3.ex cxh18.1
    refine x_istore (lv2 := [(9, .int r19), (8, .int r17), (7, .int v15), (6, .int r10), (5, .int r8), (4, .int r2), (0, .ref l0), (1, .int l1), (2, .int l2), (3, .int l3)]) (pc := 98) dX12_givesOf_98 (by decide) rfl ?_
    refine x_aload_n (pc := 100) dX12_givesOf_100 rfl ?_
    obtain ⟨b20, e21, hwp⟩ := hwp
    refine x_getR (pc := 101) dX12_givesOf_101 qRX12_22 okl0 e21 (fun okb20 => ?_)
    refine x_iload (pc := 104) dX12_givesOf_104 rfl ?_
    refine x_iconst (v := 0) (pc := 106) dX12_givesOf_106 (by decide) ?_
    refine x_iadd (pc := 107) dX12_givesOf_107 ?_
    obtain ⟨i22, hwp⟩ := hwp
    refine x_iaload (pc := 108) dX12_givesOf_108 okb20 i22 ?_
    by_cases c23 : (qI h18 b20 (r2 + 0).toNatClampNeg) = 0
    · have hwp := hwp.1 c23
      refine x_tabIn (tgt := 136) (pc := 109) dX12_givesOf_109 (by rw [q_teq c23 (n := 0) (by decide)]; decide) (by rw [q_teq c23 (n := 0) (by decide)]; decide) (by rw [q_teq c23 (n := 0) (by decide)]; rfl) (by decide) ?_
      refine x_iload_n (pc := 136) dX12_givesOf_136 rfl ?_
      refine x_bipush (v := 8) (pc := 137) dX12_givesOf_137 (by decide) ?_
      refine x_iand (pc := 139) dX12_givesOf_139 ?_
      refine x_if_eq (tgt := 165) (pc := 140) dX12_givesOf_140 (by decide) (fun c24 => ?_) (fun c24 => ?_)
      · have hwp := hwp.1 c24
        refine x_iload (pc := 165) dX12_givesOf_165 rfl ?_
        exact x_iret (pc := 167) dX12_givesOf_167 rfl hex hnn hzz ⟨_, rfl, hwp⟩
      · have hwp := hwp.2 c24
        refine x_aload_n (pc := 143) dX12_givesOf_143 rfl ?_
        refine x_iload (pc := 144) dX12_givesOf_144 rfl ?_
        refine x_invV (As := [.int r10]) (st := []) (pc := 146) dX12_givesOf_146 lRX12_247 fX12_high vX12_high okl0 rfl (Nat.le_of_ble_eq_true rfl) (q_R (by omega) (by decide)) (q_C hnn hzz (by decide) (by decide)) (sn_X12_high G (d + 3) l0 r10 h18 _ okl0 hwp) (k_i (fun r26 h25 hwp cxh25 => ?_))
        have hex := hex.tr cxh25.1
        have hnn : qn h25 = qn h + 0 := by have := cxh25.2.1; omega
        have hzz : qz h25 = qz h + 0 := by have := cxh25.2.2; omega
        have okl0 := okl0.ex cxh25.1
        have okb3 := okb3.ex cxh25.1
        have okb20 := okb20.ex cxh25.1
        refine x_aload_n (pc := 149) dX12_givesOf_149 rfl ?_
        refine x_iload (pc := 150) dX12_givesOf_150 rfl ?_
        refine x_invV (As := [.int r8]) (st := [.int r26]) (pc := 152) dX12_givesOf_152 lRX12_247 fX12_high vX12_high okl0 rfl (Nat.le_of_ble_eq_true rfl) (q_R (by omega) (by decide)) (q_C hnn hzz (by decide) (by decide)) (sn_X12_high G (d + 3) l0 r8 h25 _ okl0 hwp) (k_i (fun r28 h27 hwp cxh27 => ?_))
        have hex := hex.tr cxh27.1
        have hnn : qn h27 = qn h + 0 := by have := cxh27.2.1; omega
        have hzz : qz h27 = qz h + 0 := by have := cxh27.2.2; omega
        have okl0 := okl0.ex cxh27.1
        have okb3 := okb3.ex cxh27.1
        have okb20 := okb20.ex cxh27.1
        refine x_icmp_le (tgt := 165) (pc := 155) dX12_givesOf_155 (by decide) (fun c29 => ?_) (fun c29 => ?_)
        · have hwp := hwp.1 c29
          refine x_iload (pc := 165) dX12_givesOf_165 rfl ?_
          exact x_iret (pc := 167) dX12_givesOf_167 rfl hex hnn hzz ⟨_, rfl, hwp⟩
        · have hwp := hwp.2 c29
          refine x_iload (pc := 158) dX12_givesOf_158 rfl ?_
          refine x_iconst (v := 2) (pc := 160) dX12_givesOf_160 (by decide) ?_
          refine x_idiv (pc := 161) dX12_givesOf_161 (by decide) ?_
          refine x_goto (tgt := 167) (pc := 162) dX12_givesOf_162 (by decide) ?_
          exact x_iret (pc := 167) dX12_givesOf_167 rfl hex hnn hzz ⟨_, rfl, hwp⟩
    by_cases c30 : (qI h18 b20 (r2 + 0).toNatClampNeg) = 1
    · have hwp := hwp.2.1 c30
      refine x_tabIn (tgt := 168) (pc := 109) dX12_givesOf_109 (by rw [q_teq c30 (n := 1) (by decide)]; decide) (by rw [q_teq c30 (n := 1) (by decide)]; decide) (by rw [q_teq c30 (n := 1) (by decide)]; rfl) (by decide) ?_
      refine x_iload_n (pc := 168) dX12_givesOf_168 rfl ?_
      refine x_iconst (v := 1) (pc := 169) dX12_givesOf_169 (by decide) ?_
      refine x_iand (pc := 170) dX12_givesOf_170 ?_
      refine x_if_eq (tgt := 188) (pc := 171) dX12_givesOf_171 (by decide) (fun c31 => ?_) (fun c31 => ?_)
      · have hwp := hwp.1 c31
        refine x_iload (pc := 188) dX12_givesOf_188 rfl ?_
        exact x_iret (pc := 190) dX12_givesOf_190 rfl hex hnn hzz ⟨_, rfl, hwp⟩
      · have hwp := hwp.2 c31
        refine x_iload (pc := 174) dX12_givesOf_174 rfl ?_
        refine x_if_ne (tgt := 188) (pc := 176) dX12_givesOf_176 (by decide) (fun c32 => ?_) (fun c32 => ?_)
        · have hwp := hwp.1 c32
          refine x_iload (pc := 188) dX12_givesOf_188 rfl ?_
          exact x_iret (pc := 190) dX12_givesOf_190 rfl hex hnn hzz ⟨_, rfl, hwp⟩
        · have hwp := hwp.2 c32
          refine x_iload (pc := 179) dX12_givesOf_179 rfl ?_
          refine x_if_eq (tgt := 188) (pc := 181) dX12_givesOf_181 (by decide) (fun c33 => ?_) (fun c33 => ?_)
          · have hwp := hwp.1 c33
            refine x_iload (pc := 188) dX12_givesOf_188 rfl ?_
            exact x_iret (pc := 190) dX12_givesOf_190 rfl hex hnn hzz ⟨_, rfl, hwp⟩
          · have hwp := hwp.2 c33
            refine x_iconst (v := 0) (pc := 184) dX12_givesOf_184 (by decide) ?_
            refine x_goto (tgt := 190) (pc := 185) dX12_givesOf_185 (by decide) ?_
            exact x_iret (pc := 190) dX12_givesOf_190 rfl hex hnn hzz ⟨_, rfl, hwp⟩
    by_cases c34 : (qI h18 b20 (r2 + 0).toNatClampNeg) = 2
    · have hwp := hwp.2.2.1 c34
      refine x_tabIn (tgt := 191) (pc := 109) dX12_givesOf_109 (by rw [q_teq c34 (n := 2) (by decide)]; decide) (by rw [q_teq c34 (n := 2) (by decide)]; decide) (by rw [q_teq c34 (n := 2) (by decide)]; rfl) (by decide) ?_
      refine x_iload_n (pc := 191) dX12_givesOf_191 rfl ?_
      refine x_iconst (v := 2) (pc := 192) dX12_givesOf_192 (by decide) ?_
      refine x_iand (pc := 193) dX12_givesOf_193 ?_
      refine x_if_eq (tgt := 208) (pc := 194) dX12_givesOf_194 (by decide) (fun c35 => ?_) (fun c35 => ?_)
      · have hwp := hwp.1 c35
        refine x_iload (pc := 208) dX12_givesOf_208 rfl ?_
        exact x_iret (pc := 210) dX12_givesOf_210 rfl hex hnn hzz ⟨_, rfl, hwp⟩
      · have hwp := hwp.2 c35
        refine x_iload (pc := 197) dX12_givesOf_197 rfl ?_
        refine x_iload (pc := 199) dX12_givesOf_199 rfl ?_
        refine x_icmp_eq (tgt := 208) (pc := 201) dX12_givesOf_201 (by decide) (fun c36 => ?_) (fun c36 => ?_)
        · have hwp := hwp.1 c36
          refine x_iload (pc := 208) dX12_givesOf_208 rfl ?_
          exact x_iret (pc := 210) dX12_givesOf_210 rfl hex hnn hzz ⟨_, rfl, hwp⟩
        · have hwp := hwp.2 c36
          refine x_iconst (v := 0) (pc := 204) dX12_givesOf_204 (by decide) ?_
          refine x_goto (tgt := 210) (pc := 205) dX12_givesOf_205 (by decide) ?_
          exact x_iret (pc := 210) dX12_givesOf_210 rfl hex hnn hzz ⟨_, rfl, hwp⟩
    have hwp := hwp.2.2.2 c23 c30 c34
    refine x_tabOut (tgt := 211) (pc := 109) dX12_givesOf_109 (by have := q_tne c23 (n := 0) (by decide); have := q_tne c30 (n := 1) (by decide); have := q_tne c34 (n := 2) (by decide); omega) (by decide) ?_
    refine x_iload_n (pc := 211) dX12_givesOf_211 rfl ?_
    refine x_iconst (v := 4) (pc := 212) dX12_givesOf_212 (by decide) ?_
    refine x_iand (pc := 213) dX12_givesOf_213 ?_
    refine x_if_eq (tgt := 231) (pc := 214) dX12_givesOf_214 (by decide) (fun c37 => ?_) (fun c37 => ?_)
    · have hwp := hwp.1 c37
      refine x_iload (pc := 231) dX12_givesOf_231 rfl ?_
      exact x_iret (pc := 233) dX12_givesOf_233 rfl hex hnn hzz ⟨_, rfl, hwp⟩
    · have hwp := hwp.2 c37
      refine x_iload (pc := 217) dX12_givesOf_217 rfl ?_
      refine x_if_ne (tgt := 231) (pc := 219) dX12_givesOf_219 (by decide) (fun c38 => ?_) (fun c38 => ?_)
      · have hwp := hwp.1 c38
        refine x_iload (pc := 231) dX12_givesOf_231 rfl ?_
        exact x_iret (pc := 233) dX12_givesOf_233 rfl hex hnn hzz ⟨_, rfl, hwp⟩
      · have hwp := hwp.2 c38
        refine x_iload (pc := 222) dX12_givesOf_222 rfl ?_
        refine x_if_eq (tgt := 231) (pc := 224) dX12_givesOf_224 (by decide) (fun c39 => ?_) (fun c39 => ?_)
        · have hwp := hwp.1 c39
          refine x_iload (pc := 231) dX12_givesOf_231 rfl ?_
          exact x_iret (pc := 233) dX12_givesOf_233 rfl hex hnn hzz ⟨_, rfl, hwp⟩
        · have hwp := hwp.2 c39
          refine x_iconst (v := 0) (pc := 227) dX12_givesOf_227 (by decide) ?_
          refine x_goto (tgt := 233) (pc := 228) dX12_givesOf_228 (by decide) ?_
          exact x_iret (pc := 233) dX12_givesOf_233 rfl hex hnn hzz ⟨_, rfl, hwp⟩
  · have hwp := hwp.2 c6
    refine x_iload_n (pc := 20) dX12_givesOf_20 rfl ?_
    refine x_aload_n (pc := 21) dX12_givesOf_21 rfl ?_
    obtain ⟨b40, e41, hwp⟩ := hwp
    refine x_getR (pc := 22) dX12_givesOf_22 qRX12_22 okl0 e41 (fun okb40 => ?_)
    refine x_iload (pc := 25) dX12_givesOf_25 rfl ?_
    refine x_iconst (v := 1) (pc := 27) dX12_givesOf_27 (by decide) ?_
    refine x_iadd (pc := 28) dX12_givesOf_28 ?_
    obtain ⟨i42, hwp⟩ := hwp
    refine x_iaload (pc := 29) dX12_givesOf_29 okb40 i42 ?_
    refine x_icmp_ne (tgt := 45) (pc := 30) dX12_givesOf_30 (by decide) (fun c43 => ?_) (fun c43 => ?_)
    · have hwp := hwp.1 c43
      refine x_iconst (v := 0) (pc := 45) dX12_givesOf_45 (by decide) ?_
      exact x_iret (pc := 46) dX12_givesOf_46 rfl hex hnn hzz ⟨_, rfl, hwp⟩
    · have hwp := hwp.2 c43
      refine x_aload_n (pc := 33) dX12_givesOf_33 rfl ?_
      obtain ⟨b44, e45, hwp⟩ := hwp
      refine x_getR (pc := 34) dX12_givesOf_34 qRX12_22 okl0 e45 (fun okb44 => ?_)
      refine x_iload (pc := 37) dX12_givesOf_37 rfl ?_
      refine x_iconst (v := 2) (pc := 39) dX12_givesOf_39 (by decide) ?_
      refine x_iadd (pc := 40) dX12_givesOf_40 ?_
      obtain ⟨i46, hwp⟩ := hwp
      refine x_iaload (pc := 41) dX12_givesOf_41 okb44 i46 ?_
      refine x_goto (tgt := 46) (pc := 42) dX12_givesOf_42 (by decide) ?_
      exact x_iret (pc := 46) dX12_givesOf_46 rfl hex hnn hzz ⟨_, rfl, hwp⟩

theorem dX12_inventor_0 : decode cX12_inventor 0 = .ok (.aload_n 0, 1) := by decide +kernel
theorem dX12_inventor_1 : decode cX12_inventor 1 = .ok (.iconst 0, 1) := by decide +kernel
theorem dX12_inventor_2 : decode cX12_inventor 2 = .ok (.putfield 75, 3) := by decide +kernel
theorem dX12_inventor_5 : decode cX12_inventor 5 = .ok (.aload_n 0, 1) := by decide +kernel
theorem dX12_inventor_6 : decode cX12_inventor 6 = .ok (.aload_n 0, 1) := by decide +kernel
theorem dX12_inventor_7 : decode cX12_inventor 7 = .ok (.invokevirtual 220, 3) := by decide +kernel
theorem dX12_inventor_10 : decode cX12_inventor 10 = .ok (.putfield 86, 3) := by decide +kernel
theorem dX12_inventor_13 : decode cX12_inventor 13 = .ok (.aload_n 0, 1) := by decide +kernel
theorem dX12_inventor_14 : decode cX12_inventor 14 = .ok (.sipush 600, 3) := by decide +kernel
theorem dX12_inventor_17 : decode cX12_inventor 17 = .ok (.putfield 95, 3) := by decide +kernel
theorem dX12_inventor_20 : decode cX12_inventor 20 = .ok (.aload_n 0, 1) := by decide +kernel
theorem dX12_inventor_21 : decode cX12_inventor 21 = .ok (.iconst 0, 1) := by decide +kernel
theorem dX12_inventor_22 : decode cX12_inventor 22 = .ok (.putfield 130, 3) := by decide +kernel
theorem dX12_inventor_25 : decode cX12_inventor 25 = .ok (.aload_n 0, 1) := by decide +kernel
theorem dX12_inventor_26 : decode cX12_inventor 26 = .ok (.bipush 70, 2) := by decide +kernel
theorem dX12_inventor_28 : decode cX12_inventor 28 = .ok (.invokevirtual 412, 3) := by decide +kernel
theorem dX12_inventor_31 : decode cX12_inventor 31 = .ok (.aload_n 0, 1) := by decide +kernel
theorem dX12_inventor_32 : decode cX12_inventor 32 = .ok (.iconst 0, 1) := by decide +kernel
theorem dX12_inventor_33 : decode cX12_inventor 33 = .ok (.putfield 89, 3) := by decide +kernel
theorem dX12_inventor_36 : decode cX12_inventor 36 = .ok (.iconst 0, 1) := by decide +kernel
theorem dX12_inventor_37 : decode cX12_inventor 37 = .ok (.istore_n 1, 1) := by decide +kernel
theorem dX12_inventor_38 : decode cX12_inventor 38 = .ok (.aload_n 0, 1) := by decide +kernel
theorem dX12_inventor_39 : decode cX12_inventor 39 = .ok (.invokevirtual 146, 3) := by decide +kernel
theorem dX12_inventor_42 : decode cX12_inventor 42 = .ok (.aload_n 0, 1) := by decide +kernel
theorem dX12_inventor_43 : decode cX12_inventor 43 = .ok (.getfield 98, 3) := by decide +kernel
theorem dX12_inventor_46 : decode cX12_inventor 46 = .ok (.ifCond .eq 24, 3) := by decide +kernel
theorem dX12_inventor_49 : decode cX12_inventor 49 = .ok (.aload_n 0, 1) := by decide +kernel
theorem dX12_inventor_50 : decode cX12_inventor 50 = .ok (.iload_n 1, 1) := by decide +kernel
theorem dX12_inventor_51 : decode cX12_inventor 51 = .ok (.invokevirtual 415, 3) := by decide +kernel
theorem dX12_inventor_54 : decode cX12_inventor 54 = .ok (.ifCond .ne 10, 3) := by decide +kernel
theorem dX12_inventor_57 : decode cX12_inventor 57 = .ok (.iconst (-1), 1) := by decide +kernel
theorem dX12_inventor_58 : decode cX12_inventor 58 = .ok (.aload_n 0, 1) := by decide +kernel
theorem dX12_inventor_59 : decode cX12_inventor 59 = .ok (.getfield 133, 3) := by decide +kernel
theorem dX12_inventor_62 : decode cX12_inventor 62 = .ok (.isub, 1) := by decide +kernel
theorem dX12_inventor_63 : decode cX12_inventor 63 = .ok (.ireturn, 1) := by decide +kernel
theorem dX12_inventor_64 : decode cX12_inventor 64 = .ok (.iinc 1 1, 3) := by decide +kernel
theorem dX12_inventor_67 : decode cX12_inventor 67 = .ok (.goto (-25), 3) := by decide +kernel
theorem dX12_inventor_70 : decode cX12_inventor 70 = .ok (.iconst 0, 1) := by decide +kernel
theorem dX12_inventor_71 : decode cX12_inventor 71 = .ok (.istore_n 2, 1) := by decide +kernel
theorem dX12_inventor_72 : decode cX12_inventor 72 = .ok (.iload_n 2, 1) := by decide +kernel
theorem dX12_inventor_73 : decode cX12_inventor 73 = .ok (.bipush 70, 2) := by decide +kernel
theorem dX12_inventor_75 : decode cX12_inventor 75 = .ok (.if_icmp .ge 24, 3) := by decide +kernel
theorem dX12_inventor_78 : decode cX12_inventor 78 = .ok (.aload_n 0, 1) := by decide +kernel
theorem dX12_inventor_79 : decode cX12_inventor 79 = .ok (.getfield 66, 3) := by decide +kernel
theorem dX12_inventor_82 : decode cX12_inventor 82 = .ok (.iload_n 2, 1) := by decide +kernel
theorem dX12_inventor_83 : decode cX12_inventor 83 = .ok (.aload_n 0, 1) := by decide +kernel
theorem dX12_inventor_84 : decode cX12_inventor 84 = .ok (.getfield 66, 3) := by decide +kernel
theorem dX12_inventor_87 : decode cX12_inventor 87 = .ok (.bipush 70, 2) := by decide +kernel
theorem dX12_inventor_89 : decode cX12_inventor 89 = .ok (.iload_n 2, 1) := by decide +kernel
theorem dX12_inventor_90 : decode cX12_inventor 90 = .ok (.iadd, 1) := by decide +kernel
theorem dX12_inventor_91 : decode cX12_inventor 91 = .ok (.iaload, 1) := by decide +kernel
theorem dX12_inventor_92 : decode cX12_inventor 92 = .ok (.iastore, 1) := by decide +kernel
theorem dX12_inventor_93 : decode cX12_inventor 93 = .ok (.iinc 2 1, 3) := by decide +kernel
theorem dX12_inventor_96 : decode cX12_inventor 96 = .ok (.goto (-24), 3) := by decide +kernel
theorem dX12_inventor_99 : decode cX12_inventor 99 = .ok (.aload_n 0, 1) := by decide +kernel
theorem dX12_inventor_100 : decode cX12_inventor 100 = .ok (.iconst 1, 1) := by decide +kernel
theorem dX12_inventor_101 : decode cX12_inventor 101 = .ok (.putfield 418, 3) := by decide +kernel
theorem dX12_inventor_104 : decode cX12_inventor 104 = .ok (.iload_n 1, 1) := by decide +kernel
theorem dX12_inventor_105 : decode cX12_inventor 105 = .ok (.ireturn, 1) := by decide +kernel
def E_X12_inventor_42 (G : GT) (d : Nat) (h0 hb : PH) (l0 : Nat) (Q : Int32 → PH → Prop) (s : Int32 × PH) : Prop := qEx hb s.2 ∧ qn s.2 = qn hb ∧ qz s.2 = qz hb → Ex G (qrm (4 + d) 0 0) mX12_inventor (qn h0) (qz h0) (ZN G h0 0 0 (qqi Q)) 42 [(0, .ref l0), (1, .int s.1)] [] s.2
def E_X12_inventor_72 (G : GT) (d : Nat) (h0 hb : PH) (l0 : Nat) (l1 : Int32) (Q : Int32 → PH → Prop) (s : Int32 × PH) : Prop := qEx hb s.2 ∧ qn s.2 = qn hb ∧ qz s.2 = qz hb → Ex G (qrm (4 + d) 0 0) mX12_inventor (qn h0) (qz h0) (ZN G h0 0 0 (qqi Q)) 72 [(0, .ref l0), (1, .int l1), (2, .int s.1)] [] s.2
def wb_X12_inventor_72 (l0 : Nat) (l1 : Int32)  (Q : Int32 → PH → Prop) (bk72 : Int32 × PH → Prop) (l2 : Int32) (h : PH) : Prop := ((70 ≤ l2 → (∀ h18, h18 = qsI h l0 58 1 → Q l1 h18)) ∧ (¬ (70 ≤ l2) → (∃ b19, qR h l0 57 = some b19 ∧ (∃ b21, qR h l0 57 = some b21 ∧ (vp_in (70 + l2) (qL h b21) ∧ (vp_in l2 (qL h b19) ∧ ∀ h24, h24 = qsI h b19 l2.toNatClampNeg (qI h b21 (70 + l2).toNatClampNeg) → ∀ v26 : Int32, v26 = l2 + 1 → bk72 (v26, h24)))))))
def wp_X12_inventor_72 (l0 : Nat) (l1 : Int32)  (Q : Int32 → PH → Prop) (bk72 : Int32 × PH → Prop) (s : Int32 × PH) : Prop := wb_X12_inventor_72 l0 l1 Q bk72 s.1 s.2
set_option maxHeartbeats 4000000 in
set_option maxRecDepth 100000 in
theorem bd_X12_inventor_72 (G : GT) (d : Nat) (h0 hb : PH) (l0 : Nat) (l1 : Int32) (Q : Int32 → PH → Prop)  (hex : qEx h0 hb) (hnn : qn hb = qn h0 + 0) (hzz : qz hb = qz h0 + 0) (okl0 : qOK hb 11 l0) (bk72 : Int32 × PH → Prop) (hbk72 : ∀ s2, bk72 s2 → E_X12_inventor_72 G d h0 hb l0 l1 Q s2) (l2 : Int32) (h : PH) (hwp : wb_X12_inventor_72 l0 l1 Q bk72 l2 h) (hx72 : qEx hb h) (hn72 : qn h = qn hb) (hz72 : qz h = qz hb) : Ex G (qrm (4 + d) 0 0) mX12_inventor (qn h0) (qz h0) (ZN G h0 0 0 (qqi Q)) 72 [(0, .ref l0), (1, .int l1), (2, .int l2)] [] h := by
  unfold wb_X12_inventor_72 at hwp
  have hex := hex.tr hx72
  have hnn := hn72.trans hnn
  have hzz := hz72.trans hzz
  have okl0 := okl0.ex hx72
  refine x_iload_n (pc := 72) dX12_inventor_72 rfl ?_
  refine x_bipush (v := 70) (pc := 73) dX12_inventor_73 (by decide) ?_
  refine x_icmp_ge (tgt := 99) (pc := 75) dX12_inventor_75 (by decide) (fun c17 => ?_) (fun c17 => ?_)
  · have hwp := hwp.1 c17
    refine x_aload_n (pc := 99) dX12_inventor_99 rfl ?_
    refine x_iconst (v := 1) (pc := 100) dX12_inventor_100 (by decide) ?_
    refine y_putZ (pc := 101) dX12_inventor_101 qRX12_418 okl0 (by decide) (fun h18 eh18 nxh18 => ?_)
    have hwp := hwp h18 eh18
    have hex := hex.tr nxh18.1
    have hnn := nxh18.2.1.trans hnn
    have hzz := nxh18.2.2.trans hzz
    have hx72 := hx72.tr nxh18.1
    have hn72 := nxh18.2.1.trans hn72
    have hz72 := nxh18.2.2.trans hz72
    have okl0 := okl0.ex nxh18.1
    refine x_iload_n (pc := 104) dX12_inventor_104 rfl ?_
    exact x_iret (pc := 105) dX12_inventor_105 rfl hex hnn hzz ⟨_, rfl, hwp⟩
  · have hwp := hwp.2 c17
    refine x_aload_n (pc := 78) dX12_inventor_78 rfl ?_
    obtain ⟨b19, e20, hwp⟩ := hwp
    refine x_getR (pc := 79) dX12_inventor_79 qRX12_66 okl0 e20 (fun okb19 => ?_)
    refine x_iload_n (pc := 82) dX12_inventor_82 rfl ?_
    refine x_aload_n (pc := 83) dX12_inventor_83 rfl ?_
    obtain ⟨b21, e22, hwp⟩ := hwp
    refine x_getR (pc := 84) dX12_inventor_84 qRX12_66 okl0 e22 (fun okb21 => ?_)
    refine x_bipush (v := 70) (pc := 87) dX12_inventor_87 (by decide) ?_
    refine x_iload_n (pc := 89) dX12_inventor_89 rfl ?_
    refine x_iadd (pc := 90) dX12_inventor_90 ?_
    obtain ⟨i23, hwp⟩ := hwp
    refine x_iaload (pc := 91) dX12_inventor_91 okb21 i23 ?_
    obtain ⟨i25, hwp⟩ := hwp
    refine y_iastore (pc := 92) dX12_inventor_92 okb19 i25 (fun h24 eh24 nxh24 => ?_)
    have hwp := hwp h24 eh24
    have hex := hex.tr nxh24.1
    have hnn := nxh24.2.1.trans hnn
    have hzz := nxh24.2.2.trans hzz
    have hx72 := hx72.tr nxh24.1
    have hn72 := nxh24.2.1.trans hn72
    have hz72 := nxh24.2.2.trans hz72
    have okl0 := okl0.ex nxh24.1
    have okb19 := okb19.ex nxh24.1
    have okb21 := okb21.ex nxh24.1
    refine y_iinc (c := 1) (pc := 93) dX12_inventor_93 rfl (by decide) (by decide) (fun v26 ev26 => ?_)
    have hwp := hwp v26 ev26
    refine x_lvE (lv2 := [(2, .int v26), (0, .ref l0), (1, .int l1)]) rfl ?_
    refine x_goto (tgt := 72) (pc := 96) dX12_inventor_96 (by decide) ?_
    refine x_sub [1, 2, 0] rfl ?_
    exact hbk72 _ hwp ⟨hx72, hn72, hz72⟩
theorem lp_X12_inventor_72 (G : GT) (d : Nat) (h0 hb : PH) (l0 : Nat) (l1 : Int32) (Q : Int32 → PH → Prop)  (hex : qEx h0 hb) (hnn : qn hb = qn h0 + 0) (hzz : qz hb = qz h0 + 0) (okl0 : qOK hb 11 l0) {s : Int32 × PH} (hwp : qLoop (wp_X12_inventor_72 l0 l1 Q) s) : E_X12_inventor_72 G d h0 hb l0 l1 Q s :=
  qLoop.use (E := E_X12_inventor_72 G d h0 hb l0 l1 Q) (fun back s hbk hw hx => bd_X12_inventor_72 G d h0 hb l0 l1 Q hex hnn hzz okl0 back hbk s.1 s.2 hw hx.1 hx.2.1 hx.2.2) hwp
def wb_X12_inventor_42 (l0 : Nat)  (Q : Int32 → PH → Prop) (bk42 : Int32 × PH → Prop) (l1 : Int32) (h : PH) : Prop := (((qI h l0 7) = 0 → (qLoop (wp_X12_inventor_72 l0 l1 Q) (0, h))) ∧ (¬ ((qI h l0 7) = 0) → (wp_X12_readHearing l0 l1 h (fun r14 h13 => ((¬ r14 = 0 → ∀ v16 : Int32, v16 = l1 + 1 → bk42 (v16, h13)) ∧ (r14 = 0 → Q ((-1) - (qI h13 l0 11)) h13))))))
def wp_X12_inventor_42 (l0 : Nat)  (Q : Int32 → PH → Prop) (bk42 : Int32 × PH → Prop) (s : Int32 × PH) : Prop := wb_X12_inventor_42 l0 Q bk42 s.1 s.2
set_option maxHeartbeats 4000000 in
set_option maxRecDepth 100000 in
theorem bd_X12_inventor_42 (G : GT) (d : Nat) (h0 hb : PH) (l0 : Nat) (Q : Int32 → PH → Prop)  (hex : qEx h0 hb) (hnn : qn hb = qn h0 + 0) (hzz : qz hb = qz h0 + 0) (okl0 : qOK hb 11 l0) (bk42 : Int32 × PH → Prop) (hbk42 : ∀ s2, bk42 s2 → E_X12_inventor_42 G d h0 hb l0 Q s2) (l1 : Int32) (h : PH) (hwp : wb_X12_inventor_42 l0 Q bk42 l1 h) (hx42 : qEx hb h) (hn42 : qn h = qn hb) (hz42 : qz h = qz hb) : Ex G (qrm (4 + d) 0 0) mX12_inventor (qn h0) (qz h0) (ZN G h0 0 0 (qqi Q)) 42 [(0, .ref l0), (1, .int l1)] [] h := by
  unfold wb_X12_inventor_42 at hwp
  have hex := hex.tr hx42
  have hnn := hn42.trans hnn
  have hzz := hz42.trans hzz
  have okl0 := okl0.ex hx42
  refine x_aload_n (pc := 42) dX12_inventor_42 rfl ?_
  refine x_getI (pc := 43) dX12_inventor_43 qRX12_98 okl0 (by decide) ?_
  refine x_if_eq (tgt := 70) (pc := 46) dX12_inventor_46 (by decide) (fun c12 => ?_) (fun c12 => ?_)
  · have hwp := hwp.1 c12
    refine x_iconst (v := 0) (pc := 70) dX12_inventor_70 (by decide) ?_
    refine x_istore_n (lv2 := [(2, .int 0), (0, .ref l0), (1, .int l1)]) (pc := 71) dX12_inventor_71 (by decide) rfl ?_
    refine x_sub [1, 2, 0] rfl ?_
    exact lp_X12_inventor_72 G d h0 h l0 l1 Q hex hnn hzz okl0 hwp ⟨qEx.rf _, rfl, rfl⟩
  · have hwp := hwp.2 c12
    refine x_aload_n (pc := 49) dX12_inventor_49 rfl ?_
    refine x_iload_n (pc := 50) dX12_inventor_50 rfl ?_
    refine x_invV (As := [.int l1]) (st := []) (pc := 51) dX12_inventor_51 lRX12_415 fX12_readHearing vX12_readHearing okl0 rfl (Nat.le_of_ble_eq_true rfl) (q_R (by omega) (by decide)) (q_C hnn hzz (by decide) (by decide)) (sn_X12_readHearing G (d + 0) l0 l1 h _ okl0 hwp) (k_b (fun r14 h13 hwp zbr14 cxh13 => ?_))
    have hex := hex.tr cxh13.1
    have hnn : qn h13 = qn h0 + 0 := by have := cxh13.2.1; omega
    have hzz : qz h13 = qz h0 + 0 := by have := cxh13.2.2; omega
    have hx42 := hx42.tr cxh13.1
    have hn42 : qn h13 = qn hb := by have := cxh13.2.1; omega
    have hz42 : qz h13 = qz hb := by have := cxh13.2.2; omega
    have okl0 := okl0.ex cxh13.1
    refine x_if_ne (tgt := 64) (pc := 54) dX12_inventor_54 (by decide) (fun c15 => ?_) (fun c15 => ?_)
    · have hwp := hwp.1 c15
      refine y_iinc (c := 1) (pc := 64) dX12_inventor_64 rfl (by decide) (by decide) (fun v16 ev16 => ?_)
      have hwp := hwp v16 ev16
      refine x_lvE (lv2 := [(1, .int v16), (0, .ref l0)]) rfl ?_
      refine x_goto (tgt := 42) (pc := 67) dX12_inventor_67 (by decide) ?_
      refine x_sub [1, 0] rfl ?_
      exact hbk42 _ hwp ⟨hx42, hn42, hz42⟩
    · have hwp := hwp.2 c15
      refine x_iconst (v := (-1)) (pc := 57) dX12_inventor_57 (by decide) ?_
      refine x_aload_n (pc := 58) dX12_inventor_58 rfl ?_
      refine x_getI (pc := 59) dX12_inventor_59 qRX12_133 okl0 (by decide) ?_
      refine x_isub (pc := 62) dX12_inventor_62 ?_
      exact x_iret (pc := 63) dX12_inventor_63 rfl hex hnn hzz ⟨_, rfl, hwp⟩
theorem lp_X12_inventor_42 (G : GT) (d : Nat) (h0 hb : PH) (l0 : Nat) (Q : Int32 → PH → Prop)  (hex : qEx h0 hb) (hnn : qn hb = qn h0 + 0) (hzz : qz hb = qz h0 + 0) (okl0 : qOK hb 11 l0) {s : Int32 × PH} (hwp : qLoop (wp_X12_inventor_42 l0 Q) s) : E_X12_inventor_42 G d h0 hb l0 Q s :=
  qLoop.use (E := E_X12_inventor_42 G d h0 hb l0 Q) (fun back s hbk hw hx => bd_X12_inventor_42 G d h0 hb l0 Q hex hnn hzz okl0 back hbk s.1 s.2 hw hx.1 hx.2.1 hx.2.2) hwp
def wp_X12_inventor (l0 : Nat) (h : PH) (Q : Int32 → PH → Prop) : Prop := (∀ h1, h1 = qsI h l0 0 0 → (wp_X12_take l0 h1 (fun r3 h2 => (∀ h4, h4 = qsI h2 l0 3 r3 → (∀ h5, h5 = qsI h4 l0 4 600 → (∀ h6, h6 = qsI h5 l0 10 0 → (wp_X12_invent l0 70 h6 (fun h7 => (∀ h9, h9 = qsI h7 l0 5 0 → (wp_X12_go l0 h9 (fun h10 => (qLoop (wp_X12_inventor_42 l0 Q) (0, h10)))))))))))))
set_option maxHeartbeats 4000000 in
set_option maxRecDepth 100000 in
theorem sn_X12_inventor (G : GT) (d : Nat) (l0 : Nat) (h : PH) (Q : Int32 → PH → Prop) (okl0 : qOK h 11 l0) (hwp : wp_X12_inventor l0 h Q) : Mt G (4 + d) 0 0 mX12_inventor [.ref l0] h (qqi Q) := by
  unfold wp_X12_inventor at hwp
  refine Mt.of (by decide) rfl (Nat.le_of_ble_eq_true rfl) ?_
  have hex := qEx.rf h
  have hnn : qn h = qn h + 0 := rfl
  have hzz : qz h = qz h + 0 := rfl
  refine x_lvE (lv2 := [(0, .ref l0)]) rfl ?_
  refine x_aload_n (pc := 0) dX12_inventor_0 rfl ?_
  refine x_iconst (v := 0) (pc := 1) dX12_inventor_1 (by decide) ?_
  refine y_putI (pc := 2) dX12_inventor_2 qRX12_75 okl0 (fun h1 eh1 nxh1 => ?_)
  have hwp := hwp h1 eh1
  have hex := hex.tr nxh1.1
  have hnn := nxh1.2.1.trans hnn
  have hzz := nxh1.2.2.trans hzz
  have okl0 := okl0.ex nxh1.1
  refine x_aload_n (pc := 5) dX12_inventor_5 rfl ?_
  refine x_aload_n (pc := 6) dX12_inventor_6 rfl ?_
  refine x_invV (As := []) (st := [.ref l0]) (pc := 7) dX12_inventor_7 lRX12_220 fX12_take vX12_take okl0 rfl (Nat.le_of_ble_eq_true rfl) (q_R (by omega) (by decide)) (q_C hnn hzz (by decide) (by decide)) (sn_X12_take G (d + 3) l0 h1 _ okl0 hwp) (k_i (fun r3 h2 hwp cxh2 => ?_))
  have hex := hex.tr cxh2.1
  have hnn : qn h2 = qn h + 0 := by have := cxh2.2.1; omega
  have hzz : qz h2 = qz h + 0 := by have := cxh2.2.2; omega
  have okl0 := okl0.ex cxh2.1
  refine y_putI (pc := 10) dX12_inventor_10 qRX12_86 okl0 (fun h4 eh4 nxh4 => ?_)
  have hwp := hwp h4 eh4
  have hex := hex.tr nxh4.1
  have hnn := nxh4.2.1.trans hnn
  have hzz := nxh4.2.2.trans hzz
  have okl0 := okl0.ex nxh4.1
  refine x_aload_n (pc := 13) dX12_inventor_13 rfl ?_
  refine x_sipush (v := 600) (pc := 14) dX12_inventor_14 (by decide) ?_
  refine y_putI (pc := 17) dX12_inventor_17 qRX12_95 okl0 (fun h5 eh5 nxh5 => ?_)
  have hwp := hwp h5 eh5
  have hex := hex.tr nxh5.1
  have hnn := nxh5.2.1.trans hnn
  have hzz := nxh5.2.2.trans hzz
  have okl0 := okl0.ex nxh5.1
  refine x_aload_n (pc := 20) dX12_inventor_20 rfl ?_
  refine x_iconst (v := 0) (pc := 21) dX12_inventor_21 (by decide) ?_
  refine y_putI (pc := 22) dX12_inventor_22 qRX12_130 okl0 (fun h6 eh6 nxh6 => ?_)
  have hwp := hwp h6 eh6
  have hex := hex.tr nxh6.1
  have hnn := nxh6.2.1.trans hnn
  have hzz := nxh6.2.2.trans hzz
  have okl0 := okl0.ex nxh6.1
  refine x_aload_n (pc := 25) dX12_inventor_25 rfl ?_
  refine x_bipush (v := 70) (pc := 26) dX12_inventor_26 (by decide) ?_
  refine x_invV (As := [.int 70]) (st := []) (pc := 28) dX12_inventor_28 lRX12_412 fX12_invent vX12_invent okl0 rfl (Nat.le_of_ble_eq_true rfl) (q_R (by omega) (by decide)) (q_C hnn hzz (by decide) (by decide)) (sn_X12_invent G (d + 3) l0 70 h6 _ okl0 hwp) (k_v (fun h7 hwp cxh7 => ?_))
  have hex := hex.tr cxh7.1
  have hnn : qn h7 = qn h + 0 := by have := cxh7.2.1; omega
  have hzz : qz h7 = qz h + 0 := by have := cxh7.2.2; omega
  have okl0 := okl0.ex cxh7.1
  refine x_aload_n (pc := 31) dX12_inventor_31 rfl ?_
  refine x_iconst (v := 0) (pc := 32) dX12_inventor_32 (by decide) ?_
  refine y_putI (pc := 33) dX12_inventor_33 qRX12_89 okl0 (fun h9 eh9 nxh9 => ?_)
  have hwp := hwp h9 eh9
  have hex := hex.tr nxh9.1
  have hnn := nxh9.2.1.trans hnn
  have hzz := nxh9.2.2.trans hzz
  have okl0 := okl0.ex nxh9.1
  refine x_iconst (v := 0) (pc := 36) dX12_inventor_36 (by decide) ?_
  refine x_istore_n (lv2 := [(1, .int 0), (0, .ref l0)]) (pc := 37) dX12_inventor_37 (by decide) rfl ?_
  refine x_aload_n (pc := 38) dX12_inventor_38 rfl ?_
  refine x_invV (As := []) (st := []) (pc := 39) dX12_inventor_39 lRX12_146 fX12_go vX12_go okl0 rfl (Nat.le_of_ble_eq_true rfl) (q_R (by omega) (by decide)) (q_C hnn hzz (by decide) (by decide)) (sn_X12_go G (d + 2) l0 h9 _ okl0 hwp) (k_v (fun h10 hwp cxh10 => ?_))
  have hex := hex.tr cxh10.1
  have hnn : qn h10 = qn h + 0 := by have := cxh10.2.1; omega
  have hzz : qz h10 = qz h + 0 := by have := cxh10.2.2; omega
  have okl0 := okl0.ex cxh10.1
  refine x_sub [1, 0] rfl ?_
  exact lp_X12_inventor_42 G d h h10 l0 Q hex hnn hzz okl0 hwp ⟨qEx.rf _, rfl, rfl⟩

theorem dX12_isDoor_0 : decode cX12_isDoor 0 = .ok (.iconst 0, 1) := by decide +kernel
theorem dX12_isDoor_1 : decode cX12_isDoor 1 = .ok (.istore_n 1, 1) := by decide +kernel
theorem dX12_isDoor_2 : decode cX12_isDoor 2 = .ok (.iload_n 1, 1) := by decide +kernel
theorem dX12_isDoor_3 : decode cX12_isDoor 3 = .ok (.aload_n 0, 1) := by decide +kernel
theorem dX12_isDoor_4 : decode cX12_isDoor 4 = .ok (.getfield 19, 3) := by decide +kernel
theorem dX12_isDoor_7 : decode cX12_isDoor 7 = .ok (.iconst 0, 1) := by decide +kernel
theorem dX12_isDoor_8 : decode cX12_isDoor 8 = .ok (.iaload, 1) := by decide +kernel
theorem dX12_isDoor_9 : decode cX12_isDoor 9 = .ok (.if_icmp .ge 123, 3) := by decide +kernel
theorem dX12_isDoor_12 : decode cX12_isDoor 12 = .ok (.aload_n 0, 1) := by decide +kernel
theorem dX12_isDoor_13 : decode cX12_isDoor 13 = .ok (.getfield 22, 3) := by decide +kernel
theorem dX12_isDoor_16 : decode cX12_isDoor 16 = .ok (.iconst 0, 1) := by decide +kernel
theorem dX12_isDoor_17 : decode cX12_isDoor 17 = .ok (.iload_n 1, 1) := by decide +kernel
theorem dX12_isDoor_18 : decode cX12_isDoor 18 = .ok (.invokestatic 194, 3) := by decide +kernel
theorem dX12_isDoor_21 : decode cX12_isDoor 21 = .ok (.iconst 0, 1) := by decide +kernel
theorem dX12_isDoor_22 : decode cX12_isDoor 22 = .ok (.iadd, 1) := by decide +kernel
theorem dX12_isDoor_23 : decode cX12_isDoor 23 = .ok (.iaload, 1) := by decide +kernel
theorem dX12_isDoor_24 : decode cX12_isDoor 24 = .ok (.istore_n 2, 1) := by decide +kernel
theorem dX12_isDoor_25 : decode cX12_isDoor 25 = .ok (.iconst 0, 1) := by decide +kernel
theorem dX12_isDoor_26 : decode cX12_isDoor 26 = .ok (.istore_n 3, 1) := by decide +kernel
theorem dX12_isDoor_27 : decode cX12_isDoor 27 = .ok (.iload_n 3, 1) := by decide +kernel
theorem dX12_isDoor_28 : decode cX12_isDoor 28 = .ok (.aload_n 0, 1) := by decide +kernel
theorem dX12_isDoor_29 : decode cX12_isDoor 29 = .ok (.getfield 13, 3) := by decide +kernel
theorem dX12_isDoor_32 : decode cX12_isDoor 32 = .ok (.iconst 0, 1) := by decide +kernel
theorem dX12_isDoor_33 : decode cX12_isDoor 33 = .ok (.iaload, 1) := by decide +kernel
theorem dX12_isDoor_34 : decode cX12_isDoor 34 = .ok (.if_icmp .ge 92, 3) := by decide +kernel
theorem dX12_isDoor_37 : decode cX12_isDoor 37 = .ok (.aload_n 0, 1) := by decide +kernel
theorem dX12_isDoor_38 : decode cX12_isDoor 38 = .ok (.iload_n 1, 1) := by decide +kernel
theorem dX12_isDoor_39 : decode cX12_isDoor 39 = .ok (.aload_n 0, 1) := by decide +kernel
theorem dX12_isDoor_40 : decode cX12_isDoor 40 = .ok (.iload_n 1, 1) := by decide +kernel
theorem dX12_isDoor_41 : decode cX12_isDoor 41 = .ok (.iload_n 3, 1) := by decide +kernel
theorem dX12_isDoor_42 : decode cX12_isDoor 42 = .ok (.invokevirtual 250, 3) := by decide +kernel
theorem dX12_isDoor_45 : decode cX12_isDoor 45 = .ok (.invokevirtual 242, 3) := by decide +kernel
theorem dX12_isDoor_48 : decode cX12_isDoor 48 = .ok (.istore 4, 2) := by decide +kernel
theorem dX12_isDoor_50 : decode cX12_isDoor 50 = .ok (.aload_n 0, 1) := by decide +kernel
theorem dX12_isDoor_51 : decode cX12_isDoor 51 = .ok (.iload_n 1, 1) := by decide +kernel
theorem dX12_isDoor_52 : decode cX12_isDoor 52 = .ok (.aload_n 0, 1) := by decide +kernel
theorem dX12_isDoor_53 : decode cX12_isDoor 53 = .ok (.aload_n 0, 1) := by decide +kernel
theorem dX12_isDoor_54 : decode cX12_isDoor 54 = .ok (.iload_n 1, 1) := by decide +kernel
theorem dX12_isDoor_55 : decode cX12_isDoor 55 = .ok (.iload_n 3, 1) := by decide +kernel
theorem dX12_isDoor_56 : decode cX12_isDoor 56 = .ok (.invokevirtual 250, 3) := by decide +kernel
theorem dX12_isDoor_59 : decode cX12_isDoor 59 = .ok (.iconst 1, 1) := by decide +kernel
theorem dX12_isDoor_60 : decode cX12_isDoor 60 = .ok (.iadd, 1) := by decide +kernel
theorem dX12_isDoor_61 : decode cX12_isDoor 61 = .ok (.invokevirtual 239, 3) := by decide +kernel
theorem dX12_isDoor_64 : decode cX12_isDoor 64 = .ok (.invokevirtual 242, 3) := by decide +kernel
theorem dX12_isDoor_67 : decode cX12_isDoor 67 = .ok (.istore 5, 2) := by decide +kernel
theorem dX12_isDoor_69 : decode cX12_isDoor 69 = .ok (.iload_n 2, 1) := by decide +kernel
theorem dX12_isDoor_70 : decode cX12_isDoor 70 = .ok (.iconst 1, 1) := by decide +kernel
theorem dX12_isDoor_71 : decode cX12_isDoor 71 = .ok (.if_icmp .ne 13, 3) := by decide +kernel
theorem dX12_isDoor_74 : decode cX12_isDoor 74 = .ok (.iload 4, 2) := by decide +kernel
theorem dX12_isDoor_76 : decode cX12_isDoor 76 = .ok (.ifCond .ne 8, 3) := by decide +kernel
theorem dX12_isDoor_79 : decode cX12_isDoor 79 = .ok (.iload 5, 2) := by decide +kernel
theorem dX12_isDoor_81 : decode cX12_isDoor 81 = .ok (.ifCond .ne 15, 3) := by decide +kernel
theorem dX12_isDoor_84 : decode cX12_isDoor 84 = .ok (.iload_n 2, 1) := by decide +kernel
theorem dX12_isDoor_85 : decode cX12_isDoor 85 = .ok (.iconst 2, 1) := by decide +kernel
theorem dX12_isDoor_86 : decode cX12_isDoor 86 = .ok (.if_icmp .ne 14, 3) := by decide +kernel
theorem dX12_isDoor_89 : decode cX12_isDoor 89 = .ok (.iload 4, 2) := by decide +kernel
theorem dX12_isDoor_91 : decode cX12_isDoor 91 = .ok (.iload 5, 2) := by decide +kernel
theorem dX12_isDoor_93 : decode cX12_isDoor 93 = .ok (.if_icmp .eq 7, 3) := by decide +kernel
theorem dX12_isDoor_96 : decode cX12_isDoor 96 = .ok (.iconst 1, 1) := by decide +kernel
theorem dX12_isDoor_97 : decode cX12_isDoor 97 = .ok (.goto 4, 3) := by decide +kernel
theorem dX12_isDoor_100 : decode cX12_isDoor 100 = .ok (.iconst 0, 1) := by decide +kernel
theorem dX12_isDoor_101 : decode cX12_isDoor 101 = .ok (.istore 6, 2) := by decide +kernel
theorem dX12_isDoor_103 : decode cX12_isDoor 103 = .ok (.iload 6, 2) := by decide +kernel
theorem dX12_isDoor_105 : decode cX12_isDoor 105 = .ok (.ifCond .eq 15, 3) := by decide +kernel
theorem dX12_isDoor_108 : decode cX12_isDoor 108 = .ok (.aload_n 0, 1) := by decide +kernel
theorem dX12_isDoor_109 : decode cX12_isDoor 109 = .ok (.iload_n 1, 1) := by decide +kernel
theorem dX12_isDoor_110 : decode cX12_isDoor 110 = .ok (.iload_n 3, 1) := by decide +kernel
theorem dX12_isDoor_111 : decode cX12_isDoor 111 = .ok (.iconst 0, 1) := by decide +kernel
theorem dX12_isDoor_112 : decode cX12_isDoor 112 = .ok (.invokevirtual 268, 3) := by decide +kernel
theorem dX12_isDoor_115 : decode cX12_isDoor 115 = .ok (.ifCond .ge 5, 3) := by decide +kernel
theorem dX12_isDoor_118 : decode cX12_isDoor 118 = .ok (.iconst 1, 1) := by decide +kernel
theorem dX12_isDoor_119 : decode cX12_isDoor 119 = .ok (.ireturn, 1) := by decide +kernel
theorem dX12_isDoor_120 : decode cX12_isDoor 120 = .ok (.iinc 3 1, 3) := by decide +kernel
theorem dX12_isDoor_123 : decode cX12_isDoor 123 = .ok (.goto (-96), 3) := by decide +kernel
theorem dX12_isDoor_126 : decode cX12_isDoor 126 = .ok (.iinc 1 1, 3) := by decide +kernel
theorem dX12_isDoor_129 : decode cX12_isDoor 129 = .ok (.goto (-127), 3) := by decide +kernel
theorem dX12_isDoor_132 : decode cX12_isDoor 132 = .ok (.iconst 0, 1) := by decide +kernel
theorem dX12_isDoor_133 : decode cX12_isDoor 133 = .ok (.ireturn, 1) := by decide +kernel
def E_X12_isDoor_2 (G : GT) (d : Nat) (h0 hb : PH) (l0 : Nat) (Q : Int32 → PH → Prop) (s : Int32 × PH) : Prop := qEx hb s.2 ∧ qn s.2 = qn hb ∧ qz s.2 = qz hb → Ex G (qrm (5 + d) 0 0) mX12_isDoor (qn h0) (qz h0) (ZN G h0 0 0 (qqb Q)) 2 [(0, .ref l0), (1, .int s.1)] [] s.2
def E_X12_isDoor_27 (G : GT) (d : Nat) (h0 hb : PH) (l0 : Nat) (l1 : Int32) (l2 : Int32) (Q : Int32 → PH → Prop) (s : Int32 × PH) : Prop := qEx hb s.2 ∧ qn s.2 = qn hb ∧ qz s.2 = qz hb → Ex G (qrm (5 + d) 0 0) mX12_isDoor (qn h0) (qz h0) (ZN G h0 0 0 (qqb Q)) 27 [(0, .ref l0), (1, .int l1), (2, .int l2), (3, .int s.1)] [] s.2
def wp_X12_isDoor_101 (l0 : Nat) (l1 : Int32) (l2 : Int32) (l3 : Int32) (s0 : Int32) (bk2 : Int32 × PH → Prop) (bk27 : Int32 × PH → Prop) (h : PH) (Q : Int32 → PH → Prop) : Prop := ((s0 = 0 → ∀ v32 : Int32, v32 = l3 + 1 → bk27 (v32, h)) ∧ (¬ (s0 = 0) → (wp_X12_givesOf l0 l1 l3 0 h (fun r34 h33 => ((0 ≤ r34 → ∀ v36 : Int32, v36 = l3 + 1 → bk27 (v36, h33)) ∧ (¬ (0 ≤ r34) → Q 1 h33))))))
set_option maxHeartbeats 4000000 in
set_option maxRecDepth 100000 in
theorem sg_X12_isDoor_101 (G : GT) (d : Nat) (h0 : PH) (l0 : Nat) (l1 : Int32) (l2 : Int32) (l3 : Int32) (s0 : Int32) (h : PH) (Q : Int32 → PH → Prop) (hb2 : PH) (bk2 : Int32 × PH → Prop) (hbk2 : ∀ s2, bk2 s2 → E_X12_isDoor_2 G d h0 hb2 l0 Q s2) (hx2 : qEx hb2 h) (hn2 : qn h = qn hb2) (hz2 : qz h = qz hb2) (hb27 : PH) (bk27 : Int32 × PH → Prop) (hbk27 : ∀ s2, bk27 s2 → E_X12_isDoor_27 G d h0 hb27 l0 l1 l2 Q s2) (hx27 : qEx hb27 h) (hn27 : qn h = qn hb27) (hz27 : qz h = qz hb27) (hex : qEx h0 h) (hnn : qn h = qn h0 + 0) (hzz : qz h = qz h0 + 0) (okl0 : qOK h 11 l0) (hwp : wp_X12_isDoor_101 l0 l1 l2 l3 s0 bk2 bk27 h Q) : Ex G (qrm (5 + d) 0 0) mX12_isDoor (qn h0) (qz h0) (ZN G h0 0 0 (qqb Q)) 101 [(0, .ref l0), (1, .int l1), (2, .int l2), (3, .int l3)] [.int s0] h := by
  unfold wp_X12_isDoor_101 at hwp
  refine x_istore (lv2 := [(6, .int s0), (0, .ref l0), (1, .int l1), (2, .int l2), (3, .int l3)]) (pc := 101) dX12_isDoor_101 (by decide) rfl ?_
  refine x_iload (pc := 103) dX12_isDoor_103 rfl ?_
  refine x_if_eq (tgt := 120) (pc := 105) dX12_isDoor_105 (by decide) (fun c31 => ?_) (fun c31 => ?_)
  · have hwp := hwp.1 c31
    refine y_iinc (c := 1) (pc := 120) dX12_isDoor_120 rfl (by decide) (by decide) (fun v32 ev32 => ?_)
    have hwp := hwp v32 ev32
    refine x_lvE (lv2 := [(3, .int v32), (6, .int s0), (0, .ref l0), (1, .int l1), (2, .int l2)]) rfl ?_
    refine x_goto (tgt := 27) (pc := 123) dX12_isDoor_123 (by decide) ?_
    refine x_sub [2, 3, 4, 0] rfl ?_
    exact hbk27 _ hwp ⟨hx27, hn27, hz27⟩
  · have hwp := hwp.2 c31
    refine x_aload_n (pc := 108) dX12_isDoor_108 rfl ?_
    refine x_iload_n (pc := 109) dX12_isDoor_109 rfl ?_
    refine x_iload_n (pc := 110) dX12_isDoor_110 rfl ?_
    refine x_iconst (v := 0) (pc := 111) dX12_isDoor_111 (by decide) ?_
    refine x_invV (As := [.int l1, .int l3, .int 0]) (st := []) (pc := 112) dX12_isDoor_112 lRX12_268 fX12_givesOf vX12_givesOf okl0 rfl (Nat.le_of_ble_eq_true rfl) (q_R (by omega) (by decide)) (q_C hnn hzz (by decide) (by decide)) (sn_X12_givesOf G (d + 0) l0 l1 l3 0 h _ okl0 hwp) (k_i (fun r34 h33 hwp cxh33 => ?_))
    have hex := hex.tr cxh33.1
    have hnn : qn h33 = qn h0 + 0 := by have := cxh33.2.1; omega
    have hzz : qz h33 = qz h0 + 0 := by have := cxh33.2.2; omega
    have hx2 := hx2.tr cxh33.1
    have hn2 : qn h33 = qn hb2 := by have := cxh33.2.1; omega
    have hz2 : qz h33 = qz hb2 := by have := cxh33.2.2; omega
    have hx27 := hx27.tr cxh33.1
    have hn27 : qn h33 = qn hb27 := by have := cxh33.2.1; omega
    have hz27 : qz h33 = qz hb27 := by have := cxh33.2.2; omega
    have okl0 := okl0.ex cxh33.1
    refine x_if_ge (tgt := 120) (pc := 115) dX12_isDoor_115 (by decide) (fun c35 => ?_) (fun c35 => ?_)
    · have hwp := hwp.1 c35
      refine y_iinc (c := 1) (pc := 120) dX12_isDoor_120 rfl (by decide) (by decide) (fun v36 ev36 => ?_)
      have hwp := hwp v36 ev36
      refine x_lvE (lv2 := [(3, .int v36), (6, .int s0), (0, .ref l0), (1, .int l1), (2, .int l2)]) rfl ?_
      refine x_goto (tgt := 27) (pc := 123) dX12_isDoor_123 (by decide) ?_
      refine x_sub [2, 3, 4, 0] rfl ?_
      exact hbk27 _ hwp ⟨hx27, hn27, hz27⟩
    · have hwp := hwp.2 c35
      refine x_iconst (v := 1) (pc := 118) dX12_isDoor_118 (by decide) ?_
      exact x_zret (pc := 119) dX12_isDoor_119 rfl hex hnn hzz (by decide) ⟨_, rfl, by decide, hwp⟩
def wp_X12_isDoor_84 (l0 : Nat) (l1 : Int32) (l2 : Int32) (l3 : Int32) (l4 : Int32) (l5 : Int32) (bk2 : Int32 × PH → Prop) (bk27 : Int32 × PH → Prop) (h : PH) (Q : Int32 → PH → Prop) : Prop := ((¬ l2 = 2 → (wp_X12_isDoor_101 l0 l1 l2 l3 0 bk2 bk27 h Q)) ∧ (l2 = 2 → ((l4 = l5 → (wp_X12_isDoor_101 l0 l1 l2 l3 0 bk2 bk27 h Q)) ∧ (¬ (l4 = l5) → (wp_X12_isDoor_101 l0 l1 l2 l3 1 bk2 bk27 h Q)))))
set_option maxHeartbeats 4000000 in
set_option maxRecDepth 100000 in
theorem sg_X12_isDoor_84 (G : GT) (d : Nat) (h0 : PH) (l0 : Nat) (l1 : Int32) (l2 : Int32) (l3 : Int32) (l4 : Int32) (l5 : Int32) (h : PH) (Q : Int32 → PH → Prop) (hb2 : PH) (bk2 : Int32 × PH → Prop) (hbk2 : ∀ s2, bk2 s2 → E_X12_isDoor_2 G d h0 hb2 l0 Q s2) (hx2 : qEx hb2 h) (hn2 : qn h = qn hb2) (hz2 : qz h = qz hb2) (hb27 : PH) (bk27 : Int32 × PH → Prop) (hbk27 : ∀ s2, bk27 s2 → E_X12_isDoor_27 G d h0 hb27 l0 l1 l2 Q s2) (hx27 : qEx hb27 h) (hn27 : qn h = qn hb27) (hz27 : qz h = qz hb27) (hex : qEx h0 h) (hnn : qn h = qn h0 + 0) (hzz : qz h = qz h0 + 0) (okl0 : qOK h 11 l0) (hwp : wp_X12_isDoor_84 l0 l1 l2 l3 l4 l5 bk2 bk27 h Q) : Ex G (qrm (5 + d) 0 0) mX12_isDoor (qn h0) (qz h0) (ZN G h0 0 0 (qqb Q)) 84 [(0, .ref l0), (1, .int l1), (2, .int l2), (3, .int l3), (4, .int l4), (5, .int l5)] [] h := by
  unfold wp_X12_isDoor_84 at hwp
  refine x_iload_n (pc := 84) dX12_isDoor_84 rfl ?_
  refine x_iconst (v := 2) (pc := 85) dX12_isDoor_85 (by decide) ?_
  refine x_icmp_ne (tgt := 100) (pc := 86) dX12_isDoor_86 (by decide) (fun c29 => ?_) (fun c29 => ?_)
  · have hwp := hwp.1 c29
    refine x_iconst (v := 0) (pc := 100) dX12_isDoor_100 (by decide) ?_
    refine x_sub [0, 1, 2, 3] rfl ?_
    exact sg_X12_isDoor_101 G d h0 l0 l1 l2 l3 0 h Q hb2 bk2 hbk2 hx2 hn2 hz2 hb27 bk27 hbk27 hx27 hn27 hz27 hex hnn hzz okl0 hwp
  · have hwp := hwp.2 c29
    refine x_iload (pc := 89) dX12_isDoor_89 rfl ?_
    refine x_iload (pc := 91) dX12_isDoor_91 rfl ?_
    refine x_icmp_eq (tgt := 100) (pc := 93) dX12_isDoor_93 (by decide) (fun c30 => ?_) (fun c30 => ?_)
    · have hwp := hwp.1 c30
      refine x_iconst (v := 0) (pc := 100) dX12_isDoor_100 (by decide) ?_
      refine x_sub [0, 1, 2, 3] rfl ?_
      exact sg_X12_isDoor_101 G d h0 l0 l1 l2 l3 0 h Q hb2 bk2 hbk2 hx2 hn2 hz2 hb27 bk27 hbk27 hx27 hn27 hz27 hex hnn hzz okl0 hwp
    · have hwp := hwp.2 c30
      refine x_iconst (v := 1) (pc := 96) dX12_isDoor_96 (by decide) ?_
      refine x_goto (tgt := 101) (pc := 97) dX12_isDoor_97 (by decide) ?_
      refine x_sub [0, 1, 2, 3] rfl ?_
      exact sg_X12_isDoor_101 G d h0 l0 l1 l2 l3 1 h Q hb2 bk2 hbk2 hx2 hn2 hz2 hb27 bk27 hbk27 hx27 hn27 hz27 hex hnn hzz okl0 hwp
def wb_X12_isDoor_27 (l0 : Nat) (l1 : Int32) (l2 : Int32) (bk2 : Int32 × PH → Prop) (Q : Int32 → PH → Prop) (bk27 : Int32 × PH → Prop) (l3 : Int32) (h : PH) : Prop := (∃ b11, qR h l0 14 = some b11 ∧ (vp_in 0 (qL h b11) ∧ (((qI h b11 (0 : Int32).toNatClampNeg) ≤ l3 → ∀ v15 : Int32, v15 = l1 + 1 → bk2 (v15, h)) ∧ (¬ ((qI h b11 (0 : Int32).toNatClampNeg) ≤ l3) → (wp_X12_placeOf l0 l1 l3 h (fun r17 h16 => (wp_X12_isWithin_ l0 l1 r17 h16 (fun r19 h18 => (wp_X12_placeOf l0 l1 l3 h18 (fun r21 h20 => (wp_X12_round l0 (r21 + 1) h20 (fun r23 h22 => (wp_X12_isWithin_ l0 l1 r23 h22 (fun r25 h24 => ((¬ l2 = 1 → (wp_X12_isDoor_84 l0 l1 l2 l3 r19 r25 bk2 bk27 h24 Q)) ∧ (l2 = 1 → ((¬ r19 = 0 → (wp_X12_isDoor_84 l0 l1 l2 l3 r19 r25 bk2 bk27 h24 Q)) ∧ (r19 = 0 → ((¬ r25 = 0 → (wp_X12_isDoor_101 l0 l1 l2 l3 1 bk2 bk27 h24 Q)) ∧ (r25 = 0 → (wp_X12_isDoor_84 l0 l1 l2 l3 r19 r25 bk2 bk27 h24 Q)))))))))))))))))))))
def wp_X12_isDoor_27 (l0 : Nat) (l1 : Int32) (l2 : Int32) (bk2 : Int32 × PH → Prop) (Q : Int32 → PH → Prop) (bk27 : Int32 × PH → Prop) (s : Int32 × PH) : Prop := wb_X12_isDoor_27 l0 l1 l2 bk2 Q bk27 s.1 s.2
set_option maxHeartbeats 4000000 in
set_option maxRecDepth 100000 in
theorem bd_X12_isDoor_27 (G : GT) (d : Nat) (h0 hb : PH) (l0 : Nat) (l1 : Int32) (l2 : Int32) (Q : Int32 → PH → Prop) (hb2 : PH) (bk2 : Int32 × PH → Prop) (hbk2 : ∀ s2, bk2 s2 → E_X12_isDoor_2 G d h0 hb2 l0 Q s2) (hx2 : qEx hb2 hb) (hn2 : qn hb = qn hb2) (hz2 : qz hb = qz hb2) (hex : qEx h0 hb) (hnn : qn hb = qn h0 + 0) (hzz : qz hb = qz h0 + 0) (okl0 : qOK hb 11 l0) (bk27 : Int32 × PH → Prop) (hbk27 : ∀ s2, bk27 s2 → E_X12_isDoor_27 G d h0 hb l0 l1 l2 Q s2) (l3 : Int32) (h : PH) (hwp : wb_X12_isDoor_27 l0 l1 l2 bk2 Q bk27 l3 h) (hx27 : qEx hb h) (hn27 : qn h = qn hb) (hz27 : qz h = qz hb) : Ex G (qrm (5 + d) 0 0) mX12_isDoor (qn h0) (qz h0) (ZN G h0 0 0 (qqb Q)) 27 [(0, .ref l0), (1, .int l1), (2, .int l2), (3, .int l3)] [] h := by
  unfold wb_X12_isDoor_27 at hwp
  have hex := hex.tr hx27
  have hnn := hn27.trans hnn
  have hzz := hz27.trans hzz
  have hx2 := hx2.tr hx27
  have hn2 := hn27.trans hn2
  have hz2 := hz27.trans hz2
  have okl0 := okl0.ex hx27
  refine x_iload_n (pc := 27) dX12_isDoor_27 rfl ?_
  refine x_aload_n (pc := 28) dX12_isDoor_28 rfl ?_
  obtain ⟨b11, e12, hwp⟩ := hwp
  refine x_getR (pc := 29) dX12_isDoor_29 qRX12_13 okl0 e12 (fun okb11 => ?_)
  refine x_iconst (v := 0) (pc := 32) dX12_isDoor_32 (by decide) ?_
  obtain ⟨i13, hwp⟩ := hwp
  refine x_iaload (pc := 33) dX12_isDoor_33 okb11 i13 ?_
  refine x_icmp_ge (tgt := 126) (pc := 34) dX12_isDoor_34 (by decide) (fun c14 => ?_) (fun c14 => ?_)
  · have hwp := hwp.1 c14
    refine y_iinc (c := 1) (pc := 126) dX12_isDoor_126 rfl (by decide) (by decide) (fun v15 ev15 => ?_)
    have hwp := hwp v15 ev15
    refine x_lvE (lv2 := [(1, .int v15), (0, .ref l0), (2, .int l2), (3, .int l3)]) rfl ?_
    refine x_goto (tgt := 2) (pc := 129) dX12_isDoor_129 (by decide) ?_
    refine x_sub [1, 0] rfl ?_
    exact hbk2 _ hwp ⟨hx2, hn2, hz2⟩
  · have hwp := hwp.2 c14
    refine x_aload_n (pc := 37) dX12_isDoor_37 rfl ?_
    refine x_iload_n (pc := 38) dX12_isDoor_38 rfl ?_
    refine x_aload_n (pc := 39) dX12_isDoor_39 rfl ?_
    refine x_iload_n (pc := 40) dX12_isDoor_40 rfl ?_
    refine x_iload_n (pc := 41) dX12_isDoor_41 rfl ?_
    refine x_invV (As := [.int l1, .int l3]) (st := [.int l1, .ref l0]) (pc := 42) dX12_isDoor_42 lRX12_250 fX12_placeOf vX12_placeOf okl0 rfl (Nat.le_of_ble_eq_true rfl) (q_R (by omega) (by decide)) (q_C hnn hzz (by decide) (by decide)) (sn_X12_placeOf G (d + 3) l0 l1 l3 h _ okl0 hwp) (k_i (fun r17 h16 hwp cxh16 => ?_))
    have hex := hex.tr cxh16.1
    have hnn : qn h16 = qn h0 + 0 := by have := cxh16.2.1; omega
    have hzz : qz h16 = qz h0 + 0 := by have := cxh16.2.2; omega
    have hx2 := hx2.tr cxh16.1
    have hn2 : qn h16 = qn hb2 := by have := cxh16.2.1; omega
    have hz2 : qz h16 = qz hb2 := by have := cxh16.2.2; omega
    have hx27 := hx27.tr cxh16.1
    have hn27 : qn h16 = qn hb := by have := cxh16.2.1; omega
    have hz27 : qz h16 = qz hb := by have := cxh16.2.2; omega
    have okl0 := okl0.ex cxh16.1
    have okb11 := okb11.ex cxh16.1
    refine x_invV (As := [.int l1, .int r17]) (st := []) (pc := 45) dX12_isDoor_45 lRX12_242 fX12_isWithin_ vX12_isWithin_ okl0 rfl (Nat.le_of_ble_eq_true rfl) (q_R (by omega) (by decide)) (q_C hnn hzz (by decide) (by decide)) (sn_X12_isWithin_ G (d + 3) l0 l1 r17 h16 _ okl0 hwp) (k_b (fun r19 h18 hwp zbr19 cxh18 => ?_))
    have hex := hex.tr cxh18.1
    have hnn : qn h18 = qn h0 + 0 := by have := cxh18.2.1; omega
    have hzz : qz h18 = qz h0 + 0 := by have := cxh18.2.2; omega
    have hx2 := hx2.tr cxh18.1
    have hn2 : qn h18 = qn hb2 := by have := cxh18.2.1; omega
    have hz2 : qz h18 = qz hb2 := by have := cxh18.2.2; omega
    have hx27 := hx27.tr cxh18.1
    have hn27 : qn h18 = qn hb := by have := cxh18.2.1; omega
    have hz27 : qz h18 = qz hb := by have := cxh18.2.2; omega
    have okl0 := okl0.ex cxh18.1
    have okb11 := okb11.ex cxh18.1
    refine x_istore (lv2 := [(4, .int r19), (0, .ref l0), (1, .int l1), (2, .int l2), (3, .int l3)]) (pc := 48) dX12_isDoor_48 (by decide) rfl ?_
    refine x_aload_n (pc := 50) dX12_isDoor_50 rfl ?_
    refine x_iload_n (pc := 51) dX12_isDoor_51 rfl ?_
    refine x_aload_n (pc := 52) dX12_isDoor_52 rfl ?_
    refine x_aload_n (pc := 53) dX12_isDoor_53 rfl ?_
    refine x_iload_n (pc := 54) dX12_isDoor_54 rfl ?_
    refine x_iload_n (pc := 55) dX12_isDoor_55 rfl ?_
    refine x_invV (As := [.int l1, .int l3]) (st := [.ref l0, .int l1, .ref l0]) (pc := 56) dX12_isDoor_56 lRX12_250 fX12_placeOf vX12_placeOf okl0 rfl (Nat.le_of_ble_eq_true rfl) (q_R (by omega) (by decide)) (q_C hnn hzz (by decide) (by decide)) (sn_X12_placeOf G (d + 3) l0 l1 l3 h18 _ okl0 hwp) (k_i (fun r21 h20 hwp cxh20 => ?_))
    have hex := hex.tr cxh20.1
    have hnn : qn h20 = qn h0 + 0 := by have := cxh20.2.1; omega
    have hzz : qz h20 = qz h0 + 0 := by have := cxh20.2.2; omega
    have hx2 := hx2.tr cxh20.1
    have hn2 : qn h20 = qn hb2 := by have := cxh20.2.1; omega
    have hz2 : qz h20 = qz hb2 := by have := cxh20.2.2; omega
    have hx27 := hx27.tr cxh20.1
    have hn27 : qn h20 = qn hb := by have := cxh20.2.1; omega
    have hz27 : qz h20 = qz hb := by have := cxh20.2.2; omega
    have okl0 := okl0.ex cxh20.1
    have okb11 := okb11.ex cxh20.1
    refine x_iconst (v := 1) (pc := 59) dX12_isDoor_59 (by decide) ?_
    refine x_iadd (pc := 60) dX12_isDoor_60 ?_
    refine x_invV (As := [.int (r21 + 1)]) (st := [.int l1, .ref l0]) (pc := 61) dX12_isDoor_61 lRX12_239 fX12_round vX12_round okl0 rfl (Nat.le_of_ble_eq_true rfl) (q_R (by omega) (by decide)) (q_C hnn hzz (by decide) (by decide)) (sn_X12_round G (d + 4) l0 (r21 + 1) h20 _ okl0 hwp) (k_i (fun r23 h22 hwp cxh22 => ?_))
    have hex := hex.tr cxh22.1
    have hnn : qn h22 = qn h0 + 0 := by have := cxh22.2.1; omega
    have hzz : qz h22 = qz h0 + 0 := by have := cxh22.2.2; omega
    have hx2 := hx2.tr cxh22.1
    have hn2 : qn h22 = qn hb2 := by have := cxh22.2.1; omega
    have hz2 : qz h22 = qz hb2 := by have := cxh22.2.2; omega
    have hx27 := hx27.tr cxh22.1
    have hn27 : qn h22 = qn hb := by have := cxh22.2.1; omega
    have hz27 : qz h22 = qz hb := by have := cxh22.2.2; omega
    have okl0 := okl0.ex cxh22.1
    have okb11 := okb11.ex cxh22.1
    refine x_invV (As := [.int l1, .int r23]) (st := []) (pc := 64) dX12_isDoor_64 lRX12_242 fX12_isWithin_ vX12_isWithin_ okl0 rfl (Nat.le_of_ble_eq_true rfl) (q_R (by omega) (by decide)) (q_C hnn hzz (by decide) (by decide)) (sn_X12_isWithin_ G (d + 3) l0 l1 r23 h22 _ okl0 hwp) (k_b (fun r25 h24 hwp zbr25 cxh24 => ?_))
    have hex := hex.tr cxh24.1
    have hnn : qn h24 = qn h0 + 0 := by have := cxh24.2.1; omega
    have hzz : qz h24 = qz h0 + 0 := by have := cxh24.2.2; omega
    have hx2 := hx2.tr cxh24.1
    have hn2 : qn h24 = qn hb2 := by have := cxh24.2.1; omega
    have hz2 : qz h24 = qz hb2 := by have := cxh24.2.2; omega
    have hx27 := hx27.tr cxh24.1
    have hn27 : qn h24 = qn hb := by have := cxh24.2.1; omega
    have hz27 : qz h24 = qz hb := by have := cxh24.2.2; omega
    have okl0 := okl0.ex cxh24.1
    have okb11 := okb11.ex cxh24.1
    refine x_istore (lv2 := [(5, .int r25), (4, .int r19), (0, .ref l0), (1, .int l1), (2, .int l2), (3, .int l3)]) (pc := 67) dX12_isDoor_67 (by decide) rfl ?_
    refine x_iload_n (pc := 69) dX12_isDoor_69 rfl ?_
    refine x_iconst (v := 1) (pc := 70) dX12_isDoor_70 (by decide) ?_
    refine x_icmp_ne (tgt := 84) (pc := 71) dX12_isDoor_71 (by decide) (fun c26 => ?_) (fun c26 => ?_)
    · have hwp := hwp.1 c26
      refine x_sub [2, 3, 4, 5, 1, 0] rfl ?_
      exact sg_X12_isDoor_84 G d h0 l0 l1 l2 l3 r19 r25 h24 Q hb2 bk2 hbk2 hx2 hn2 hz2 hb bk27 hbk27 hx27 hn27 hz27 hex hnn hzz okl0 hwp
    · have hwp := hwp.2 c26
      refine x_iload (pc := 74) dX12_isDoor_74 rfl ?_
      refine x_if_ne (tgt := 84) (pc := 76) dX12_isDoor_76 (by decide) (fun c27 => ?_) (fun c27 => ?_)
      · have hwp := hwp.1 c27
        refine x_sub [2, 3, 4, 5, 1, 0] rfl ?_
        exact sg_X12_isDoor_84 G d h0 l0 l1 l2 l3 r19 r25 h24 Q hb2 bk2 hbk2 hx2 hn2 hz2 hb bk27 hbk27 hx27 hn27 hz27 hex hnn hzz okl0 hwp
      · have hwp := hwp.2 c27
        refine x_iload (pc := 79) dX12_isDoor_79 rfl ?_
        refine x_if_ne (tgt := 96) (pc := 81) dX12_isDoor_81 (by decide) (fun c28 => ?_) (fun c28 => ?_)
        · have hwp := hwp.1 c28
          refine x_iconst (v := 1) (pc := 96) dX12_isDoor_96 (by decide) ?_
          refine x_goto (tgt := 101) (pc := 97) dX12_isDoor_97 (by decide) ?_
          refine x_sub [2, 3, 4, 5] rfl ?_
          exact sg_X12_isDoor_101 G d h0 l0 l1 l2 l3 1 h24 Q hb2 bk2 hbk2 hx2 hn2 hz2 hb bk27 hbk27 hx27 hn27 hz27 hex hnn hzz okl0 hwp
        · have hwp := hwp.2 c28
          refine x_sub [2, 3, 4, 5, 1, 0] rfl ?_
          exact sg_X12_isDoor_84 G d h0 l0 l1 l2 l3 r19 r25 h24 Q hb2 bk2 hbk2 hx2 hn2 hz2 hb bk27 hbk27 hx27 hn27 hz27 hex hnn hzz okl0 hwp
theorem lp_X12_isDoor_27 (G : GT) (d : Nat) (h0 hb : PH) (l0 : Nat) (l1 : Int32) (l2 : Int32) (Q : Int32 → PH → Prop) (hb2 : PH) (bk2 : Int32 × PH → Prop) (hbk2 : ∀ s2, bk2 s2 → E_X12_isDoor_2 G d h0 hb2 l0 Q s2) (hx2 : qEx hb2 hb) (hn2 : qn hb = qn hb2) (hz2 : qz hb = qz hb2) (hex : qEx h0 hb) (hnn : qn hb = qn h0 + 0) (hzz : qz hb = qz h0 + 0) (okl0 : qOK hb 11 l0) {s : Int32 × PH} (hwp : qLoop (wp_X12_isDoor_27 l0 l1 l2 bk2 Q) s) : E_X12_isDoor_27 G d h0 hb l0 l1 l2 Q s :=
  qLoop.use (E := E_X12_isDoor_27 G d h0 hb l0 l1 l2 Q) (fun back s hbk hw hx => bd_X12_isDoor_27 G d h0 hb l0 l1 l2 Q hb2 bk2 hbk2 hx2 hn2 hz2 hex hnn hzz okl0 back hbk s.1 s.2 hw hx.1 hx.2.1 hx.2.2) hwp
def wb_X12_isDoor_2 (l0 : Nat)  (Q : Int32 → PH → Prop) (bk2 : Int32 × PH → Prop) (l1 : Int32) (h : PH) : Prop := (∃ b1, qR h l0 16 = some b1 ∧ (vp_in 0 (qL h b1) ∧ (((qI h b1 (0 : Int32).toNatClampNeg) ≤ l1 → Q 0 h) ∧ (¬ ((qI h b1 (0 : Int32).toNatClampNeg) ≤ l1) → (∃ b5, qR h l0 17 = some b5 ∧ (wp_X12_slot 0 l1 h (fun r8 h7 => (vp_in (r8 + 0) (qL h7 b5) ∧ ∀ v10 : Int32, v10 = qI h7 b5 (r8 + 0).toNatClampNeg → (qLoop (wp_X12_isDoor_27 l0 l1 v10 bk2 Q) (0, h7))))))))))
def wp_X12_isDoor_2 (l0 : Nat)  (Q : Int32 → PH → Prop) (bk2 : Int32 × PH → Prop) (s : Int32 × PH) : Prop := wb_X12_isDoor_2 l0 Q bk2 s.1 s.2
set_option maxHeartbeats 4000000 in
set_option maxRecDepth 100000 in
theorem bd_X12_isDoor_2 (G : GT) (d : Nat) (h0 hb : PH) (l0 : Nat) (Q : Int32 → PH → Prop)  (hex : qEx h0 hb) (hnn : qn hb = qn h0 + 0) (hzz : qz hb = qz h0 + 0) (okl0 : qOK hb 11 l0) (bk2 : Int32 × PH → Prop) (hbk2 : ∀ s2, bk2 s2 → E_X12_isDoor_2 G d h0 hb l0 Q s2) (l1 : Int32) (h : PH) (hwp : wb_X12_isDoor_2 l0 Q bk2 l1 h) (hx2 : qEx hb h) (hn2 : qn h = qn hb) (hz2 : qz h = qz hb) : Ex G (qrm (5 + d) 0 0) mX12_isDoor (qn h0) (qz h0) (ZN G h0 0 0 (qqb Q)) 2 [(0, .ref l0), (1, .int l1)] [] h := by
  unfold wb_X12_isDoor_2 at hwp
  have hex := hex.tr hx2
  have hnn := hn2.trans hnn
  have hzz := hz2.trans hzz
  have okl0 := okl0.ex hx2
  refine x_iload_n (pc := 2) dX12_isDoor_2 rfl ?_
  refine x_aload_n (pc := 3) dX12_isDoor_3 rfl ?_
  obtain ⟨b1, e2, hwp⟩ := hwp
  refine x_getR (pc := 4) dX12_isDoor_4 qRX12_19 okl0 e2 (fun okb1 => ?_)
  refine x_iconst (v := 0) (pc := 7) dX12_isDoor_7 (by decide) ?_
  obtain ⟨i3, hwp⟩ := hwp
  refine x_iaload (pc := 8) dX12_isDoor_8 okb1 i3 ?_
  refine x_icmp_ge (tgt := 132) (pc := 9) dX12_isDoor_9 (by decide) (fun c4 => ?_) (fun c4 => ?_)
  · have hwp := hwp.1 c4
    refine x_iconst (v := 0) (pc := 132) dX12_isDoor_132 (by decide) ?_
    exact x_zret (pc := 133) dX12_isDoor_133 rfl hex hnn hzz (by decide) ⟨_, rfl, by decide, hwp⟩
  · have hwp := hwp.2 c4
    refine x_aload_n (pc := 12) dX12_isDoor_12 rfl ?_
    obtain ⟨b5, e6, hwp⟩ := hwp
    refine x_getR (pc := 13) dX12_isDoor_13 qRX12_22 okl0 e6 (fun okb5 => ?_)
    refine x_iconst (v := 0) (pc := 16) dX12_isDoor_16 (by decide) ?_
    refine x_iload_n (pc := 17) dX12_isDoor_17 rfl ?_
    refine x_invS (As := [.int 0, .int l1]) (st := [.ref b5]) (pc := 18) dX12_isDoor_18 lRX12_194 fX12_slot sX12_slot rfl (Nat.le_of_ble_eq_true rfl) (q_R (by omega) (by decide)) (q_C hnn hzz (by decide) (by decide)) (sn_X12_slot G (d + 4) 0 l1 h _  hwp) (k_i (fun r8 h7 hwp cxh7 => ?_))
    have hex := hex.tr cxh7.1
    have hnn : qn h7 = qn h0 + 0 := by have := cxh7.2.1; omega
    have hzz : qz h7 = qz h0 + 0 := by have := cxh7.2.2; omega
    have hx2 := hx2.tr cxh7.1
    have hn2 : qn h7 = qn hb := by have := cxh7.2.1; omega
    have hz2 : qz h7 = qz hb := by have := cxh7.2.2; omega
    have okl0 := okl0.ex cxh7.1
    have okb1 := okb1.ex cxh7.1
    have okb5 := okb5.ex cxh7.1
    refine x_iconst (v := 0) (pc := 21) dX12_isDoor_21 (by decide) ?_
    refine x_iadd (pc := 22) dX12_isDoor_22 ?_
    obtain ⟨i9, hwp⟩ := hwp
    refine x_iaload (pc := 23) dX12_isDoor_23 okb5 i9 ?_
    refine x_nmI (fun v10 ev10 => ?_)
    have hwp := hwp v10 ev10
    refine x_istore_n (lv2 := [(2, .int v10), (0, .ref l0), (1, .int l1)]) (pc := 24) dX12_isDoor_24 (by decide) rfl ?_
    refine x_iconst (v := 0) (pc := 25) dX12_isDoor_25 (by decide) ?_
    refine x_istore_n (lv2 := [(3, .int 0), (2, .int v10), (0, .ref l0), (1, .int l1)]) (pc := 26) dX12_isDoor_26 (by decide) rfl ?_
    refine x_sub [2, 3, 1, 0] rfl ?_
    exact lp_X12_isDoor_27 G d h0 h7 l0 l1 v10 Q hb bk2 hbk2 hx2 hn2 hz2 hex hnn hzz okl0 hwp ⟨qEx.rf _, rfl, rfl⟩
theorem lp_X12_isDoor_2 (G : GT) (d : Nat) (h0 hb : PH) (l0 : Nat) (Q : Int32 → PH → Prop)  (hex : qEx h0 hb) (hnn : qn hb = qn h0 + 0) (hzz : qz hb = qz h0 + 0) (okl0 : qOK hb 11 l0) {s : Int32 × PH} (hwp : qLoop (wp_X12_isDoor_2 l0 Q) s) : E_X12_isDoor_2 G d h0 hb l0 Q s :=
  qLoop.use (E := E_X12_isDoor_2 G d h0 hb l0 Q) (fun back s hbk hw hx => bd_X12_isDoor_2 G d h0 hb l0 Q hex hnn hzz okl0 back hbk s.1 s.2 hw hx.1 hx.2.1 hx.2.2) hwp
def wp_X12_isDoor (l0 : Nat) (h : PH) (Q : Int32 → PH → Prop) : Prop := (qLoop (wp_X12_isDoor_2 l0 Q) (0, h))
set_option maxHeartbeats 4000000 in
set_option maxRecDepth 100000 in
theorem sn_X12_isDoor (G : GT) (d : Nat) (l0 : Nat) (h : PH) (Q : Int32 → PH → Prop) (okl0 : qOK h 11 l0) (hwp : wp_X12_isDoor l0 h Q) : Mt G (5 + d) 0 0 mX12_isDoor [.ref l0] h (qqb Q) := by
  unfold wp_X12_isDoor at hwp
  refine Mt.of (by decide) rfl (Nat.le_of_ble_eq_true rfl) ?_
  have hex := qEx.rf h
  have hnn : qn h = qn h + 0 := rfl
  have hzz : qz h = qz h + 0 := rfl
  refine x_lvE (lv2 := [(0, .ref l0)]) rfl ?_
  refine x_iconst (v := 0) (pc := 0) dX12_isDoor_0 (by decide) ?_
  refine x_istore_n (lv2 := [(1, .int 0), (0, .ref l0)]) (pc := 1) dX12_isDoor_1 (by decide) rfl ?_
  refine x_sub [1, 0] rfl ?_
  exact lp_X12_isDoor_2 G d h h l0 Q hex hnn hzz okl0 hwp ⟨qEx.rf _, rfl, rfl⟩

theorem dX12_isRight_0 : decode cX12_isRight 0 = .ok (.iload_n 1, 1) := by decide +kernel
theorem dX12_isRight_1 : decode cX12_isRight 1 = .ok (.tableswitch 199 0 5 #[39, 76, 123, 128, 146, 161], 39) := by decide +kernel
theorem dX12_isRight_40 : decode cX12_isRight 40 = .ok (.iconst 0, 1) := by decide +kernel
theorem dX12_isRight_41 : decode cX12_isRight 41 = .ok (.istore_n 2, 1) := by decide +kernel
theorem dX12_isRight_42 : decode cX12_isRight 42 = .ok (.iload_n 2, 1) := by decide +kernel
theorem dX12_isRight_43 : decode cX12_isRight 43 = .ok (.aload_n 0, 1) := by decide +kernel
theorem dX12_isRight_44 : decode cX12_isRight 44 = .ok (.getfield 13, 3) := by decide +kernel
theorem dX12_isRight_47 : decode cX12_isRight 47 = .ok (.iconst 0, 1) := by decide +kernel
theorem dX12_isRight_48 : decode cX12_isRight 48 = .ok (.iaload, 1) := by decide +kernel
theorem dX12_isRight_49 : decode cX12_isRight 49 = .ok (.if_icmp .ge 26, 3) := by decide +kernel
theorem dX12_isRight_52 : decode cX12_isRight 52 = .ok (.aload_n 0, 1) := by decide +kernel
theorem dX12_isRight_53 : decode cX12_isRight 53 = .ok (.iconst 3, 1) := by decide +kernel
theorem dX12_isRight_54 : decode cX12_isRight 54 = .ok (.iload_n 2, 1) := by decide +kernel
theorem dX12_isRight_55 : decode cX12_isRight 55 = .ok (.invokevirtual 366, 3) := by decide +kernel
theorem dX12_isRight_58 : decode cX12_isRight 58 = .ok (.aload_n 0, 1) := by decide +kernel
theorem dX12_isRight_59 : decode cX12_isRight 59 = .ok (.iconst 2, 1) := by decide +kernel
theorem dX12_isRight_60 : decode cX12_isRight 60 = .ok (.iload_n 2, 1) := by decide +kernel
theorem dX12_isRight_61 : decode cX12_isRight 61 = .ok (.invokevirtual 366, 3) := by decide +kernel
theorem dX12_isRight_64 : decode cX12_isRight 64 = .ok (.if_icmp .le 5, 3) := by decide +kernel
theorem dX12_isRight_67 : decode cX12_isRight 67 = .ok (.iconst 1, 1) := by decide +kernel
theorem dX12_isRight_68 : decode cX12_isRight 68 = .ok (.ireturn, 1) := by decide +kernel
theorem dX12_isRight_69 : decode cX12_isRight 69 = .ok (.iinc 2 1, 3) := by decide +kernel
theorem dX12_isRight_72 : decode cX12_isRight 72 = .ok (.goto (-30), 3) := by decide +kernel
theorem dX12_isRight_75 : decode cX12_isRight 75 = .ok (.iconst 0, 1) := by decide +kernel
theorem dX12_isRight_76 : decode cX12_isRight 76 = .ok (.ireturn, 1) := by decide +kernel
theorem dX12_isRight_77 : decode cX12_isRight 77 = .ok (.iconst 0, 1) := by decide +kernel
theorem dX12_isRight_78 : decode cX12_isRight 78 = .ok (.istore_n 2, 1) := by decide +kernel
theorem dX12_isRight_79 : decode cX12_isRight 79 = .ok (.iload_n 2, 1) := by decide +kernel
theorem dX12_isRight_80 : decode cX12_isRight 80 = .ok (.aload_n 0, 1) := by decide +kernel
theorem dX12_isRight_81 : decode cX12_isRight 81 = .ok (.getfield 19, 3) := by decide +kernel
theorem dX12_isRight_84 : decode cX12_isRight 84 = .ok (.iconst 0, 1) := by decide +kernel
theorem dX12_isRight_85 : decode cX12_isRight 85 = .ok (.iaload, 1) := by decide +kernel
theorem dX12_isRight_86 : decode cX12_isRight 86 = .ok (.if_icmp .ge 36, 3) := by decide +kernel
theorem dX12_isRight_89 : decode cX12_isRight 89 = .ok (.aload_n 0, 1) := by decide +kernel
theorem dX12_isRight_90 : decode cX12_isRight 90 = .ok (.getfield 22, 3) := by decide +kernel
theorem dX12_isRight_93 : decode cX12_isRight 93 = .ok (.iconst 0, 1) := by decide +kernel
theorem dX12_isRight_94 : decode cX12_isRight 94 = .ok (.iload_n 2, 1) := by decide +kernel
theorem dX12_isRight_95 : decode cX12_isRight 95 = .ok (.invokestatic 194, 3) := by decide +kernel
theorem dX12_isRight_98 : decode cX12_isRight 98 = .ok (.iconst 0, 1) := by decide +kernel
theorem dX12_isRight_99 : decode cX12_isRight 99 = .ok (.iadd, 1) := by decide +kernel
theorem dX12_isRight_100 : decode cX12_isRight 100 = .ok (.iaload, 1) := by decide +kernel
theorem dX12_isRight_101 : decode cX12_isRight 101 = .ok (.iconst 4, 1) := by decide +kernel
theorem dX12_isRight_102 : decode cX12_isRight 102 = .ok (.if_icmp .eq 14, 3) := by decide +kernel
theorem dX12_isRight_105 : decode cX12_isRight 105 = .ok (.aload_n 0, 1) := by decide +kernel
theorem dX12_isRight_106 : decode cX12_isRight 106 = .ok (.iload_n 2, 1) := by decide +kernel
theorem dX12_isRight_107 : decode cX12_isRight 107 = .ok (.iconst 0, 1) := by decide +kernel
theorem dX12_isRight_108 : decode cX12_isRight 108 = .ok (.invokevirtual 275, 3) := by decide +kernel
theorem dX12_isRight_111 : decode cX12_isRight 111 = .ok (.ifCond .eq 5, 3) := by decide +kernel
theorem dX12_isRight_114 : decode cX12_isRight 114 = .ok (.iconst 0, 1) := by decide +kernel
theorem dX12_isRight_115 : decode cX12_isRight 115 = .ok (.ireturn, 1) := by decide +kernel
theorem dX12_isRight_116 : decode cX12_isRight 116 = .ok (.iinc 2 1, 3) := by decide +kernel
theorem dX12_isRight_119 : decode cX12_isRight 119 = .ok (.goto (-40), 3) := by decide +kernel
theorem dX12_isRight_122 : decode cX12_isRight 122 = .ok (.iconst 1, 1) := by decide +kernel
theorem dX12_isRight_123 : decode cX12_isRight 123 = .ok (.ireturn, 1) := by decide +kernel
theorem dX12_isRight_124 : decode cX12_isRight 124 = .ok (.aload_n 0, 1) := by decide +kernel
theorem dX12_isRight_125 : decode cX12_isRight 125 = .ok (.invokevirtual 421, 3) := by decide +kernel
theorem dX12_isRight_128 : decode cX12_isRight 128 = .ok (.ireturn, 1) := by decide +kernel
theorem dX12_isRight_129 : decode cX12_isRight 129 = .ok (.aload_n 0, 1) := by decide +kernel
theorem dX12_isRight_130 : decode cX12_isRight 130 = .ok (.iconst 0, 1) := by decide +kernel
theorem dX12_isRight_131 : decode cX12_isRight 131 = .ok (.invokevirtual 299, 3) := by decide +kernel
theorem dX12_isRight_134 : decode cX12_isRight 134 = .ok (.aload_n 0, 1) := by decide +kernel
theorem dX12_isRight_135 : decode cX12_isRight 135 = .ok (.iconst 0, 1) := by decide +kernel
theorem dX12_isRight_136 : decode cX12_isRight 136 = .ok (.sipush 1000, 3) := by decide +kernel
theorem dX12_isRight_139 : decode cX12_isRight 139 = .ok (.invokevirtual 302, 3) := by decide +kernel
theorem dX12_isRight_142 : decode cX12_isRight 142 = .ok (.aload_n 0, 1) := by decide +kernel
theorem dX12_isRight_143 : decode cX12_isRight 143 = .ok (.getfield 295, 3) := by decide +kernel
theorem dX12_isRight_146 : decode cX12_isRight 146 = .ok (.ireturn, 1) := by decide +kernel
theorem dX12_isRight_147 : decode cX12_isRight 147 = .ok (.aload_n 0, 1) := by decide +kernel
theorem dX12_isRight_148 : decode cX12_isRight 148 = .ok (.getfield 16, 3) := by decide +kernel
theorem dX12_isRight_151 : decode cX12_isRight 151 = .ok (.iconst 0, 1) := by decide +kernel
theorem dX12_isRight_152 : decode cX12_isRight 152 = .ok (.iaload, 1) := by decide +kernel
theorem dX12_isRight_153 : decode cX12_isRight 153 = .ok (.ifCond .le 7, 3) := by decide +kernel
theorem dX12_isRight_156 : decode cX12_isRight 156 = .ok (.iconst 1, 1) := by decide +kernel
theorem dX12_isRight_157 : decode cX12_isRight 157 = .ok (.goto 4, 3) := by decide +kernel
theorem dX12_isRight_160 : decode cX12_isRight 160 = .ok (.iconst 0, 1) := by decide +kernel
theorem dX12_isRight_161 : decode cX12_isRight 161 = .ok (.ireturn, 1) := by decide +kernel
theorem dX12_isRight_162 : decode cX12_isRight 162 = .ok (.iconst 0, 1) := by decide +kernel
theorem dX12_isRight_163 : decode cX12_isRight 163 = .ok (.istore_n 2, 1) := by decide +kernel
theorem dX12_isRight_164 : decode cX12_isRight 164 = .ok (.iload_n 2, 1) := by decide +kernel
theorem dX12_isRight_165 : decode cX12_isRight 165 = .ok (.aload_n 0, 1) := by decide +kernel
theorem dX12_isRight_166 : decode cX12_isRight 166 = .ok (.getfield 19, 3) := by decide +kernel
theorem dX12_isRight_169 : decode cX12_isRight 169 = .ok (.iconst 0, 1) := by decide +kernel
theorem dX12_isRight_170 : decode cX12_isRight 170 = .ok (.iaload, 1) := by decide +kernel
theorem dX12_isRight_171 : decode cX12_isRight 171 = .ok (.if_icmp .ge 27, 3) := by decide +kernel
theorem dX12_isRight_174 : decode cX12_isRight 174 = .ok (.aload_n 0, 1) := by decide +kernel
theorem dX12_isRight_175 : decode cX12_isRight 175 = .ok (.getfield 22, 3) := by decide +kernel
theorem dX12_isRight_178 : decode cX12_isRight 178 = .ok (.iconst 0, 1) := by decide +kernel
theorem dX12_isRight_179 : decode cX12_isRight 179 = .ok (.iload_n 2, 1) := by decide +kernel
theorem dX12_isRight_180 : decode cX12_isRight 180 = .ok (.invokestatic 194, 3) := by decide +kernel
theorem dX12_isRight_183 : decode cX12_isRight 183 = .ok (.iconst 0, 1) := by decide +kernel
theorem dX12_isRight_184 : decode cX12_isRight 184 = .ok (.iadd, 1) := by decide +kernel
theorem dX12_isRight_185 : decode cX12_isRight 185 = .ok (.iaload, 1) := by decide +kernel
theorem dX12_isRight_186 : decode cX12_isRight 186 = .ok (.iconst 4, 1) := by decide +kernel
theorem dX12_isRight_187 : decode cX12_isRight 187 = .ok (.if_icmp .ne 5, 3) := by decide +kernel
theorem dX12_isRight_190 : decode cX12_isRight 190 = .ok (.iconst 1, 1) := by decide +kernel
theorem dX12_isRight_191 : decode cX12_isRight 191 = .ok (.ireturn, 1) := by decide +kernel
theorem dX12_isRight_192 : decode cX12_isRight 192 = .ok (.iinc 2 1, 3) := by decide +kernel
theorem dX12_isRight_195 : decode cX12_isRight 195 = .ok (.goto (-31), 3) := by decide +kernel
theorem dX12_isRight_198 : decode cX12_isRight 198 = .ok (.iconst 0, 1) := by decide +kernel
theorem dX12_isRight_199 : decode cX12_isRight 199 = .ok (.ireturn, 1) := by decide +kernel
theorem dX12_isRight_200 : decode cX12_isRight 200 = .ok (.aload_n 0, 1) := by decide +kernel
theorem dX12_isRight_201 : decode cX12_isRight 201 = .ok (.iconst 0, 1) := by decide +kernel
theorem dX12_isRight_202 : decode cX12_isRight 202 = .ok (.invokevirtual 278, 3) := by decide +kernel
theorem dX12_isRight_205 : decode cX12_isRight 205 = .ok (.ifCond .le 5, 3) := by decide +kernel
theorem dX12_isRight_208 : decode cX12_isRight 208 = .ok (.iconst 0, 1) := by decide +kernel
theorem dX12_isRight_209 : decode cX12_isRight 209 = .ok (.ireturn, 1) := by decide +kernel
theorem dX12_isRight_210 : decode cX12_isRight 210 = .ok (.iconst 1, 1) := by decide +kernel
theorem dX12_isRight_211 : decode cX12_isRight 211 = .ok (.istore_n 2, 1) := by decide +kernel
theorem dX12_isRight_212 : decode cX12_isRight 212 = .ok (.iload_n 2, 1) := by decide +kernel
theorem dX12_isRight_213 : decode cX12_isRight 213 = .ok (.bipush 32, 2) := by decide +kernel
theorem dX12_isRight_215 : decode cX12_isRight 215 = .ok (.if_icmp .ge 19, 3) := by decide +kernel
theorem dX12_isRight_218 : decode cX12_isRight 218 = .ok (.aload_n 0, 1) := by decide +kernel
theorem dX12_isRight_219 : decode cX12_isRight 219 = .ok (.iload_n 2, 1) := by decide +kernel
theorem dX12_isRight_220 : decode cX12_isRight 220 = .ok (.invokevirtual 278, 3) := by decide +kernel
theorem dX12_isRight_223 : decode cX12_isRight 223 = .ok (.ifCond .le 5, 3) := by decide +kernel
theorem dX12_isRight_226 : decode cX12_isRight 226 = .ok (.iconst 1, 1) := by decide +kernel
theorem dX12_isRight_227 : decode cX12_isRight 227 = .ok (.ireturn, 1) := by decide +kernel
theorem dX12_isRight_228 : decode cX12_isRight 228 = .ok (.iinc 2 1, 3) := by decide +kernel
theorem dX12_isRight_231 : decode cX12_isRight 231 = .ok (.goto (-19), 3) := by decide +kernel
theorem dX12_isRight_234 : decode cX12_isRight 234 = .ok (.iconst 0, 1) := by decide +kernel
theorem dX12_isRight_235 : decode cX12_isRight 235 = .ok (.ireturn, 1) := by decide +kernel
def E_X12_isRight_42 (G : GT) (d : Nat) (h0 hb : PH) (l0 : Nat) (Q : Int32 → PH → Prop) (s : Int32 × PH) : Prop := qEx hb s.2 ∧ qn s.2 = qn hb ∧ qz s.2 = qz hb → Ex G (qrm (7 + d) 0 0) mX12_isRight (qn h0) (qz h0) (ZN G h0 0 0 (qqb Q)) 42 [(0, .ref l0), (2, .int s.1)] [] s.2
def E_X12_isRight_79 (G : GT) (d : Nat) (h0 hb : PH) (l0 : Nat) (Q : Int32 → PH → Prop) (s : Int32 × PH) : Prop := qEx hb s.2 ∧ qn s.2 = qn hb ∧ qz s.2 = qz hb → Ex G (qrm (7 + d) 0 0) mX12_isRight (qn h0) (qz h0) (ZN G h0 0 0 (qqb Q)) 79 [(0, .ref l0), (2, .int s.1)] [] s.2
def E_X12_isRight_164 (G : GT) (d : Nat) (h0 hb : PH) (l0 : Nat) (Q : Int32 → PH → Prop) (s : Int32 × PH) : Prop := qEx hb s.2 ∧ qn s.2 = qn hb ∧ qz s.2 = qz hb → Ex G (qrm (7 + d) 0 0) mX12_isRight (qn h0) (qz h0) (ZN G h0 0 0 (qqb Q)) 164 [(0, .ref l0), (2, .int s.1)] [] s.2
def E_X12_isRight_212 (G : GT) (d : Nat) (h0 hb : PH) (l0 : Nat) (Q : Int32 → PH → Prop) (s : Int32 × PH) : Prop := qEx hb s.2 ∧ qn s.2 = qn hb ∧ qz s.2 = qz hb → Ex G (qrm (7 + d) 0 0) mX12_isRight (qn h0) (qz h0) (ZN G h0 0 0 (qqb Q)) 212 [(0, .ref l0), (2, .int s.1)] [] s.2
def wb_X12_isRight_42 (l0 : Nat)  (Q : Int32 → PH → Prop) (bk42 : Int32 × PH → Prop) (l2 : Int32) (h : PH) : Prop := (∃ b22, qR h l0 14 = some b22 ∧ (vp_in 0 (qL h b22) ∧ (((qI h b22 (0 : Int32).toNatClampNeg) ≤ l2 → Q 0 h) ∧ (¬ ((qI h b22 (0 : Int32).toNatClampNeg) ≤ l2) → (wp_X12_valueAt l0 3 l2 h (fun r27 h26 => (wp_X12_valueAt l0 2 l2 h26 (fun r29 h28 => ((r27 ≤ r29 → ∀ v31 : Int32, v31 = l2 + 1 → bk42 (v31, h28)) ∧ (¬ (r27 ≤ r29) → Q 1 h28))))))))))
def wp_X12_isRight_42 (l0 : Nat)  (Q : Int32 → PH → Prop) (bk42 : Int32 × PH → Prop) (s : Int32 × PH) : Prop := wb_X12_isRight_42 l0 Q bk42 s.1 s.2
set_option maxHeartbeats 4000000 in
set_option maxRecDepth 100000 in
theorem bd_X12_isRight_42 (G : GT) (d : Nat) (h0 hb : PH) (l0 : Nat) (Q : Int32 → PH → Prop)  (hex : qEx h0 hb) (hnn : qn hb = qn h0 + 0) (hzz : qz hb = qz h0 + 0) (okl0 : qOK hb 11 l0) (bk42 : Int32 × PH → Prop) (hbk42 : ∀ s2, bk42 s2 → E_X12_isRight_42 G d h0 hb l0 Q s2) (l2 : Int32) (h : PH) (hwp : wb_X12_isRight_42 l0 Q bk42 l2 h) (hx42 : qEx hb h) (hn42 : qn h = qn hb) (hz42 : qz h = qz hb) : Ex G (qrm (7 + d) 0 0) mX12_isRight (qn h0) (qz h0) (ZN G h0 0 0 (qqb Q)) 42 [(0, .ref l0), (2, .int l2)] [] h := by
  unfold wb_X12_isRight_42 at hwp
  have hex := hex.tr hx42
  have hnn := hn42.trans hnn
  have hzz := hz42.trans hzz
  have okl0 := okl0.ex hx42
  refine x_iload_n (pc := 42) dX12_isRight_42 rfl ?_
  refine x_aload_n (pc := 43) dX12_isRight_43 rfl ?_
  obtain ⟨b22, e23, hwp⟩ := hwp
  refine x_getR (pc := 44) dX12_isRight_44 qRX12_13 okl0 e23 (fun okb22 => ?_)
  refine x_iconst (v := 0) (pc := 47) dX12_isRight_47 (by decide) ?_
  obtain ⟨i24, hwp⟩ := hwp
  refine x_iaload (pc := 48) dX12_isRight_48 okb22 i24 ?_
  refine x_icmp_ge (tgt := 75) (pc := 49) dX12_isRight_49 (by decide) (fun c25 => ?_) (fun c25 => ?_)
  · have hwp := hwp.1 c25
    refine x_iconst (v := 0) (pc := 75) dX12_isRight_75 (by decide) ?_
    exact x_zret (pc := 76) dX12_isRight_76 rfl hex hnn hzz (by decide) ⟨_, rfl, by decide, hwp⟩
  · have hwp := hwp.2 c25
    refine x_aload_n (pc := 52) dX12_isRight_52 rfl ?_
    refine x_iconst (v := 3) (pc := 53) dX12_isRight_53 (by decide) ?_
    refine x_iload_n (pc := 54) dX12_isRight_54 rfl ?_
    refine x_invV (As := [.int 3, .int l2]) (st := []) (pc := 55) dX12_isRight_55 lRX12_366 fX12_valueAt vX12_valueAt okl0 rfl (Nat.le_of_ble_eq_true rfl) (q_R (by omega) (by decide)) (q_C hnn hzz (by decide) (by decide)) (sn_X12_valueAt G (d + 1) l0 3 l2 h _ okl0 hwp) (k_i (fun r27 h26 hwp cxh26 => ?_))
    have hex := hex.tr cxh26.1
    have hnn : qn h26 = qn h0 + 0 := by have := cxh26.2.1; omega
    have hzz : qz h26 = qz h0 + 0 := by have := cxh26.2.2; omega
    have hx42 := hx42.tr cxh26.1
    have hn42 : qn h26 = qn hb := by have := cxh26.2.1; omega
    have hz42 : qz h26 = qz hb := by have := cxh26.2.2; omega
    have okl0 := okl0.ex cxh26.1
    have okb22 := okb22.ex cxh26.1
    refine x_aload_n (pc := 58) dX12_isRight_58 rfl ?_
    refine x_iconst (v := 2) (pc := 59) dX12_isRight_59 (by decide) ?_
    refine x_iload_n (pc := 60) dX12_isRight_60 rfl ?_
    refine x_invV (As := [.int 2, .int l2]) (st := [.int r27]) (pc := 61) dX12_isRight_61 lRX12_366 fX12_valueAt vX12_valueAt okl0 rfl (Nat.le_of_ble_eq_true rfl) (q_R (by omega) (by decide)) (q_C hnn hzz (by decide) (by decide)) (sn_X12_valueAt G (d + 1) l0 2 l2 h26 _ okl0 hwp) (k_i (fun r29 h28 hwp cxh28 => ?_))
    have hex := hex.tr cxh28.1
    have hnn : qn h28 = qn h0 + 0 := by have := cxh28.2.1; omega
    have hzz : qz h28 = qz h0 + 0 := by have := cxh28.2.2; omega
    have hx42 := hx42.tr cxh28.1
    have hn42 : qn h28 = qn hb := by have := cxh28.2.1; omega
    have hz42 : qz h28 = qz hb := by have := cxh28.2.2; omega
    have okl0 := okl0.ex cxh28.1
    have okb22 := okb22.ex cxh28.1
    refine x_icmp_le (tgt := 69) (pc := 64) dX12_isRight_64 (by decide) (fun c30 => ?_) (fun c30 => ?_)
    · have hwp := hwp.1 c30
      refine y_iinc (c := 1) (pc := 69) dX12_isRight_69 rfl (by decide) (by decide) (fun v31 ev31 => ?_)
      have hwp := hwp v31 ev31
      refine x_lvE (lv2 := [(2, .int v31), (0, .ref l0)]) rfl ?_
      refine x_goto (tgt := 42) (pc := 72) dX12_isRight_72 (by decide) ?_
      refine x_sub [1, 0] rfl ?_
      exact hbk42 _ hwp ⟨hx42, hn42, hz42⟩
    · have hwp := hwp.2 c30
      refine x_iconst (v := 1) (pc := 67) dX12_isRight_67 (by decide) ?_
      exact x_zret (pc := 68) dX12_isRight_68 rfl hex hnn hzz (by decide) ⟨_, rfl, by decide, hwp⟩
theorem lp_X12_isRight_42 (G : GT) (d : Nat) (h0 hb : PH) (l0 : Nat) (Q : Int32 → PH → Prop)  (hex : qEx h0 hb) (hnn : qn hb = qn h0 + 0) (hzz : qz hb = qz h0 + 0) (okl0 : qOK hb 11 l0) {s : Int32 × PH} (hwp : qLoop (wp_X12_isRight_42 l0 Q) s) : E_X12_isRight_42 G d h0 hb l0 Q s :=
  qLoop.use (E := E_X12_isRight_42 G d h0 hb l0 Q) (fun back s hbk hw hx => bd_X12_isRight_42 G d h0 hb l0 Q hex hnn hzz okl0 back hbk s.1 s.2 hw hx.1 hx.2.1 hx.2.2) hwp
def wb_X12_isRight_79 (l0 : Nat)  (Q : Int32 → PH → Prop) (bk79 : Int32 × PH → Prop) (l2 : Int32) (h : PH) : Prop := (∃ b32, qR h l0 16 = some b32 ∧ (vp_in 0 (qL h b32) ∧ (((qI h b32 (0 : Int32).toNatClampNeg) ≤ l2 → Q 1 h) ∧ (¬ ((qI h b32 (0 : Int32).toNatClampNeg) ≤ l2) → (∃ b36, qR h l0 17 = some b36 ∧ (wp_X12_slot 0 l2 h (fun r39 h38 => (vp_in (r39 + 0) (qL h38 b36) ∧ (((qI h38 b36 (r39 + 0).toNatClampNeg) = 4 → ∀ v42 : Int32, v42 = l2 + 1 → bk79 (v42, h38)) ∧ (¬ ((qI h38 b36 (r39 + 0).toNatClampNeg) = 4) → (wp_X12_sumOf l0 l2 0 h38 (fun r44 h43 => ((r44 = 0 → ∀ v46 : Int32, v46 = l2 + 1 → bk79 (v46, h43)) ∧ (¬ (r44 = 0) → Q 0 h43))))))))))))))
def wp_X12_isRight_79 (l0 : Nat)  (Q : Int32 → PH → Prop) (bk79 : Int32 × PH → Prop) (s : Int32 × PH) : Prop := wb_X12_isRight_79 l0 Q bk79 s.1 s.2
set_option maxHeartbeats 4000000 in
set_option maxRecDepth 100000 in
theorem bd_X12_isRight_79 (G : GT) (d : Nat) (h0 hb : PH) (l0 : Nat) (Q : Int32 → PH → Prop)  (hex : qEx h0 hb) (hnn : qn hb = qn h0 + 0) (hzz : qz hb = qz h0 + 0) (okl0 : qOK hb 11 l0) (bk79 : Int32 × PH → Prop) (hbk79 : ∀ s2, bk79 s2 → E_X12_isRight_79 G d h0 hb l0 Q s2) (l2 : Int32) (h : PH) (hwp : wb_X12_isRight_79 l0 Q bk79 l2 h) (hx79 : qEx hb h) (hn79 : qn h = qn hb) (hz79 : qz h = qz hb) : Ex G (qrm (7 + d) 0 0) mX12_isRight (qn h0) (qz h0) (ZN G h0 0 0 (qqb Q)) 79 [(0, .ref l0), (2, .int l2)] [] h := by
  unfold wb_X12_isRight_79 at hwp
  have hex := hex.tr hx79
  have hnn := hn79.trans hnn
  have hzz := hz79.trans hzz
  have okl0 := okl0.ex hx79
  refine x_iload_n (pc := 79) dX12_isRight_79 rfl ?_
  refine x_aload_n (pc := 80) dX12_isRight_80 rfl ?_
  obtain ⟨b32, e33, hwp⟩ := hwp
  refine x_getR (pc := 81) dX12_isRight_81 qRX12_19 okl0 e33 (fun okb32 => ?_)
  refine x_iconst (v := 0) (pc := 84) dX12_isRight_84 (by decide) ?_
  obtain ⟨i34, hwp⟩ := hwp
  refine x_iaload (pc := 85) dX12_isRight_85 okb32 i34 ?_
  refine x_icmp_ge (tgt := 122) (pc := 86) dX12_isRight_86 (by decide) (fun c35 => ?_) (fun c35 => ?_)
  · have hwp := hwp.1 c35
    refine x_iconst (v := 1) (pc := 122) dX12_isRight_122 (by decide) ?_
    exact x_zret (pc := 123) dX12_isRight_123 rfl hex hnn hzz (by decide) ⟨_, rfl, by decide, hwp⟩
  · have hwp := hwp.2 c35
    refine x_aload_n (pc := 89) dX12_isRight_89 rfl ?_
    obtain ⟨b36, e37, hwp⟩ := hwp
    refine x_getR (pc := 90) dX12_isRight_90 qRX12_22 okl0 e37 (fun okb36 => ?_)
    refine x_iconst (v := 0) (pc := 93) dX12_isRight_93 (by decide) ?_
    refine x_iload_n (pc := 94) dX12_isRight_94 rfl ?_
    refine x_invS (As := [.int 0, .int l2]) (st := [.ref b36]) (pc := 95) dX12_isRight_95 lRX12_194 fX12_slot sX12_slot rfl (Nat.le_of_ble_eq_true rfl) (q_R (by omega) (by decide)) (q_C hnn hzz (by decide) (by decide)) (sn_X12_slot G (d + 6) 0 l2 h _  hwp) (k_i (fun r39 h38 hwp cxh38 => ?_))
    have hex := hex.tr cxh38.1
    have hnn : qn h38 = qn h0 + 0 := by have := cxh38.2.1; omega
    have hzz : qz h38 = qz h0 + 0 := by have := cxh38.2.2; omega
    have hx79 := hx79.tr cxh38.1
    have hn79 : qn h38 = qn hb := by have := cxh38.2.1; omega
    have hz79 : qz h38 = qz hb := by have := cxh38.2.2; omega
    have okl0 := okl0.ex cxh38.1
    have okb32 := okb32.ex cxh38.1
    have okb36 := okb36.ex cxh38.1
    refine x_iconst (v := 0) (pc := 98) dX12_isRight_98 (by decide) ?_
    refine x_iadd (pc := 99) dX12_isRight_99 ?_
    obtain ⟨i40, hwp⟩ := hwp
    refine x_iaload (pc := 100) dX12_isRight_100 okb36 i40 ?_
    refine x_iconst (v := 4) (pc := 101) dX12_isRight_101 (by decide) ?_
    refine x_icmp_eq (tgt := 116) (pc := 102) dX12_isRight_102 (by decide) (fun c41 => ?_) (fun c41 => ?_)
    · have hwp := hwp.1 c41
      refine y_iinc (c := 1) (pc := 116) dX12_isRight_116 rfl (by decide) (by decide) (fun v42 ev42 => ?_)
      have hwp := hwp v42 ev42
      refine x_lvE (lv2 := [(2, .int v42), (0, .ref l0)]) rfl ?_
      refine x_goto (tgt := 79) (pc := 119) dX12_isRight_119 (by decide) ?_
      refine x_sub [1, 0] rfl ?_
      exact hbk79 _ hwp ⟨hx79, hn79, hz79⟩
    · have hwp := hwp.2 c41
      refine x_aload_n (pc := 105) dX12_isRight_105 rfl ?_
      refine x_iload_n (pc := 106) dX12_isRight_106 rfl ?_
      refine x_iconst (v := 0) (pc := 107) dX12_isRight_107 (by decide) ?_
      refine x_invV (As := [.int l2, .int 0]) (st := []) (pc := 108) dX12_isRight_108 lRX12_275 fX12_sumOf vX12_sumOf okl0 rfl (Nat.le_of_ble_eq_true rfl) (q_R (by omega) (by decide)) (q_C hnn hzz (by decide) (by decide)) (sn_X12_sumOf G (d + 1) l0 l2 0 h38 _ okl0 hwp) (k_i (fun r44 h43 hwp cxh43 => ?_))
      have hex := hex.tr cxh43.1
      have hnn : qn h43 = qn h0 + 0 := by have := cxh43.2.1; omega
      have hzz : qz h43 = qz h0 + 0 := by have := cxh43.2.2; omega
      have hx79 := hx79.tr cxh43.1
      have hn79 : qn h43 = qn hb := by have := cxh43.2.1; omega
      have hz79 : qz h43 = qz hb := by have := cxh43.2.2; omega
      have okl0 := okl0.ex cxh43.1
      have okb32 := okb32.ex cxh43.1
      have okb36 := okb36.ex cxh43.1
      refine x_if_eq (tgt := 116) (pc := 111) dX12_isRight_111 (by decide) (fun c45 => ?_) (fun c45 => ?_)
      · have hwp := hwp.1 c45
        refine y_iinc (c := 1) (pc := 116) dX12_isRight_116 rfl (by decide) (by decide) (fun v46 ev46 => ?_)
        have hwp := hwp v46 ev46
        refine x_lvE (lv2 := [(2, .int v46), (0, .ref l0)]) rfl ?_
        refine x_goto (tgt := 79) (pc := 119) dX12_isRight_119 (by decide) ?_
        refine x_sub [1, 0] rfl ?_
        exact hbk79 _ hwp ⟨hx79, hn79, hz79⟩
      · have hwp := hwp.2 c45
        refine x_iconst (v := 0) (pc := 114) dX12_isRight_114 (by decide) ?_
        exact x_zret (pc := 115) dX12_isRight_115 rfl hex hnn hzz (by decide) ⟨_, rfl, by decide, hwp⟩
theorem lp_X12_isRight_79 (G : GT) (d : Nat) (h0 hb : PH) (l0 : Nat) (Q : Int32 → PH → Prop)  (hex : qEx h0 hb) (hnn : qn hb = qn h0 + 0) (hzz : qz hb = qz h0 + 0) (okl0 : qOK hb 11 l0) {s : Int32 × PH} (hwp : qLoop (wp_X12_isRight_79 l0 Q) s) : E_X12_isRight_79 G d h0 hb l0 Q s :=
  qLoop.use (E := E_X12_isRight_79 G d h0 hb l0 Q) (fun back s hbk hw hx => bd_X12_isRight_79 G d h0 hb l0 Q hex hnn hzz okl0 back hbk s.1 s.2 hw hx.1 hx.2.1 hx.2.2) hwp
def wb_X12_isRight_164 (l0 : Nat)  (Q : Int32 → PH → Prop) (bk164 : Int32 × PH → Prop) (l2 : Int32) (h : PH) : Prop := (∃ b47, qR h l0 16 = some b47 ∧ (vp_in 0 (qL h b47) ∧ (((qI h b47 (0 : Int32).toNatClampNeg) ≤ l2 → Q 0 h) ∧ (¬ ((qI h b47 (0 : Int32).toNatClampNeg) ≤ l2) → (∃ b51, qR h l0 17 = some b51 ∧ (wp_X12_slot 0 l2 h (fun r54 h53 => (vp_in (r54 + 0) (qL h53 b51) ∧ ((¬ (qI h53 b51 (r54 + 0).toNatClampNeg) = 4 → ∀ v57 : Int32, v57 = l2 + 1 → bk164 (v57, h53)) ∧ ((qI h53 b51 (r54 + 0).toNatClampNeg) = 4 → Q 1 h53))))))))))
def wp_X12_isRight_164 (l0 : Nat)  (Q : Int32 → PH → Prop) (bk164 : Int32 × PH → Prop) (s : Int32 × PH) : Prop := wb_X12_isRight_164 l0 Q bk164 s.1 s.2
set_option maxHeartbeats 4000000 in
set_option maxRecDepth 100000 in
theorem bd_X12_isRight_164 (G : GT) (d : Nat) (h0 hb : PH) (l0 : Nat) (Q : Int32 → PH → Prop)  (hex : qEx h0 hb) (hnn : qn hb = qn h0 + 0) (hzz : qz hb = qz h0 + 0) (okl0 : qOK hb 11 l0) (bk164 : Int32 × PH → Prop) (hbk164 : ∀ s2, bk164 s2 → E_X12_isRight_164 G d h0 hb l0 Q s2) (l2 : Int32) (h : PH) (hwp : wb_X12_isRight_164 l0 Q bk164 l2 h) (hx164 : qEx hb h) (hn164 : qn h = qn hb) (hz164 : qz h = qz hb) : Ex G (qrm (7 + d) 0 0) mX12_isRight (qn h0) (qz h0) (ZN G h0 0 0 (qqb Q)) 164 [(0, .ref l0), (2, .int l2)] [] h := by
  unfold wb_X12_isRight_164 at hwp
  have hex := hex.tr hx164
  have hnn := hn164.trans hnn
  have hzz := hz164.trans hzz
  have okl0 := okl0.ex hx164
  refine x_iload_n (pc := 164) dX12_isRight_164 rfl ?_
  refine x_aload_n (pc := 165) dX12_isRight_165 rfl ?_
  obtain ⟨b47, e48, hwp⟩ := hwp
  refine x_getR (pc := 166) dX12_isRight_166 qRX12_19 okl0 e48 (fun okb47 => ?_)
  refine x_iconst (v := 0) (pc := 169) dX12_isRight_169 (by decide) ?_
  obtain ⟨i49, hwp⟩ := hwp
  refine x_iaload (pc := 170) dX12_isRight_170 okb47 i49 ?_
  refine x_icmp_ge (tgt := 198) (pc := 171) dX12_isRight_171 (by decide) (fun c50 => ?_) (fun c50 => ?_)
  · have hwp := hwp.1 c50
    refine x_iconst (v := 0) (pc := 198) dX12_isRight_198 (by decide) ?_
    exact x_zret (pc := 199) dX12_isRight_199 rfl hex hnn hzz (by decide) ⟨_, rfl, by decide, hwp⟩
  · have hwp := hwp.2 c50
    refine x_aload_n (pc := 174) dX12_isRight_174 rfl ?_
    obtain ⟨b51, e52, hwp⟩ := hwp
    refine x_getR (pc := 175) dX12_isRight_175 qRX12_22 okl0 e52 (fun okb51 => ?_)
    refine x_iconst (v := 0) (pc := 178) dX12_isRight_178 (by decide) ?_
    refine x_iload_n (pc := 179) dX12_isRight_179 rfl ?_
    refine x_invS (As := [.int 0, .int l2]) (st := [.ref b51]) (pc := 180) dX12_isRight_180 lRX12_194 fX12_slot sX12_slot rfl (Nat.le_of_ble_eq_true rfl) (q_R (by omega) (by decide)) (q_C hnn hzz (by decide) (by decide)) (sn_X12_slot G (d + 6) 0 l2 h _  hwp) (k_i (fun r54 h53 hwp cxh53 => ?_))
    have hex := hex.tr cxh53.1
    have hnn : qn h53 = qn h0 + 0 := by have := cxh53.2.1; omega
    have hzz : qz h53 = qz h0 + 0 := by have := cxh53.2.2; omega
    have hx164 := hx164.tr cxh53.1
    have hn164 : qn h53 = qn hb := by have := cxh53.2.1; omega
    have hz164 : qz h53 = qz hb := by have := cxh53.2.2; omega
    have okl0 := okl0.ex cxh53.1
    have okb47 := okb47.ex cxh53.1
    have okb51 := okb51.ex cxh53.1
    refine x_iconst (v := 0) (pc := 183) dX12_isRight_183 (by decide) ?_
    refine x_iadd (pc := 184) dX12_isRight_184 ?_
    obtain ⟨i55, hwp⟩ := hwp
    refine x_iaload (pc := 185) dX12_isRight_185 okb51 i55 ?_
    refine x_iconst (v := 4) (pc := 186) dX12_isRight_186 (by decide) ?_
    refine x_icmp_ne (tgt := 192) (pc := 187) dX12_isRight_187 (by decide) (fun c56 => ?_) (fun c56 => ?_)
    · have hwp := hwp.1 c56
      refine y_iinc (c := 1) (pc := 192) dX12_isRight_192 rfl (by decide) (by decide) (fun v57 ev57 => ?_)
      have hwp := hwp v57 ev57
      refine x_lvE (lv2 := [(2, .int v57), (0, .ref l0)]) rfl ?_
      refine x_goto (tgt := 164) (pc := 195) dX12_isRight_195 (by decide) ?_
      refine x_sub [1, 0] rfl ?_
      exact hbk164 _ hwp ⟨hx164, hn164, hz164⟩
    · have hwp := hwp.2 c56
      refine x_iconst (v := 1) (pc := 190) dX12_isRight_190 (by decide) ?_
      exact x_zret (pc := 191) dX12_isRight_191 rfl hex hnn hzz (by decide) ⟨_, rfl, by decide, hwp⟩
theorem lp_X12_isRight_164 (G : GT) (d : Nat) (h0 hb : PH) (l0 : Nat) (Q : Int32 → PH → Prop)  (hex : qEx h0 hb) (hnn : qn hb = qn h0 + 0) (hzz : qz hb = qz h0 + 0) (okl0 : qOK hb 11 l0) {s : Int32 × PH} (hwp : qLoop (wp_X12_isRight_164 l0 Q) s) : E_X12_isRight_164 G d h0 hb l0 Q s :=
  qLoop.use (E := E_X12_isRight_164 G d h0 hb l0 Q) (fun back s hbk hw hx => bd_X12_isRight_164 G d h0 hb l0 Q hex hnn hzz okl0 back hbk s.1 s.2 hw hx.1 hx.2.1 hx.2.2) hwp
def wb_X12_isRight_212 (l0 : Nat)  (Q : Int32 → PH → Prop) (bk212 : Int32 × PH → Prop) (l2 : Int32) (h : PH) : Prop := ((32 ≤ l2 → Q 0 h) ∧ (¬ (32 ≤ l2) → (wp_X12_whole l0 l2 h (fun r60 h59 => ((r60 ≤ 0 → ∀ v62 : Int32, v62 = l2 + 1 → bk212 (v62, h59)) ∧ (¬ (r60 ≤ 0) → Q 1 h59))))))
def wp_X12_isRight_212 (l0 : Nat)  (Q : Int32 → PH → Prop) (bk212 : Int32 × PH → Prop) (s : Int32 × PH) : Prop := wb_X12_isRight_212 l0 Q bk212 s.1 s.2
set_option maxHeartbeats 4000000 in
set_option maxRecDepth 100000 in
theorem bd_X12_isRight_212 (G : GT) (d : Nat) (h0 hb : PH) (l0 : Nat) (Q : Int32 → PH → Prop)  (hex : qEx h0 hb) (hnn : qn hb = qn h0 + 0) (hzz : qz hb = qz h0 + 0) (okl0 : qOK hb 11 l0) (bk212 : Int32 × PH → Prop) (hbk212 : ∀ s2, bk212 s2 → E_X12_isRight_212 G d h0 hb l0 Q s2) (l2 : Int32) (h : PH) (hwp : wb_X12_isRight_212 l0 Q bk212 l2 h) (hx212 : qEx hb h) (hn212 : qn h = qn hb) (hz212 : qz h = qz hb) : Ex G (qrm (7 + d) 0 0) mX12_isRight (qn h0) (qz h0) (ZN G h0 0 0 (qqb Q)) 212 [(0, .ref l0), (2, .int l2)] [] h := by
  unfold wb_X12_isRight_212 at hwp
  have hex := hex.tr hx212
  have hnn := hn212.trans hnn
  have hzz := hz212.trans hzz
  have okl0 := okl0.ex hx212
  refine x_iload_n (pc := 212) dX12_isRight_212 rfl ?_
  refine x_bipush (v := 32) (pc := 213) dX12_isRight_213 (by decide) ?_
  refine x_icmp_ge (tgt := 234) (pc := 215) dX12_isRight_215 (by decide) (fun c58 => ?_) (fun c58 => ?_)
  · have hwp := hwp.1 c58
    refine x_iconst (v := 0) (pc := 234) dX12_isRight_234 (by decide) ?_
    exact x_zret (pc := 235) dX12_isRight_235 rfl hex hnn hzz (by decide) ⟨_, rfl, by decide, hwp⟩
  · have hwp := hwp.2 c58
    refine x_aload_n (pc := 218) dX12_isRight_218 rfl ?_
    refine x_iload_n (pc := 219) dX12_isRight_219 rfl ?_
    refine x_invV (As := [.int l2]) (st := []) (pc := 220) dX12_isRight_220 lRX12_278 fX12_whole vX12_whole okl0 rfl (Nat.le_of_ble_eq_true rfl) (q_R (by omega) (by decide)) (q_C hnn hzz (by decide) (by decide)) (sn_X12_whole G (d + 0) l0 l2 h _ okl0 hwp) (k_i (fun r60 h59 hwp cxh59 => ?_))
    have hex := hex.tr cxh59.1
    have hnn : qn h59 = qn h0 + 0 := by have := cxh59.2.1; omega
    have hzz : qz h59 = qz h0 + 0 := by have := cxh59.2.2; omega
    have hx212 := hx212.tr cxh59.1
    have hn212 : qn h59 = qn hb := by have := cxh59.2.1; omega
    have hz212 : qz h59 = qz hb := by have := cxh59.2.2; omega
    have okl0 := okl0.ex cxh59.1
    refine x_if_le (tgt := 228) (pc := 223) dX12_isRight_223 (by decide) (fun c61 => ?_) (fun c61 => ?_)
    · have hwp := hwp.1 c61
      refine y_iinc (c := 1) (pc := 228) dX12_isRight_228 rfl (by decide) (by decide) (fun v62 ev62 => ?_)
      have hwp := hwp v62 ev62
      refine x_lvE (lv2 := [(2, .int v62), (0, .ref l0)]) rfl ?_
      refine x_goto (tgt := 212) (pc := 231) dX12_isRight_231 (by decide) ?_
      refine x_sub [1, 0] rfl ?_
      exact hbk212 _ hwp ⟨hx212, hn212, hz212⟩
    · have hwp := hwp.2 c61
      refine x_iconst (v := 1) (pc := 226) dX12_isRight_226 (by decide) ?_
      exact x_zret (pc := 227) dX12_isRight_227 rfl hex hnn hzz (by decide) ⟨_, rfl, by decide, hwp⟩
theorem lp_X12_isRight_212 (G : GT) (d : Nat) (h0 hb : PH) (l0 : Nat) (Q : Int32 → PH → Prop)  (hex : qEx h0 hb) (hnn : qn hb = qn h0 + 0) (hzz : qz hb = qz h0 + 0) (okl0 : qOK hb 11 l0) {s : Int32 × PH} (hwp : qLoop (wp_X12_isRight_212 l0 Q) s) : E_X12_isRight_212 G d h0 hb l0 Q s :=
  qLoop.use (E := E_X12_isRight_212 G d h0 hb l0 Q) (fun back s hbk hw hx => bd_X12_isRight_212 G d h0 hb l0 Q hex hnn hzz okl0 back hbk s.1 s.2 hw hx.1 hx.2.1 hx.2.2) hwp
def wp_X12_isRight (l0 : Nat) (l1 : Int32) (h : PH) (Q : Int32 → PH → Prop) : Prop := ((l1 = 0 → (qLoop (wp_X12_isRight_42 l0 Q) (0, h))) ∧ (l1 = 1 → (qLoop (wp_X12_isRight_79 l0 Q) (0, h))) ∧ (l1 = 2 → (wp_X12_isDoor l0 h (fun r5 h4 => ((r5 = 0 ∨ r5 = 1) ∧ Q r5 h4)))) ∧ (l1 = 3 → (wp_X12_layWorld l0 0 h (fun h8 => (wp_X12_play l0 0 1000 h8 (fun h10 => ((qI h10 l0 28 = 0 ∨ qI h10 l0 28 = 1) ∧ Q (qI h10 l0 28) h10)))))) ∧ (l1 = 4 → (∃ b14, qR h l0 15 = some b14 ∧ (vp_in 0 (qL h b14) ∧ (((qI h b14 (0 : Int32).toNatClampNeg) ≤ 0 → Q 0 h) ∧ (¬ ((qI h b14 (0 : Int32).toNatClampNeg) ≤ 0) → Q 1 h))))) ∧ (l1 = 5 → (qLoop (wp_X12_isRight_164 l0 Q) (0, h))) ∧ (¬ l1 = 0 → ¬ l1 = 1 → ¬ l1 = 2 → ¬ l1 = 3 → ¬ l1 = 4 → ¬ l1 = 5 → (wp_X12_whole l0 0 h (fun r20 h19 => ((r20 ≤ 0 → (qLoop (wp_X12_isRight_212 l0 Q) (1, h19))) ∧ (¬ (r20 ≤ 0) → Q 0 h19))))))
set_option maxHeartbeats 4000000 in
set_option maxRecDepth 100000 in
theorem sn_X12_isRight (G : GT) (d : Nat) (l0 : Nat) (l1 : Int32) (h : PH) (Q : Int32 → PH → Prop) (okl0 : qOK h 11 l0) (hwp : wp_X12_isRight l0 l1 h Q) : Mt G (7 + d) 0 0 mX12_isRight [.ref l0, .int l1] h (qqb Q) := by
  unfold wp_X12_isRight at hwp
  refine Mt.of (by decide) rfl (Nat.le_of_ble_eq_true rfl) ?_
  have hex := qEx.rf h
  have hnn : qn h = qn h + 0 := rfl
  have hzz : qz h = qz h + 0 := rfl
  refine x_lvE (lv2 := [(0, .ref l0), (1, .int l1)]) rfl ?_
  refine x_iload_n (pc := 0) dX12_isRight_0 rfl ?_
  by_cases c1 : l1 = 0
  · have hwp := hwp.1 c1
    refine x_tabIn (tgt := 40) (pc := 1) dX12_isRight_1 (by rw [q_teq c1 (n := 0) (by decide)]; decide) (by rw [q_teq c1 (n := 0) (by decide)]; decide) (by rw [q_teq c1 (n := 0) (by decide)]; rfl) (by decide) ?_
    refine x_iconst (v := 0) (pc := 40) dX12_isRight_40 (by decide) ?_
    refine x_istore_n (lv2 := [(2, .int 0), (0, .ref l0), (1, .int l1)]) (pc := 41) dX12_isRight_41 (by decide) rfl ?_
    refine x_sub [1, 0] rfl ?_
    exact lp_X12_isRight_42 G d h h l0 Q hex hnn hzz okl0 hwp ⟨qEx.rf _, rfl, rfl⟩
  by_cases c2 : l1 = 1
  · have hwp := hwp.2.1 c2
    refine x_tabIn (tgt := 77) (pc := 1) dX12_isRight_1 (by rw [q_teq c2 (n := 1) (by decide)]; decide) (by rw [q_teq c2 (n := 1) (by decide)]; decide) (by rw [q_teq c2 (n := 1) (by decide)]; rfl) (by decide) ?_
    refine x_iconst (v := 0) (pc := 77) dX12_isRight_77 (by decide) ?_
    refine x_istore_n (lv2 := [(2, .int 0), (0, .ref l0), (1, .int l1)]) (pc := 78) dX12_isRight_78 (by decide) rfl ?_
    refine x_sub [1, 0] rfl ?_
    exact lp_X12_isRight_79 G d h h l0 Q hex hnn hzz okl0 hwp ⟨qEx.rf _, rfl, rfl⟩
  by_cases c3 : l1 = 2
  · have hwp := hwp.2.2.1 c3
    refine x_tabIn (tgt := 124) (pc := 1) dX12_isRight_1 (by rw [q_teq c3 (n := 2) (by decide)]; decide) (by rw [q_teq c3 (n := 2) (by decide)]; decide) (by rw [q_teq c3 (n := 2) (by decide)]; rfl) (by decide) ?_
    refine x_aload_n (pc := 124) dX12_isRight_124 rfl ?_
    refine x_invV (As := []) (st := []) (pc := 125) dX12_isRight_125 lRX12_421 fX12_isDoor vX12_isDoor okl0 rfl (Nat.le_of_ble_eq_true rfl) (q_R (by omega) (by decide)) (q_C hnn hzz (by decide) (by decide)) (sn_X12_isDoor G (d + 1) l0 h _ okl0 hwp) (k_b (fun r5 h4 hwp zbr5 cxh4 => ?_))
    have hex := hex.tr cxh4.1
    have hnn : qn h4 = qn h + 0 := by have := cxh4.2.1; omega
    have hzz : qz h4 = qz h + 0 := by have := cxh4.2.2; omega
    have okl0 := okl0.ex cxh4.1
    exact x_zret (pc := 128) dX12_isRight_128 rfl hex hnn hzz hwp.1 ⟨_, rfl, hwp.1, hwp.2⟩
  by_cases c7 : l1 = 3
  · have hwp := hwp.2.2.2.1 c7
    refine x_tabIn (tgt := 129) (pc := 1) dX12_isRight_1 (by rw [q_teq c7 (n := 3) (by decide)]; decide) (by rw [q_teq c7 (n := 3) (by decide)]; decide) (by rw [q_teq c7 (n := 3) (by decide)]; rfl) (by decide) ?_
    refine x_aload_n (pc := 129) dX12_isRight_129 rfl ?_
    refine x_iconst (v := 0) (pc := 130) dX12_isRight_130 (by decide) ?_
    refine x_invV (As := [.int 0]) (st := []) (pc := 131) dX12_isRight_131 lRX12_299 fX12_layWorld vX12_layWorld okl0 rfl (Nat.le_of_ble_eq_true rfl) (q_R (by omega) (by decide)) (q_C hnn hzz (by decide) (by decide)) (sn_X12_layWorld G (d + 1) l0 0 h _ okl0 hwp) (k_v (fun h8 hwp cxh8 => ?_))
    have hex := hex.tr cxh8.1
    have hnn : qn h8 = qn h + 0 := by have := cxh8.2.1; omega
    have hzz : qz h8 = qz h + 0 := by have := cxh8.2.2; omega
    have okl0 := okl0.ex cxh8.1
    refine x_aload_n (pc := 134) dX12_isRight_134 rfl ?_
    refine x_iconst (v := 0) (pc := 135) dX12_isRight_135 (by decide) ?_
    refine x_sipush (v := 1000) (pc := 136) dX12_isRight_136 (by decide) ?_
    refine x_invV (As := [.int 0, .int 1000]) (st := []) (pc := 139) dX12_isRight_139 lRX12_302 fX12_play vX12_play okl0 rfl (Nat.le_of_ble_eq_true rfl) (q_R (by omega) (by decide)) (q_C hnn hzz (by decide) (by decide)) (sn_X12_play G (d + 5) l0 0 1000 h8 _ okl0 hwp) (k_v (fun h10 hwp cxh10 => ?_))
    have hex := hex.tr cxh10.1
    have hnn : qn h10 = qn h + 0 := by have := cxh10.2.1; omega
    have hzz : qz h10 = qz h + 0 := by have := cxh10.2.2; omega
    have okl0 := okl0.ex cxh10.1
    refine x_aload_n (pc := 142) dX12_isRight_142 rfl ?_
    refine x_getI (pc := 143) dX12_isRight_143 qRX12_295 okl0 (by decide) ?_
    exact x_zret (pc := 146) dX12_isRight_146 rfl hex hnn hzz hwp.1 ⟨_, rfl, hwp.1, hwp.2⟩
  by_cases c13 : l1 = 4
  · have hwp := hwp.2.2.2.2.1 c13
    refine x_tabIn (tgt := 147) (pc := 1) dX12_isRight_1 (by rw [q_teq c13 (n := 4) (by decide)]; decide) (by rw [q_teq c13 (n := 4) (by decide)]; decide) (by rw [q_teq c13 (n := 4) (by decide)]; rfl) (by decide) ?_
    refine x_aload_n (pc := 147) dX12_isRight_147 rfl ?_
    obtain ⟨b14, e15, hwp⟩ := hwp
    refine x_getR (pc := 148) dX12_isRight_148 qRX12_16 okl0 e15 (fun okb14 => ?_)
    refine x_iconst (v := 0) (pc := 151) dX12_isRight_151 (by decide) ?_
    obtain ⟨i16, hwp⟩ := hwp
    refine x_iaload (pc := 152) dX12_isRight_152 okb14 i16 ?_
    refine x_if_le (tgt := 160) (pc := 153) dX12_isRight_153 (by decide) (fun c17 => ?_) (fun c17 => ?_)
    · have hwp := hwp.1 c17
      refine x_iconst (v := 0) (pc := 160) dX12_isRight_160 (by decide) ?_
      exact x_zret (pc := 161) dX12_isRight_161 rfl hex hnn hzz (by decide) ⟨_, rfl, by decide, hwp⟩
    · have hwp := hwp.2 c17
      refine x_iconst (v := 1) (pc := 156) dX12_isRight_156 (by decide) ?_
      refine x_goto (tgt := 161) (pc := 157) dX12_isRight_157 (by decide) ?_
      exact x_zret (pc := 161) dX12_isRight_161 rfl hex hnn hzz (by decide) ⟨_, rfl, by decide, hwp⟩
  by_cases c18 : l1 = 5
  · have hwp := hwp.2.2.2.2.2.1 c18
    refine x_tabIn (tgt := 162) (pc := 1) dX12_isRight_1 (by rw [q_teq c18 (n := 5) (by decide)]; decide) (by rw [q_teq c18 (n := 5) (by decide)]; decide) (by rw [q_teq c18 (n := 5) (by decide)]; rfl) (by decide) ?_
    refine x_iconst (v := 0) (pc := 162) dX12_isRight_162 (by decide) ?_
    refine x_istore_n (lv2 := [(2, .int 0), (0, .ref l0), (1, .int l1)]) (pc := 163) dX12_isRight_163 (by decide) rfl ?_
    refine x_sub [1, 0] rfl ?_
    exact lp_X12_isRight_164 G d h h l0 Q hex hnn hzz okl0 hwp ⟨qEx.rf _, rfl, rfl⟩
  have hwp := hwp.2.2.2.2.2.2 c1 c2 c3 c7 c13 c18
  refine x_tabOut (tgt := 200) (pc := 1) dX12_isRight_1 (by have := q_tne c1 (n := 0) (by decide); have := q_tne c2 (n := 1) (by decide); have := q_tne c3 (n := 2) (by decide); have := q_tne c7 (n := 3) (by decide); have := q_tne c13 (n := 4) (by decide); have := q_tne c18 (n := 5) (by decide); omega) (by decide) ?_
  refine x_aload_n (pc := 200) dX12_isRight_200 rfl ?_
  refine x_iconst (v := 0) (pc := 201) dX12_isRight_201 (by decide) ?_
  refine x_invV (As := [.int 0]) (st := []) (pc := 202) dX12_isRight_202 lRX12_278 fX12_whole vX12_whole okl0 rfl (Nat.le_of_ble_eq_true rfl) (q_R (by omega) (by decide)) (q_C hnn hzz (by decide) (by decide)) (sn_X12_whole G (d + 0) l0 0 h _ okl0 hwp) (k_i (fun r20 h19 hwp cxh19 => ?_))
  have hex := hex.tr cxh19.1
  have hnn : qn h19 = qn h + 0 := by have := cxh19.2.1; omega
  have hzz : qz h19 = qz h + 0 := by have := cxh19.2.2; omega
  have okl0 := okl0.ex cxh19.1
  refine x_if_le (tgt := 210) (pc := 205) dX12_isRight_205 (by decide) (fun c21 => ?_) (fun c21 => ?_)
  · have hwp := hwp.1 c21
    refine x_iconst (v := 1) (pc := 210) dX12_isRight_210 (by decide) ?_
    refine x_istore_n (lv2 := [(2, .int 1), (0, .ref l0), (1, .int l1)]) (pc := 211) dX12_isRight_211 (by decide) rfl ?_
    refine x_sub [1, 0] rfl ?_
    exact lp_X12_isRight_212 G d h h19 l0 Q hex hnn hzz okl0 hwp ⟨qEx.rf _, rfl, rfl⟩
  · have hwp := hwp.2 c21
    refine x_iconst (v := 0) (pc := 208) dX12_isRight_208 (by decide) ?_
    exact x_zret (pc := 209) dX12_isRight_209 rfl hex hnn hzz (by decide) ⟨_, rfl, by decide, hwp⟩

theorem dX12_right_0 : decode cX12_right 0 = .ok (.aload_n 0, 1) := by decide +kernel
theorem dX12_right_1 : decode cX12_right 1 = .ok (.iconst 0, 1) := by decide +kernel
theorem dX12_right_2 : decode cX12_right 2 = .ok (.putfield 75, 3) := by decide +kernel
theorem dX12_right_5 : decode cX12_right 5 = .ok (.aload_n 0, 1) := by decide +kernel
theorem dX12_right_6 : decode cX12_right 6 = .ok (.invokevirtual 217, 3) := by decide +kernel
theorem dX12_right_9 : decode cX12_right 9 = .ok (.iload_n 1, 1) := by decide +kernel
theorem dX12_right_10 : decode cX12_right 10 = .ok (.iconst 0, 1) := by decide +kernel
theorem dX12_right_11 : decode cX12_right 11 = .ok (.bipush 6, 2) := by decide +kernel
theorem dX12_right_13 : decode cX12_right 13 = .ok (.invokestatic 139, 3) := by decide +kernel
theorem dX12_right_16 : decode cX12_right 16 = .ok (.ifCond .eq 19, 3) := by decide +kernel
theorem dX12_right_19 : decode cX12_right 19 = .ok (.aload_n 0, 1) := by decide +kernel
theorem dX12_right_20 : decode cX12_right 20 = .ok (.iload_n 1, 1) := by decide +kernel
theorem dX12_right_21 : decode cX12_right 21 = .ok (.invokevirtual 424, 3) := by decide +kernel
theorem dX12_right_24 : decode cX12_right 24 = .ok (.ifCond .eq 7, 3) := by decide +kernel
theorem dX12_right_27 : decode cX12_right 27 = .ok (.iconst 1, 1) := by decide +kernel
theorem dX12_right_28 : decode cX12_right 28 = .ok (.goto 8, 3) := by decide +kernel
theorem dX12_right_31 : decode cX12_right 31 = .ok (.iconst 0, 1) := by decide +kernel
theorem dX12_right_32 : decode cX12_right 32 = .ok (.goto 4, 3) := by decide +kernel
theorem dX12_right_35 : decode cX12_right 35 = .ok (.iconst (-1), 1) := by decide +kernel
theorem dX12_right_36 : decode cX12_right 36 = .ok (.ireturn, 1) := by decide +kernel
def wp_X12_right (l0 : Nat) (l1 : Int32) (h : PH) (Q : Int32 → PH → Prop) : Prop := (∀ h1, h1 = qsI h l0 0 0 → (wp_X12_lay l0 h1 (fun h2 => (wp_X12_isIn l1 0 6 h2 (fun r5 h4 => ((r5 = 0 → Q (-1) h4) ∧ (¬ (r5 = 0) → (wp_X12_isRight l0 l1 h4 (fun r8 h7 => ((r8 = 0 → Q 0 h7) ∧ (¬ (r8 = 0) → Q 1 h7)))))))))))
set_option maxHeartbeats 4000000 in
set_option maxRecDepth 100000 in
theorem sn_X12_right (G : GT) (d : Nat) (l0 : Nat) (l1 : Int32) (h : PH) (Q : Int32 → PH → Prop) (okl0 : qOK h 11 l0) (hwp : wp_X12_right l0 l1 h Q) : Mt G (8 + d) 0 0 mX12_right [.ref l0, .int l1] h (qqi Q) := by
  unfold wp_X12_right at hwp
  refine Mt.of (by decide) rfl (Nat.le_of_ble_eq_true rfl) ?_
  have hex := qEx.rf h
  have hnn : qn h = qn h + 0 := rfl
  have hzz : qz h = qz h + 0 := rfl
  refine x_lvE (lv2 := [(0, .ref l0), (1, .int l1)]) rfl ?_
  refine x_aload_n (pc := 0) dX12_right_0 rfl ?_
  refine x_iconst (v := 0) (pc := 1) dX12_right_1 (by decide) ?_
  refine y_putI (pc := 2) dX12_right_2 qRX12_75 okl0 (fun h1 eh1 nxh1 => ?_)
  have hwp := hwp h1 eh1
  have hex := hex.tr nxh1.1
  have hnn := nxh1.2.1.trans hnn
  have hzz := nxh1.2.2.trans hzz
  have okl0 := okl0.ex nxh1.1
  refine x_aload_n (pc := 5) dX12_right_5 rfl ?_
  refine x_invV (As := []) (st := []) (pc := 6) dX12_right_6 lRX12_217 fX12_lay vX12_lay okl0 rfl (Nat.le_of_ble_eq_true rfl) (q_R (by omega) (by decide)) (q_C hnn hzz (by decide) (by decide)) (sn_X12_lay G (d + 7) l0 h1 _ okl0 hwp) (k_v (fun h2 hwp cxh2 => ?_))
  have hex := hex.tr cxh2.1
  have hnn : qn h2 = qn h + 0 := by have := cxh2.2.1; omega
  have hzz : qz h2 = qz h + 0 := by have := cxh2.2.2; omega
  have okl0 := okl0.ex cxh2.1
  refine x_iload_n (pc := 9) dX12_right_9 rfl ?_
  refine x_iconst (v := 0) (pc := 10) dX12_right_10 (by decide) ?_
  refine x_bipush (v := 6) (pc := 11) dX12_right_11 (by decide) ?_
  refine x_invS (As := [.int l1, .int 0, .int 6]) (st := []) (pc := 13) dX12_right_13 lRX12_139 fX12_isIn sX12_isIn rfl (Nat.le_of_ble_eq_true rfl) (q_R (by omega) (by decide)) (q_C hnn hzz (by decide) (by decide)) (sn_X12_isIn G (d + 7) l1 0 6 h2 _  hwp) (k_b (fun r5 h4 hwp zbr5 cxh4 => ?_))
  have hex := hex.tr cxh4.1
  have hnn : qn h4 = qn h + 0 := by have := cxh4.2.1; omega
  have hzz : qz h4 = qz h + 0 := by have := cxh4.2.2; omega
  have okl0 := okl0.ex cxh4.1
  refine x_if_eq (tgt := 35) (pc := 16) dX12_right_16 (by decide) (fun c6 => ?_) (fun c6 => ?_)
  · have hwp := hwp.1 c6
    refine x_iconst (v := (-1)) (pc := 35) dX12_right_35 (by decide) ?_
    exact x_iret (pc := 36) dX12_right_36 rfl hex hnn hzz ⟨_, rfl, hwp⟩
  · have hwp := hwp.2 c6
    refine x_aload_n (pc := 19) dX12_right_19 rfl ?_
    refine x_iload_n (pc := 20) dX12_right_20 rfl ?_
    refine x_invV (As := [.int l1]) (st := []) (pc := 21) dX12_right_21 lRX12_424 fX12_isRight vX12_isRight okl0 rfl (Nat.le_of_ble_eq_true rfl) (q_R (by omega) (by decide)) (q_C hnn hzz (by decide) (by decide)) (sn_X12_isRight G (d + 0) l0 l1 h4 _ okl0 hwp) (k_b (fun r8 h7 hwp zbr8 cxh7 => ?_))
    have hex := hex.tr cxh7.1
    have hnn : qn h7 = qn h + 0 := by have := cxh7.2.1; omega
    have hzz : qz h7 = qz h + 0 := by have := cxh7.2.2; omega
    have okl0 := okl0.ex cxh7.1
    refine x_if_eq (tgt := 31) (pc := 24) dX12_right_24 (by decide) (fun c9 => ?_) (fun c9 => ?_)
    · have hwp := hwp.1 c9
      refine x_iconst (v := 0) (pc := 31) dX12_right_31 (by decide) ?_
      refine x_goto (tgt := 36) (pc := 32) dX12_right_32 (by decide) ?_
      exact x_iret (pc := 36) dX12_right_36 rfl hex hnn hzz ⟨_, rfl, hwp⟩
    · have hwp := hwp.2 c9
      refine x_iconst (v := 1) (pc := 27) dX12_right_27 (by decide) ?_
      refine x_goto (tgt := 36) (pc := 28) dX12_right_28 (by decide) ?_
      exact x_iret (pc := 36) dX12_right_36 rfl hex hnn hzz ⟨_, rfl, hwp⟩

theorem dX12_leadsOn_0 : decode cX12_leadsOn 0 = .ok (.aload_n 0, 1) := by decide +kernel
theorem dX12_leadsOn_1 : decode cX12_leadsOn 1 = .ok (.getfield 66, 3) := by decide +kernel
theorem dX12_leadsOn_4 : decode cX12_leadsOn 4 = .ok (.bipush 7, 2) := by decide +kernel
theorem dX12_leadsOn_6 : decode cX12_leadsOn 6 = .ok (.iload_n 1, 1) := by decide +kernel
theorem dX12_leadsOn_7 : decode cX12_leadsOn 7 = .ok (.imul, 1) := by decide +kernel
theorem dX12_leadsOn_8 : decode cX12_leadsOn 8 = .ok (.iload_n 2, 1) := by decide +kernel
theorem dX12_leadsOn_9 : decode cX12_leadsOn 9 = .ok (.iadd, 1) := by decide +kernel
theorem dX12_leadsOn_10 : decode cX12_leadsOn 10 = .ok (.iaload, 1) := by decide +kernel
theorem dX12_leadsOn_11 : decode cX12_leadsOn 11 = .ok (.istore 4, 2) := by decide +kernel
theorem dX12_leadsOn_13 : decode cX12_leadsOn 13 = .ok (.iload_n 3, 1) := by decide +kernel
theorem dX12_leadsOn_14 : decode cX12_leadsOn 14 = .ok (.iload_n 2, 1) := by decide +kernel
theorem dX12_leadsOn_15 : decode cX12_leadsOn 15 = .ok (.ishr, 1) := by decide +kernel
theorem dX12_leadsOn_16 : decode cX12_leadsOn 16 = .ok (.iconst 1, 1) := by decide +kernel
theorem dX12_leadsOn_17 : decode cX12_leadsOn 17 = .ok (.iand, 1) := by decide +kernel
theorem dX12_leadsOn_18 : decode cX12_leadsOn 18 = .ok (.iconst 1, 1) := by decide +kernel
theorem dX12_leadsOn_19 : decode cX12_leadsOn 19 = .ok (.if_icmp .ne 31, 3) := by decide +kernel
theorem dX12_leadsOn_22 : decode cX12_leadsOn 22 = .ok (.iload 4, 2) := by decide +kernel
theorem dX12_leadsOn_24 : decode cX12_leadsOn 24 = .ok (.iconst (-1), 1) := by decide +kernel
theorem dX12_leadsOn_25 : decode cX12_leadsOn 25 = .ok (.if_icmp .eq 25, 3) := by decide +kernel
theorem dX12_leadsOn_28 : decode cX12_leadsOn 28 = .ok (.aload_n 0, 1) := by decide +kernel
theorem dX12_leadsOn_29 : decode cX12_leadsOn 29 = .ok (.getfield 69, 3) := by decide +kernel
theorem dX12_leadsOn_32 : decode cX12_leadsOn 32 = .ok (.iload 4, 2) := by decide +kernel
theorem dX12_leadsOn_34 : decode cX12_leadsOn 34 = .ok (.iaload, 1) := by decide +kernel
theorem dX12_leadsOn_35 : decode cX12_leadsOn 35 = .ok (.aload_n 0, 1) := by decide +kernel
theorem dX12_leadsOn_36 : decode cX12_leadsOn 36 = .ok (.getfield 69, 3) := by decide +kernel
theorem dX12_leadsOn_39 : decode cX12_leadsOn 39 = .ok (.iload_n 1, 1) := by decide +kernel
theorem dX12_leadsOn_40 : decode cX12_leadsOn 40 = .ok (.iaload, 1) := by decide +kernel
theorem dX12_leadsOn_41 : decode cX12_leadsOn 41 = .ok (.iconst 1, 1) := by decide +kernel
theorem dX12_leadsOn_42 : decode cX12_leadsOn 42 = .ok (.isub, 1) := by decide +kernel
theorem dX12_leadsOn_43 : decode cX12_leadsOn 43 = .ok (.if_icmp .ne 7, 3) := by decide +kernel
theorem dX12_leadsOn_46 : decode cX12_leadsOn 46 = .ok (.iconst 1, 1) := by decide +kernel
theorem dX12_leadsOn_47 : decode cX12_leadsOn 47 = .ok (.goto 4, 3) := by decide +kernel
theorem dX12_leadsOn_50 : decode cX12_leadsOn 50 = .ok (.iconst 0, 1) := by decide +kernel
theorem dX12_leadsOn_51 : decode cX12_leadsOn 51 = .ok (.ireturn, 1) := by decide +kernel
def wp_X12_leadsOn (l0 : Nat) (l1 : Int32) (l2 : Int32) (l3 : Int32) (h : PH) (Q : Int32 → PH → Prop) : Prop := (∃ b1, qR h l0 57 = some b1 ∧ (vp_in ((7 * l1) + l2) (qL h b1) ∧ ∀ v4 : Int32, v4 = qI h b1 ((7 * l1) + l2).toNatClampNeg → ((¬ ((l3 >>> (l2 &&& 31)) &&& 1) = 1 → Q 0 h) ∧ (((l3 >>> (l2 &&& 31)) &&& 1) = 1 → ((v4 = (-1) → Q 0 h) ∧ (¬ (v4 = (-1)) → (∃ b7, qR h l0 59 = some b7 ∧ (vp_in v4 (qL h b7) ∧ (∃ b10, qR h l0 59 = some b10 ∧ (vp_in l1 (qL h b10) ∧ ((¬ (qI h b7 v4.toNatClampNeg) = ((qI h b10 l1.toNatClampNeg) - 1) → Q 0 h) ∧ ((qI h b7 v4.toNatClampNeg) = ((qI h b10 l1.toNatClampNeg) - 1) → Q 1 h))))))))))))
set_option maxHeartbeats 4000000 in
set_option maxRecDepth 100000 in
theorem sn_X12_leadsOn (G : GT) (d : Nat) (l0 : Nat) (l1 : Int32) (l2 : Int32) (l3 : Int32) (h : PH) (Q : Int32 → PH → Prop) (okl0 : qOK h 11 l0) (hwp : wp_X12_leadsOn l0 l1 l2 l3 h Q) : Mt G (0 + d) 0 0 mX12_leadsOn [.ref l0, .int l1, .int l2, .int l3] h (qqb Q) := by
  unfold wp_X12_leadsOn at hwp
  refine Mt.of (by decide) rfl (Nat.le_of_ble_eq_true rfl) ?_
  have hex := qEx.rf h
  have hnn : qn h = qn h + 0 := rfl
  have hzz : qz h = qz h + 0 := rfl
  refine x_lvE (lv2 := [(0, .ref l0), (1, .int l1), (2, .int l2), (3, .int l3)]) rfl ?_
  refine x_aload_n (pc := 0) dX12_leadsOn_0 rfl ?_
  obtain ⟨b1, e2, hwp⟩ := hwp
  refine x_getR (pc := 1) dX12_leadsOn_1 qRX12_66 okl0 e2 (fun okb1 => ?_)
  refine x_bipush (v := 7) (pc := 4) dX12_leadsOn_4 (by decide) ?_
  refine x_iload_n (pc := 6) dX12_leadsOn_6 rfl ?_
  refine x_imul (pc := 7) dX12_leadsOn_7 ?_
  refine x_iload_n (pc := 8) dX12_leadsOn_8 rfl ?_
  refine x_iadd (pc := 9) dX12_leadsOn_9 ?_
  obtain ⟨i3, hwp⟩ := hwp
  refine x_iaload (pc := 10) dX12_leadsOn_10 okb1 i3 ?_
  refine x_nmI (fun v4 ev4 => ?_)
  have hwp := hwp v4 ev4
  refine x_istore (lv2 := [(4, .int v4), (0, .ref l0), (1, .int l1), (2, .int l2), (3, .int l3)]) (pc := 11) dX12_leadsOn_11 (by decide) rfl ?_
  refine x_iload_n (pc := 13) dX12_leadsOn_13 rfl ?_
  refine x_iload_n (pc := 14) dX12_leadsOn_14 rfl ?_
  refine x_ishr (pc := 15) dX12_leadsOn_15 ?_
  refine x_iconst (v := 1) (pc := 16) dX12_leadsOn_16 (by decide) ?_
  refine x_iand (pc := 17) dX12_leadsOn_17 ?_
  refine x_iconst (v := 1) (pc := 18) dX12_leadsOn_18 (by decide) ?_
  refine x_icmp_ne (tgt := 50) (pc := 19) dX12_leadsOn_19 (by decide) (fun c5 => ?_) (fun c5 => ?_)
  · have hwp := hwp.1 c5
    refine x_iconst (v := 0) (pc := 50) dX12_leadsOn_50 (by decide) ?_
    exact x_zret (pc := 51) dX12_leadsOn_51 rfl hex hnn hzz (by decide) ⟨_, rfl, by decide, hwp⟩
  · have hwp := hwp.2 c5
    refine x_iload (pc := 22) dX12_leadsOn_22 rfl ?_
    refine x_iconst (v := (-1)) (pc := 24) dX12_leadsOn_24 (by decide) ?_
    refine x_icmp_eq (tgt := 50) (pc := 25) dX12_leadsOn_25 (by decide) (fun c6 => ?_) (fun c6 => ?_)
    · have hwp := hwp.1 c6
      refine x_iconst (v := 0) (pc := 50) dX12_leadsOn_50 (by decide) ?_
      exact x_zret (pc := 51) dX12_leadsOn_51 rfl hex hnn hzz (by decide) ⟨_, rfl, by decide, hwp⟩
    · have hwp := hwp.2 c6
      refine x_aload_n (pc := 28) dX12_leadsOn_28 rfl ?_
      obtain ⟨b7, e8, hwp⟩ := hwp
      refine x_getR (pc := 29) dX12_leadsOn_29 qRX12_69 okl0 e8 (fun okb7 => ?_)
      refine x_iload (pc := 32) dX12_leadsOn_32 rfl ?_
      obtain ⟨i9, hwp⟩ := hwp
      refine x_iaload (pc := 34) dX12_leadsOn_34 okb7 i9 ?_
      refine x_aload_n (pc := 35) dX12_leadsOn_35 rfl ?_
      obtain ⟨b10, e11, hwp⟩ := hwp
      refine x_getR (pc := 36) dX12_leadsOn_36 qRX12_69 okl0 e11 (fun okb10 => ?_)
      refine x_iload_n (pc := 39) dX12_leadsOn_39 rfl ?_
      obtain ⟨i12, hwp⟩ := hwp
      refine x_iaload (pc := 40) dX12_leadsOn_40 okb10 i12 ?_
      refine x_iconst (v := 1) (pc := 41) dX12_leadsOn_41 (by decide) ?_
      refine x_isub (pc := 42) dX12_leadsOn_42 ?_
      refine x_icmp_ne (tgt := 50) (pc := 43) dX12_leadsOn_43 (by decide) (fun c13 => ?_) (fun c13 => ?_)
      · have hwp := hwp.1 c13
        refine x_iconst (v := 0) (pc := 50) dX12_leadsOn_50 (by decide) ?_
        exact x_zret (pc := 51) dX12_leadsOn_51 rfl hex hnn hzz (by decide) ⟨_, rfl, by decide, hwp⟩
      · have hwp := hwp.2 c13
        refine x_iconst (v := 1) (pc := 46) dX12_leadsOn_46 (by decide) ?_
        refine x_goto (tgt := 51) (pc := 47) dX12_leadsOn_47 (by decide) ?_
        exact x_zret (pc := 51) dX12_leadsOn_51 rfl hex hnn hzz (by decide) ⟨_, rfl, by decide, hwp⟩

theorem dX12_answer_0 : decode cX12_answer 0 = .ok (.aload_n 0, 1) := by decide +kernel
theorem dX12_answer_1 : decode cX12_answer 1 = .ok (.iconst 0, 1) := by decide +kernel
theorem dX12_answer_2 : decode cX12_answer 2 = .ok (.putfield 75, 3) := by decide +kernel
theorem dX12_answer_5 : decode cX12_answer 5 = .ok (.aload_n 0, 1) := by decide +kernel
theorem dX12_answer_6 : decode cX12_answer 6 = .ok (.invokevirtual 217, 3) := by decide +kernel
theorem dX12_answer_9 : decode cX12_answer 9 = .ok (.aload_n 0, 1) := by decide +kernel
theorem dX12_answer_10 : decode cX12_answer 10 = .ok (.getfield 418, 3) := by decide +kernel
theorem dX12_answer_13 : decode cX12_answer 13 = .ok (.ifCond .ne 8, 3) := by decide +kernel
theorem dX12_answer_16 : decode cX12_answer 16 = .ok (.aload_n 0, 1) := by decide +kernel
theorem dX12_answer_17 : decode cX12_answer 17 = .ok (.iconst 0, 1) := by decide +kernel
theorem dX12_answer_18 : decode cX12_answer 18 = .ok (.invokevirtual 412, 3) := by decide +kernel
theorem dX12_answer_21 : decode cX12_answer 21 = .ok (.aload_n 0, 1) := by decide +kernel
theorem dX12_answer_22 : decode cX12_answer 22 = .ok (.iconst 1, 1) := by decide +kernel
theorem dX12_answer_23 : decode cX12_answer 23 = .ok (.putfield 418, 3) := by decide +kernel
theorem dX12_answer_26 : decode cX12_answer 26 = .ok (.iconst 0, 1) := by decide +kernel
theorem dX12_answer_27 : decode cX12_answer 27 = .ok (.istore_n 1, 1) := by decide +kernel
theorem dX12_answer_28 : decode cX12_answer 28 = .ok (.iconst 0, 1) := by decide +kernel
theorem dX12_answer_29 : decode cX12_answer 29 = .ok (.istore_n 2, 1) := by decide +kernel
theorem dX12_answer_30 : decode cX12_answer 30 = .ok (.iload_n 2, 1) := by decide +kernel
theorem dX12_answer_31 : decode cX12_answer 31 = .ok (.bipush 7, 2) := by decide +kernel
theorem dX12_answer_33 : decode cX12_answer 33 = .ok (.if_icmp .ge 23, 3) := by decide +kernel
theorem dX12_answer_36 : decode cX12_answer 36 = .ok (.aload_n 0, 1) := by decide +kernel
theorem dX12_answer_37 : decode cX12_answer 37 = .ok (.iload_n 2, 1) := by decide +kernel
theorem dX12_answer_38 : decode cX12_answer 38 = .ok (.invokevirtual 424, 3) := by decide +kernel
theorem dX12_answer_41 : decode cX12_answer 41 = .ok (.ifCond .eq 9, 3) := by decide +kernel
theorem dX12_answer_44 : decode cX12_answer 44 = .ok (.iload_n 1, 1) := by decide +kernel
theorem dX12_answer_45 : decode cX12_answer 45 = .ok (.iconst 1, 1) := by decide +kernel
theorem dX12_answer_46 : decode cX12_answer 46 = .ok (.iload_n 2, 1) := by decide +kernel
theorem dX12_answer_47 : decode cX12_answer 47 = .ok (.ishl, 1) := by decide +kernel
theorem dX12_answer_48 : decode cX12_answer 48 = .ok (.ior, 1) := by decide +kernel
theorem dX12_answer_49 : decode cX12_answer 49 = .ok (.istore_n 1, 1) := by decide +kernel
theorem dX12_answer_50 : decode cX12_answer 50 = .ok (.iinc 2 1, 3) := by decide +kernel
theorem dX12_answer_53 : decode cX12_answer 53 = .ok (.goto (-23), 3) := by decide +kernel
theorem dX12_answer_56 : decode cX12_answer 56 = .ok (.iconst 0, 1) := by decide +kernel
theorem dX12_answer_57 : decode cX12_answer 57 = .ok (.istore_n 2, 1) := by decide +kernel
theorem dX12_answer_58 : decode cX12_answer 58 = .ok (.iload_n 2, 1) := by decide +kernel
theorem dX12_answer_59 : decode cX12_answer 59 = .ok (.bipush 10, 2) := by decide +kernel
theorem dX12_answer_61 : decode cX12_answer 61 = .ok (.if_icmp .ge 26, 3) := by decide +kernel
theorem dX12_answer_64 : decode cX12_answer 64 = .ok (.aload_n 0, 1) := by decide +kernel
theorem dX12_answer_65 : decode cX12_answer 65 = .ok (.getfield 69, 3) := by decide +kernel
theorem dX12_answer_68 : decode cX12_answer 68 = .ok (.iload_n 2, 1) := by decide +kernel
theorem dX12_answer_69 : decode cX12_answer 69 = .ok (.iload_n 2, 1) := by decide +kernel
theorem dX12_answer_70 : decode cX12_answer 70 = .ok (.bipush 9, 2) := by decide +kernel
theorem dX12_answer_72 : decode cX12_answer 72 = .ok (.if_icmp .ne 7, 3) := by decide +kernel
theorem dX12_answer_75 : decode cX12_answer 75 = .ok (.iconst 0, 1) := by decide +kernel
theorem dX12_answer_76 : decode cX12_answer 76 = .ok (.goto 4, 3) := by decide +kernel
theorem dX12_answer_79 : decode cX12_answer 79 = .ok (.iconst (-1), 1) := by decide +kernel
theorem dX12_answer_80 : decode cX12_answer 80 = .ok (.iastore, 1) := by decide +kernel
theorem dX12_answer_81 : decode cX12_answer 81 = .ok (.iinc 2 1, 3) := by decide +kernel
theorem dX12_answer_84 : decode cX12_answer 84 = .ok (.goto (-26), 3) := by decide +kernel
theorem dX12_answer_87 : decode cX12_answer 87 = .ok (.iconst 1, 1) := by decide +kernel
theorem dX12_answer_88 : decode cX12_answer 88 = .ok (.istore_n 2, 1) := by decide +kernel
theorem dX12_answer_89 : decode cX12_answer 89 = .ok (.iload_n 2, 1) := by decide +kernel
theorem dX12_answer_90 : decode cX12_answer 90 = .ok (.bipush 10, 2) := by decide +kernel
theorem dX12_answer_92 : decode cX12_answer 92 = .ok (.if_icmp .ge 102, 3) := by decide +kernel
theorem dX12_answer_95 : decode cX12_answer 95 = .ok (.iconst 0, 1) := by decide +kernel
theorem dX12_answer_96 : decode cX12_answer 96 = .ok (.istore_n 3, 1) := by decide +kernel
theorem dX12_answer_97 : decode cX12_answer 97 = .ok (.iload_n 3, 1) := by decide +kernel
theorem dX12_answer_98 : decode cX12_answer 98 = .ok (.bipush 9, 2) := by decide +kernel
theorem dX12_answer_100 : decode cX12_answer 100 = .ok (.if_icmp .ge 88, 3) := by decide +kernel
theorem dX12_answer_103 : decode cX12_answer 103 = .ok (.aload_n 0, 1) := by decide +kernel
theorem dX12_answer_104 : decode cX12_answer 104 = .ok (.getfield 69, 3) := by decide +kernel
theorem dX12_answer_107 : decode cX12_answer 107 = .ok (.iload_n 3, 1) := by decide +kernel
theorem dX12_answer_108 : decode cX12_answer 108 = .ok (.iaload, 1) := by decide +kernel
theorem dX12_answer_109 : decode cX12_answer 109 = .ok (.iconst (-1), 1) := by decide +kernel
theorem dX12_answer_110 : decode cX12_answer 110 = .ok (.if_icmp .eq 6, 3) := by decide +kernel
theorem dX12_answer_113 : decode cX12_answer 113 = .ok (.goto 69, 3) := by decide +kernel
theorem dX12_answer_116 : decode cX12_answer 116 = .ok (.iconst 0, 1) := by decide +kernel
theorem dX12_answer_117 : decode cX12_answer 117 = .ok (.istore 4, 2) := by decide +kernel
theorem dX12_answer_119 : decode cX12_answer 119 = .ok (.iload 4, 2) := by decide +kernel
theorem dX12_answer_121 : decode cX12_answer 121 = .ok (.bipush 7, 2) := by decide +kernel
theorem dX12_answer_123 : decode cX12_answer 123 = .ok (.if_icmp .ge 59, 3) := by decide +kernel
theorem dX12_answer_126 : decode cX12_answer 126 = .ok (.aload_n 0, 1) := by decide +kernel
theorem dX12_answer_127 : decode cX12_answer 127 = .ok (.getfield 66, 3) := by decide +kernel
theorem dX12_answer_130 : decode cX12_answer 130 = .ok (.bipush 7, 2) := by decide +kernel
theorem dX12_answer_132 : decode cX12_answer 132 = .ok (.iload_n 3, 1) := by decide +kernel
theorem dX12_answer_133 : decode cX12_answer 133 = .ok (.imul, 1) := by decide +kernel
theorem dX12_answer_134 : decode cX12_answer 134 = .ok (.iload 4, 2) := by decide +kernel
theorem dX12_answer_136 : decode cX12_answer 136 = .ok (.iadd, 1) := by decide +kernel
theorem dX12_answer_137 : decode cX12_answer 137 = .ok (.iaload, 1) := by decide +kernel
theorem dX12_answer_138 : decode cX12_answer 138 = .ok (.istore 5, 2) := by decide +kernel
theorem dX12_answer_140 : decode cX12_answer 140 = .ok (.iload_n 1, 1) := by decide +kernel
theorem dX12_answer_141 : decode cX12_answer 141 = .ok (.iload 4, 2) := by decide +kernel
theorem dX12_answer_143 : decode cX12_answer 143 = .ok (.ishr, 1) := by decide +kernel
theorem dX12_answer_144 : decode cX12_answer 144 = .ok (.iconst 1, 1) := by decide +kernel
theorem dX12_answer_145 : decode cX12_answer 145 = .ok (.iand, 1) := by decide +kernel
theorem dX12_answer_146 : decode cX12_answer 146 = .ok (.iconst 1, 1) := by decide +kernel
theorem dX12_answer_147 : decode cX12_answer 147 = .ok (.if_icmp .ne 29, 3) := by decide +kernel
theorem dX12_answer_150 : decode cX12_answer 150 = .ok (.iload 5, 2) := by decide +kernel
theorem dX12_answer_152 : decode cX12_answer 152 = .ok (.iconst (-1), 1) := by decide +kernel
theorem dX12_answer_153 : decode cX12_answer 153 = .ok (.if_icmp .eq 23, 3) := by decide +kernel
theorem dX12_answer_156 : decode cX12_answer 156 = .ok (.aload_n 0, 1) := by decide +kernel
theorem dX12_answer_157 : decode cX12_answer 157 = .ok (.getfield 69, 3) := by decide +kernel
theorem dX12_answer_160 : decode cX12_answer 160 = .ok (.iload 5, 2) := by decide +kernel
theorem dX12_answer_162 : decode cX12_answer 162 = .ok (.iaload, 1) := by decide +kernel
theorem dX12_answer_163 : decode cX12_answer 163 = .ok (.iload_n 2, 1) := by decide +kernel
theorem dX12_answer_164 : decode cX12_answer 164 = .ok (.iconst 1, 1) := by decide +kernel
theorem dX12_answer_165 : decode cX12_answer 165 = .ok (.isub, 1) := by decide +kernel
theorem dX12_answer_166 : decode cX12_answer 166 = .ok (.if_icmp .ne 10, 3) := by decide +kernel
theorem dX12_answer_169 : decode cX12_answer 169 = .ok (.aload_n 0, 1) := by decide +kernel
theorem dX12_answer_170 : decode cX12_answer 170 = .ok (.getfield 69, 3) := by decide +kernel
theorem dX12_answer_173 : decode cX12_answer 173 = .ok (.iload_n 3, 1) := by decide +kernel
theorem dX12_answer_174 : decode cX12_answer 174 = .ok (.iload_n 2, 1) := by decide +kernel
theorem dX12_answer_175 : decode cX12_answer 175 = .ok (.iastore, 1) := by decide +kernel
theorem dX12_answer_176 : decode cX12_answer 176 = .ok (.iinc 4 1, 3) := by decide +kernel
theorem dX12_answer_179 : decode cX12_answer 179 = .ok (.goto (-60), 3) := by decide +kernel
theorem dX12_answer_182 : decode cX12_answer 182 = .ok (.iinc 3 1, 3) := by decide +kernel
theorem dX12_answer_185 : decode cX12_answer 185 = .ok (.goto (-88), 3) := by decide +kernel
theorem dX12_answer_188 : decode cX12_answer 188 = .ok (.iinc 2 1, 3) := by decide +kernel
theorem dX12_answer_191 : decode cX12_answer 191 = .ok (.goto (-102), 3) := by decide +kernel
theorem dX12_answer_194 : decode cX12_answer 194 = .ok (.aload_n 0, 1) := by decide +kernel
theorem dX12_answer_195 : decode cX12_answer 195 = .ok (.getfield 69, 3) := by decide +kernel
theorem dX12_answer_198 : decode cX12_answer 198 = .ok (.iconst 0, 1) := by decide +kernel
theorem dX12_answer_199 : decode cX12_answer 199 = .ok (.iaload, 1) := by decide +kernel
theorem dX12_answer_200 : decode cX12_answer 200 = .ok (.iconst (-1), 1) := by decide +kernel
theorem dX12_answer_201 : decode cX12_answer 201 = .ok (.if_icmp .ne 5, 3) := by decide +kernel
theorem dX12_answer_204 : decode cX12_answer 204 = .ok (.iconst (-1), 1) := by decide +kernel
theorem dX12_answer_205 : decode cX12_answer 205 = .ok (.ireturn, 1) := by decide +kernel
theorem dX12_answer_206 : decode cX12_answer 206 = .ok (.aload_n 0, 1) := by decide +kernel
theorem dX12_answer_207 : decode cX12_answer 207 = .ok (.aload_n 0, 1) := by decide +kernel
theorem dX12_answer_208 : decode cX12_answer 208 = .ok (.getfield 69, 3) := by decide +kernel
theorem dX12_answer_211 : decode cX12_answer 211 = .ok (.iconst 0, 1) := by decide +kernel
theorem dX12_answer_212 : decode cX12_answer 212 = .ok (.iaload, 1) := by decide +kernel
theorem dX12_answer_213 : decode cX12_answer 213 = .ok (.putfield 427, 3) := by decide +kernel
theorem dX12_answer_216 : decode cX12_answer 216 = .ok (.iconst 0, 1) := by decide +kernel
theorem dX12_answer_217 : decode cX12_answer 217 = .ok (.istore_n 2, 1) := by decide +kernel
theorem dX12_answer_218 : decode cX12_answer 218 = .ok (.iconst 0, 1) := by decide +kernel
theorem dX12_answer_219 : decode cX12_answer 219 = .ok (.istore_n 3, 1) := by decide +kernel
theorem dX12_answer_220 : decode cX12_answer 220 = .ok (.iload_n 3, 1) := by decide +kernel
theorem dX12_answer_221 : decode cX12_answer 221 = .ok (.aload_n 0, 1) := by decide +kernel
theorem dX12_answer_222 : decode cX12_answer 222 = .ok (.getfield 427, 3) := by decide +kernel
theorem dX12_answer_225 : decode cX12_answer 225 = .ok (.if_icmp .ge 50, 3) := by decide +kernel
theorem dX12_answer_228 : decode cX12_answer 228 = .ok (.iconst 0, 1) := by decide +kernel
theorem dX12_answer_229 : decode cX12_answer 229 = .ok (.istore 4, 2) := by decide +kernel
theorem dX12_answer_231 : decode cX12_answer 231 = .ok (.aload_n 0, 1) := by decide +kernel
theorem dX12_answer_232 : decode cX12_answer 232 = .ok (.iload_n 2, 1) := by decide +kernel
theorem dX12_answer_233 : decode cX12_answer 233 = .ok (.iload 4, 2) := by decide +kernel
theorem dX12_answer_235 : decode cX12_answer 235 = .ok (.iload_n 1, 1) := by decide +kernel
theorem dX12_answer_236 : decode cX12_answer 236 = .ok (.invokevirtual 430, 3) := by decide +kernel
theorem dX12_answer_239 : decode cX12_answer 239 = .ok (.ifCond .ne 9, 3) := by decide +kernel
theorem dX12_answer_242 : decode cX12_answer 242 = .ok (.iinc 4 1, 3) := by decide +kernel
theorem dX12_answer_245 : decode cX12_answer 245 = .ok (.goto (-14), 3) := by decide +kernel
theorem dX12_answer_248 : decode cX12_answer 248 = .ok (.aload_n 0, 1) := by decide +kernel
theorem dX12_answer_249 : decode cX12_answer 249 = .ok (.getfield 72, 3) := by decide +kernel
theorem dX12_answer_252 : decode cX12_answer 252 = .ok (.iload_n 3, 1) := by decide +kernel
theorem dX12_answer_253 : decode cX12_answer 253 = .ok (.iload 4, 2) := by decide +kernel
theorem dX12_answer_255 : decode cX12_answer 255 = .ok (.iastore, 1) := by decide +kernel
theorem dX12_answer_256 : decode cX12_answer 256 = .ok (.aload_n 0, 1) := by decide +kernel
theorem dX12_answer_257 : decode cX12_answer 257 = .ok (.getfield 66, 3) := by decide +kernel
theorem dX12_answer_260 : decode cX12_answer 260 = .ok (.bipush 7, 2) := by decide +kernel
theorem dX12_answer_262 : decode cX12_answer 262 = .ok (.iload_n 2, 1) := by decide +kernel
theorem dX12_answer_263 : decode cX12_answer 263 = .ok (.imul, 1) := by decide +kernel
theorem dX12_answer_264 : decode cX12_answer 264 = .ok (.iload 4, 2) := by decide +kernel
theorem dX12_answer_266 : decode cX12_answer 266 = .ok (.iadd, 1) := by decide +kernel
theorem dX12_answer_267 : decode cX12_answer 267 = .ok (.iaload, 1) := by decide +kernel
theorem dX12_answer_268 : decode cX12_answer 268 = .ok (.istore_n 2, 1) := by decide +kernel
theorem dX12_answer_269 : decode cX12_answer 269 = .ok (.iinc 3 1, 3) := by decide +kernel
theorem dX12_answer_272 : decode cX12_answer 272 = .ok (.goto (-52), 3) := by decide +kernel
theorem dX12_answer_275 : decode cX12_answer 275 = .ok (.aload_n 0, 1) := by decide +kernel
theorem dX12_answer_276 : decode cX12_answer 276 = .ok (.getfield 427, 3) := by decide +kernel
theorem dX12_answer_279 : decode cX12_answer 279 = .ok (.ireturn, 1) := by decide +kernel
def E_X12_answer_30 (G : GT) (d : Nat) (h0 hb : PH) (l0 : Nat) (Q : Int32 → PH → Prop) (s : Int32 × Int32 × PH) : Prop := qEx hb s.2.2 ∧ qn s.2.2 = qn hb ∧ qz s.2.2 = qz hb → Ex G (qrm (8 + d) 0 0) mX12_answer (qn h0) (qz h0) (ZN G h0 0 0 (qqi Q)) 30 [(0, .ref l0), (1, .int s.1), (2, .int s.2.1)] [] s.2.2
def E_X12_answer_58 (G : GT) (d : Nat) (h0 hb : PH) (l0 : Nat) (l1 : Int32) (Q : Int32 → PH → Prop) (s : Int32 × PH) : Prop := qEx hb s.2 ∧ qn s.2 = qn hb ∧ qz s.2 = qz hb → Ex G (qrm (8 + d) 0 0) mX12_answer (qn h0) (qz h0) (ZN G h0 0 0 (qqi Q)) 58 [(0, .ref l0), (1, .int l1), (2, .int s.1)] [] s.2
def E_X12_answer_89 (G : GT) (d : Nat) (h0 hb : PH) (l0 : Nat) (l1 : Int32) (Q : Int32 → PH → Prop) (s : Int32 × PH) : Prop := qEx hb s.2 ∧ qn s.2 = qn hb ∧ qz s.2 = qz hb → Ex G (qrm (8 + d) 0 0) mX12_answer (qn h0) (qz h0) (ZN G h0 0 0 (qqi Q)) 89 [(0, .ref l0), (1, .int l1), (2, .int s.1)] [] s.2
def E_X12_answer_97 (G : GT) (d : Nat) (h0 hb : PH) (l0 : Nat) (l1 : Int32) (l2 : Int32) (Q : Int32 → PH → Prop) (s : Int32 × PH) : Prop := qEx hb s.2 ∧ qn s.2 = qn hb ∧ qz s.2 = qz hb → Ex G (qrm (8 + d) 0 0) mX12_answer (qn h0) (qz h0) (ZN G h0 0 0 (qqi Q)) 97 [(0, .ref l0), (1, .int l1), (2, .int l2), (3, .int s.1)] [] s.2
def E_X12_answer_119 (G : GT) (d : Nat) (h0 hb : PH) (l0 : Nat) (l1 : Int32) (l2 : Int32) (l3 : Int32) (Q : Int32 → PH → Prop) (s : Int32 × PH) : Prop := qEx hb s.2 ∧ qn s.2 = qn hb ∧ qz s.2 = qz hb → Ex G (qrm (8 + d) 0 0) mX12_answer (qn h0) (qz h0) (ZN G h0 0 0 (qqi Q)) 119 [(0, .ref l0), (1, .int l1), (2, .int l2), (3, .int l3), (4, .int s.1)] [] s.2
def E_X12_answer_220 (G : GT) (d : Nat) (h0 hb : PH) (l0 : Nat) (l1 : Int32) (Q : Int32 → PH → Prop) (s : Int32 × Int32 × PH) : Prop := qEx hb s.2.2 ∧ qn s.2.2 = qn hb ∧ qz s.2.2 = qz hb → Ex G (qrm (8 + d) 0 0) mX12_answer (qn h0) (qz h0) (ZN G h0 0 0 (qqi Q)) 220 [(0, .ref l0), (1, .int l1), (2, .int s.1), (3, .int s.2.1)] [] s.2.2
def E_X12_answer_231 (G : GT) (d : Nat) (h0 hb : PH) (l0 : Nat) (l1 : Int32) (l2 : Int32) (l3 : Int32) (Q : Int32 → PH → Prop) (s : Int32 × PH) : Prop := qEx hb s.2 ∧ qn s.2 = qn hb ∧ qz s.2 = qz hb → Ex G (qrm (8 + d) 0 0) mX12_answer (qn h0) (qz h0) (ZN G h0 0 0 (qqi Q)) 231 [(0, .ref l0), (1, .int l1), (2, .int l2), (3, .int l3), (4, .int s.1)] [] s.2
def wb_X12_answer_119 (l0 : Nat) (l1 : Int32) (l2 : Int32) (l3 : Int32) (bk89 : Int32 × PH → Prop) (bk97 : Int32 × PH → Prop) (Q : Int32 → PH → Prop) (bk119 : Int32 × PH → Prop) (l4 : Int32) (h : PH) : Prop := ((7 ≤ l4 → ∀ v57 : Int32, v57 = l3 + 1 → bk97 (v57, h)) ∧ (¬ (7 ≤ l4) → (∃ b58, qR h l0 57 = some b58 ∧ (vp_in ((7 * l3) + l4) (qL h b58) ∧ ∀ v61 : Int32, v61 = qI h b58 ((7 * l3) + l4).toNatClampNeg → ((¬ ((l1 >>> (l4 &&& 31)) &&& 1) = 1 → ∀ v63 : Int32, v63 = l4 + 1 → bk119 (v63, h)) ∧ (((l1 >>> (l4 &&& 31)) &&& 1) = 1 → ((v61 = (-1) → ∀ v65 : Int32, v65 = l4 + 1 → bk119 (v65, h)) ∧ (¬ (v61 = (-1)) → (∃ b66, qR h l0 59 = some b66 ∧ (vp_in v61 (qL h b66) ∧ ((¬ (qI h b66 v61.toNatClampNeg) = (l2 - 1) → ∀ v70 : Int32, v70 = l4 + 1 → bk119 (v70, h)) ∧ ((qI h b66 v61.toNatClampNeg) = (l2 - 1) → (∃ b71, qR h l0 59 = some b71 ∧ (vp_in l3 (qL h b71) ∧ ∀ h73, h73 = qsI h b71 l3.toNatClampNeg l2 → ∀ v75 : Int32, v75 = l4 + 1 → bk119 (v75, h73)))))))))))))))
def wp_X12_answer_119 (l0 : Nat) (l1 : Int32) (l2 : Int32) (l3 : Int32) (bk89 : Int32 × PH → Prop) (bk97 : Int32 × PH → Prop) (Q : Int32 → PH → Prop) (bk119 : Int32 × PH → Prop) (s : Int32 × PH) : Prop := wb_X12_answer_119 l0 l1 l2 l3 bk89 bk97 Q bk119 s.1 s.2
set_option maxHeartbeats 4000000 in
set_option maxRecDepth 100000 in
theorem bd_X12_answer_119 (G : GT) (d : Nat) (h0 hb : PH) (l0 : Nat) (l1 : Int32) (l2 : Int32) (l3 : Int32) (Q : Int32 → PH → Prop) (hb89 : PH) (bk89 : Int32 × PH → Prop) (hbk89 : ∀ s2, bk89 s2 → E_X12_answer_89 G d h0 hb89 l0 l1 Q s2) (hx89 : qEx hb89 hb) (hn89 : qn hb = qn hb89) (hz89 : qz hb = qz hb89) (hb97 : PH) (bk97 : Int32 × PH → Prop) (hbk97 : ∀ s2, bk97 s2 → E_X12_answer_97 G d h0 hb97 l0 l1 l2 Q s2) (hx97 : qEx hb97 hb) (hn97 : qn hb = qn hb97) (hz97 : qz hb = qz hb97) (hex : qEx h0 hb) (hnn : qn hb = qn h0 + 0) (hzz : qz hb = qz h0 + 0) (okl0 : qOK hb 11 l0) (bk119 : Int32 × PH → Prop) (hbk119 : ∀ s2, bk119 s2 → E_X12_answer_119 G d h0 hb l0 l1 l2 l3 Q s2) (l4 : Int32) (h : PH) (hwp : wb_X12_answer_119 l0 l1 l2 l3 bk89 bk97 Q bk119 l4 h) (hx119 : qEx hb h) (hn119 : qn h = qn hb) (hz119 : qz h = qz hb) : Ex G (qrm (8 + d) 0 0) mX12_answer (qn h0) (qz h0) (ZN G h0 0 0 (qqi Q)) 119 [(0, .ref l0), (1, .int l1), (2, .int l2), (3, .int l3), (4, .int l4)] [] h := by
  unfold wb_X12_answer_119 at hwp
  have hex := hex.tr hx119
  have hnn := hn119.trans hnn
  have hzz := hz119.trans hzz
  have hx89 := hx89.tr hx119
  have hn89 := hn119.trans hn89
  have hz89 := hz119.trans hz89
  have hx97 := hx97.tr hx119
  have hn97 := hn119.trans hn97
  have hz97 := hz119.trans hz97
  have okl0 := okl0.ex hx119
  refine x_iload (pc := 119) dX12_answer_119 rfl ?_
  refine x_bipush (v := 7) (pc := 121) dX12_answer_121 (by decide) ?_
  refine x_icmp_ge (tgt := 182) (pc := 123) dX12_answer_123 (by decide) (fun c56 => ?_) (fun c56 => ?_)
  · have hwp := hwp.1 c56
    refine y_iinc (c := 1) (pc := 182) dX12_answer_182 rfl (by decide) (by decide) (fun v57 ev57 => ?_)
    have hwp := hwp v57 ev57
    refine x_lvE (lv2 := [(3, .int v57), (0, .ref l0), (1, .int l1), (2, .int l2), (4, .int l4)]) rfl ?_
    refine x_goto (tgt := 97) (pc := 185) dX12_answer_185 (by decide) ?_
    refine x_sub [1, 2, 3, 0] rfl ?_
    exact hbk97 _ hwp ⟨hx97, hn97, hz97⟩
  · have hwp := hwp.2 c56
    refine x_aload_n (pc := 126) dX12_answer_126 rfl ?_
    obtain ⟨b58, e59, hwp⟩ := hwp
    refine x_getR (pc := 127) dX12_answer_127 qRX12_66 okl0 e59 (fun okb58 => ?_)
    refine x_bipush (v := 7) (pc := 130) dX12_answer_130 (by decide) ?_
    refine x_iload_n (pc := 132) dX12_answer_132 rfl ?_
    refine x_imul (pc := 133) dX12_answer_133 ?_
    refine x_iload (pc := 134) dX12_answer_134 rfl ?_
    refine x_iadd (pc := 136) dX12_answer_136 ?_
    obtain ⟨i60, hwp⟩ := hwp
    refine x_iaload (pc := 137) dX12_answer_137 okb58 i60 ?_
    refine x_nmI (fun v61 ev61 => ?_)
    have hwp := hwp v61 ev61
    refine x_istore (lv2 := [(5, .int v61), (0, .ref l0), (1, .int l1), (2, .int l2), (3, .int l3), (4, .int l4)]) (pc := 138) dX12_answer_138 (by decide) rfl ?_
    refine x_iload_n (pc := 140) dX12_answer_140 rfl ?_
    refine x_iload (pc := 141) dX12_answer_141 rfl ?_
    refine x_ishr (pc := 143) dX12_answer_143 ?_
    refine x_iconst (v := 1) (pc := 144) dX12_answer_144 (by decide) ?_
    refine x_iand (pc := 145) dX12_answer_145 ?_
    refine x_iconst (v := 1) (pc := 146) dX12_answer_146 (by decide) ?_
    refine x_icmp_ne (tgt := 176) (pc := 147) dX12_answer_147 (by decide) (fun c62 => ?_) (fun c62 => ?_)
    · have hwp := hwp.1 c62
      refine y_iinc (c := 1) (pc := 176) dX12_answer_176 rfl (by decide) (by decide) (fun v63 ev63 => ?_)
      have hwp := hwp v63 ev63
      refine x_lvE (lv2 := [(4, .int v63), (5, .int v61), (0, .ref l0), (1, .int l1), (2, .int l2), (3, .int l3)]) rfl ?_
      refine x_goto (tgt := 119) (pc := 179) dX12_answer_179 (by decide) ?_
      refine x_sub [2, 3, 4, 5, 0] rfl ?_
      exact hbk119 _ hwp ⟨hx119, hn119, hz119⟩
    · have hwp := hwp.2 c62
      refine x_iload (pc := 150) dX12_answer_150 rfl ?_
      refine x_iconst (v := (-1)) (pc := 152) dX12_answer_152 (by decide) ?_
      refine x_icmp_eq (tgt := 176) (pc := 153) dX12_answer_153 (by decide) (fun c64 => ?_) (fun c64 => ?_)
      · have hwp := hwp.1 c64
        refine y_iinc (c := 1) (pc := 176) dX12_answer_176 rfl (by decide) (by decide) (fun v65 ev65 => ?_)
        have hwp := hwp v65 ev65
        refine x_lvE (lv2 := [(4, .int v65), (5, .int v61), (0, .ref l0), (1, .int l1), (2, .int l2), (3, .int l3)]) rfl ?_
        refine x_goto (tgt := 119) (pc := 179) dX12_answer_179 (by decide) ?_
        refine x_sub [2, 3, 4, 5, 0] rfl ?_
        exact hbk119 _ hwp ⟨hx119, hn119, hz119⟩
      · have hwp := hwp.2 c64
        refine x_aload_n (pc := 156) dX12_answer_156 rfl ?_
        obtain ⟨b66, e67, hwp⟩ := hwp
        refine x_getR (pc := 157) dX12_answer_157 qRX12_69 okl0 e67 (fun okb66 => ?_)
        refine x_iload (pc := 160) dX12_answer_160 rfl ?_
        obtain ⟨i68, hwp⟩ := hwp
        refine x_iaload (pc := 162) dX12_answer_162 okb66 i68 ?_
        refine x_iload_n (pc := 163) dX12_answer_163 rfl ?_
        refine x_iconst (v := 1) (pc := 164) dX12_answer_164 (by decide) ?_
        refine x_isub (pc := 165) dX12_answer_165 ?_
        refine x_icmp_ne (tgt := 176) (pc := 166) dX12_answer_166 (by decide) (fun c69 => ?_) (fun c69 => ?_)
        · have hwp := hwp.1 c69
          refine y_iinc (c := 1) (pc := 176) dX12_answer_176 rfl (by decide) (by decide) (fun v70 ev70 => ?_)
          have hwp := hwp v70 ev70
          refine x_lvE (lv2 := [(4, .int v70), (5, .int v61), (0, .ref l0), (1, .int l1), (2, .int l2), (3, .int l3)]) rfl ?_
          refine x_goto (tgt := 119) (pc := 179) dX12_answer_179 (by decide) ?_
          refine x_sub [2, 3, 4, 5, 0] rfl ?_
          exact hbk119 _ hwp ⟨hx119, hn119, hz119⟩
        · have hwp := hwp.2 c69
          refine x_aload_n (pc := 169) dX12_answer_169 rfl ?_
          obtain ⟨b71, e72, hwp⟩ := hwp
          refine x_getR (pc := 170) dX12_answer_170 qRX12_69 okl0 e72 (fun okb71 => ?_)
          refine x_iload_n (pc := 173) dX12_answer_173 rfl ?_
          refine x_iload_n (pc := 174) dX12_answer_174 rfl ?_
          obtain ⟨i74, hwp⟩ := hwp
          refine y_iastore (pc := 175) dX12_answer_175 okb71 i74 (fun h73 eh73 nxh73 => ?_)
          have hwp := hwp h73 eh73
          have hex := hex.tr nxh73.1
          have hnn := nxh73.2.1.trans hnn
          have hzz := nxh73.2.2.trans hzz
          have hx89 := hx89.tr nxh73.1
          have hn89 := nxh73.2.1.trans hn89
          have hz89 := nxh73.2.2.trans hz89
          have hx97 := hx97.tr nxh73.1
          have hn97 := nxh73.2.1.trans hn97
          have hz97 := nxh73.2.2.trans hz97
          have hx119 := hx119.tr nxh73.1
          have hn119 := nxh73.2.1.trans hn119
          have hz119 := nxh73.2.2.trans hz119
          have okl0 := okl0.ex nxh73.1
          have okb58 := okb58.ex nxh73.1
          have okb66 := okb66.ex nxh73.1
          have okb71 := okb71.ex nxh73.1
          refine y_iinc (c := 1) (pc := 176) dX12_answer_176 rfl (by decide) (by decide) (fun v75 ev75 => ?_)
          have hwp := hwp v75 ev75
          refine x_lvE (lv2 := [(4, .int v75), (5, .int v61), (0, .ref l0), (1, .int l1), (2, .int l2), (3, .int l3)]) rfl ?_
          refine x_goto (tgt := 119) (pc := 179) dX12_answer_179 (by decide) ?_
          refine x_sub [2, 3, 4, 5, 0] rfl ?_
          exact hbk119 _ hwp ⟨hx119, hn119, hz119⟩
theorem lp_X12_answer_119 (G : GT) (d : Nat) (h0 hb : PH) (l0 : Nat) (l1 : Int32) (l2 : Int32) (l3 : Int32) (Q : Int32 → PH → Prop) (hb89 : PH) (bk89 : Int32 × PH → Prop) (hbk89 : ∀ s2, bk89 s2 → E_X12_answer_89 G d h0 hb89 l0 l1 Q s2) (hx89 : qEx hb89 hb) (hn89 : qn hb = qn hb89) (hz89 : qz hb = qz hb89) (hb97 : PH) (bk97 : Int32 × PH → Prop) (hbk97 : ∀ s2, bk97 s2 → E_X12_answer_97 G d h0 hb97 l0 l1 l2 Q s2) (hx97 : qEx hb97 hb) (hn97 : qn hb = qn hb97) (hz97 : qz hb = qz hb97) (hex : qEx h0 hb) (hnn : qn hb = qn h0 + 0) (hzz : qz hb = qz h0 + 0) (okl0 : qOK hb 11 l0) {s : Int32 × PH} (hwp : qLoop (wp_X12_answer_119 l0 l1 l2 l3 bk89 bk97 Q) s) : E_X12_answer_119 G d h0 hb l0 l1 l2 l3 Q s :=
  qLoop.use (E := E_X12_answer_119 G d h0 hb l0 l1 l2 l3 Q) (fun back s hbk hw hx => bd_X12_answer_119 G d h0 hb l0 l1 l2 l3 Q hb89 bk89 hbk89 hx89 hn89 hz89 hb97 bk97 hbk97 hx97 hn97 hz97 hex hnn hzz okl0 back hbk s.1 s.2 hw hx.1 hx.2.1 hx.2.2) hwp
def wb_X12_answer_97 (l0 : Nat) (l1 : Int32) (l2 : Int32) (bk89 : Int32 × PH → Prop) (Q : Int32 → PH → Prop) (bk97 : Int32 × PH → Prop) (l3 : Int32) (h : PH) : Prop := ((9 ≤ l3 → ∀ v37 : Int32, v37 = l2 + 1 → bk89 (v37, h)) ∧ (¬ (9 ≤ l3) → (∃ b38, qR h l0 59 = some b38 ∧ (vp_in l3 (qL h b38) ∧ (((qI h b38 l3.toNatClampNeg) = (-1) → (qLoop (wp_X12_answer_119 l0 l1 l2 l3 bk89 bk97 Q) (0, h))) ∧ (¬ ((qI h b38 l3.toNatClampNeg) = (-1)) → ∀ v42 : Int32, v42 = l3 + 1 → bk97 (v42, h)))))))
def wp_X12_answer_97 (l0 : Nat) (l1 : Int32) (l2 : Int32) (bk89 : Int32 × PH → Prop) (Q : Int32 → PH → Prop) (bk97 : Int32 × PH → Prop) (s : Int32 × PH) : Prop := wb_X12_answer_97 l0 l1 l2 bk89 Q bk97 s.1 s.2
set_option maxHeartbeats 4000000 in
set_option maxRecDepth 100000 in
theorem bd_X12_answer_97 (G : GT) (d : Nat) (h0 hb : PH) (l0 : Nat) (l1 : Int32) (l2 : Int32) (Q : Int32 → PH → Prop) (hb89 : PH) (bk89 : Int32 × PH → Prop) (hbk89 : ∀ s2, bk89 s2 → E_X12_answer_89 G d h0 hb89 l0 l1 Q s2) (hx89 : qEx hb89 hb) (hn89 : qn hb = qn hb89) (hz89 : qz hb = qz hb89) (hex : qEx h0 hb) (hnn : qn hb = qn h0 + 0) (hzz : qz hb = qz h0 + 0) (okl0 : qOK hb 11 l0) (bk97 : Int32 × PH → Prop) (hbk97 : ∀ s2, bk97 s2 → E_X12_answer_97 G d h0 hb l0 l1 l2 Q s2) (l3 : Int32) (h : PH) (hwp : wb_X12_answer_97 l0 l1 l2 bk89 Q bk97 l3 h) (hx97 : qEx hb h) (hn97 : qn h = qn hb) (hz97 : qz h = qz hb) : Ex G (qrm (8 + d) 0 0) mX12_answer (qn h0) (qz h0) (ZN G h0 0 0 (qqi Q)) 97 [(0, .ref l0), (1, .int l1), (2, .int l2), (3, .int l3)] [] h := by
  unfold wb_X12_answer_97 at hwp
  have hex := hex.tr hx97
  have hnn := hn97.trans hnn
  have hzz := hz97.trans hzz
  have hx89 := hx89.tr hx97
  have hn89 := hn97.trans hn89
  have hz89 := hz97.trans hz89
  have okl0 := okl0.ex hx97
  refine x_iload_n (pc := 97) dX12_answer_97 rfl ?_
  refine x_bipush (v := 9) (pc := 98) dX12_answer_98 (by decide) ?_
  refine x_icmp_ge (tgt := 188) (pc := 100) dX12_answer_100 (by decide) (fun c36 => ?_) (fun c36 => ?_)
  · have hwp := hwp.1 c36
    refine y_iinc (c := 1) (pc := 188) dX12_answer_188 rfl (by decide) (by decide) (fun v37 ev37 => ?_)
    have hwp := hwp v37 ev37
    refine x_lvE (lv2 := [(2, .int v37), (0, .ref l0), (1, .int l1), (3, .int l3)]) rfl ?_
    refine x_goto (tgt := 89) (pc := 191) dX12_answer_191 (by decide) ?_
    refine x_sub [1, 2, 0] rfl ?_
    exact hbk89 _ hwp ⟨hx89, hn89, hz89⟩
  · have hwp := hwp.2 c36
    refine x_aload_n (pc := 103) dX12_answer_103 rfl ?_
    obtain ⟨b38, e39, hwp⟩ := hwp
    refine x_getR (pc := 104) dX12_answer_104 qRX12_69 okl0 e39 (fun okb38 => ?_)
    refine x_iload_n (pc := 107) dX12_answer_107 rfl ?_
    obtain ⟨i40, hwp⟩ := hwp
    refine x_iaload (pc := 108) dX12_answer_108 okb38 i40 ?_
    refine x_iconst (v := (-1)) (pc := 109) dX12_answer_109 (by decide) ?_
    refine x_icmp_eq (tgt := 116) (pc := 110) dX12_answer_110 (by decide) (fun c41 => ?_) (fun c41 => ?_)
    · have hwp := hwp.1 c41
      refine x_iconst (v := 0) (pc := 116) dX12_answer_116 (by decide) ?_
      refine x_istore (lv2 := [(4, .int 0), (0, .ref l0), (1, .int l1), (2, .int l2), (3, .int l3)]) (pc := 117) dX12_answer_117 (by decide) rfl ?_
      refine x_sub [1, 2, 3, 4, 0] rfl ?_
      exact lp_X12_answer_119 G d h0 h l0 l1 l2 l3 Q hb89 bk89 hbk89 hx89 hn89 hz89 hb bk97 hbk97 hx97 hn97 hz97 hex hnn hzz okl0 hwp ⟨qEx.rf _, rfl, rfl⟩
    · have hwp := hwp.2 c41
      refine x_goto (tgt := 182) (pc := 113) dX12_answer_113 (by decide) ?_
      refine y_iinc (c := 1) (pc := 182) dX12_answer_182 rfl (by decide) (by decide) (fun v42 ev42 => ?_)
      have hwp := hwp v42 ev42
      refine x_lvE (lv2 := [(3, .int v42), (0, .ref l0), (1, .int l1), (2, .int l2)]) rfl ?_
      refine x_goto (tgt := 97) (pc := 185) dX12_answer_185 (by decide) ?_
      refine x_sub [1, 2, 3, 0] rfl ?_
      exact hbk97 _ hwp ⟨hx97, hn97, hz97⟩
theorem lp_X12_answer_97 (G : GT) (d : Nat) (h0 hb : PH) (l0 : Nat) (l1 : Int32) (l2 : Int32) (Q : Int32 → PH → Prop) (hb89 : PH) (bk89 : Int32 × PH → Prop) (hbk89 : ∀ s2, bk89 s2 → E_X12_answer_89 G d h0 hb89 l0 l1 Q s2) (hx89 : qEx hb89 hb) (hn89 : qn hb = qn hb89) (hz89 : qz hb = qz hb89) (hex : qEx h0 hb) (hnn : qn hb = qn h0 + 0) (hzz : qz hb = qz h0 + 0) (okl0 : qOK hb 11 l0) {s : Int32 × PH} (hwp : qLoop (wp_X12_answer_97 l0 l1 l2 bk89 Q) s) : E_X12_answer_97 G d h0 hb l0 l1 l2 Q s :=
  qLoop.use (E := E_X12_answer_97 G d h0 hb l0 l1 l2 Q) (fun back s hbk hw hx => bd_X12_answer_97 G d h0 hb l0 l1 l2 Q hb89 bk89 hbk89 hx89 hn89 hz89 hex hnn hzz okl0 back hbk s.1 s.2 hw hx.1 hx.2.1 hx.2.2) hwp
def wb_X12_answer_231 (l0 : Nat) (l1 : Int32) (l2 : Int32) (l3 : Int32) (bk220 : Int32 × Int32 × PH → Prop) (Q : Int32 → PH → Prop) (bk231 : Int32 × PH → Prop) (l4 : Int32) (h : PH) : Prop := (wp_X12_leadsOn l0 l2 l4 l1 h (fun r44 h43 => ((¬ r44 = 0 → (∃ b46, qR h43 l0 60 = some b46 ∧ (vp_in l3 (qL h43 b46) ∧ ∀ h48, h48 = qsI h43 b46 l3.toNatClampNeg l4 → (∃ b50, qR h48 l0 57 = some b50 ∧ (vp_in ((7 * l2) + l4) (qL h48 b50) ∧ ∀ v53 : Int32, v53 = qI h48 b50 ((7 * l2) + l4).toNatClampNeg → ∀ v54 : Int32, v54 = l3 + 1 → bk220 (v53, v54, h48)))))) ∧ (r44 = 0 → ∀ v55 : Int32, v55 = l4 + 1 → bk231 (v55, h43)))))
def wp_X12_answer_231 (l0 : Nat) (l1 : Int32) (l2 : Int32) (l3 : Int32) (bk220 : Int32 × Int32 × PH → Prop) (Q : Int32 → PH → Prop) (bk231 : Int32 × PH → Prop) (s : Int32 × PH) : Prop := wb_X12_answer_231 l0 l1 l2 l3 bk220 Q bk231 s.1 s.2
set_option maxHeartbeats 4000000 in
set_option maxRecDepth 100000 in
theorem bd_X12_answer_231 (G : GT) (d : Nat) (h0 hb : PH) (l0 : Nat) (l1 : Int32) (l2 : Int32) (l3 : Int32) (Q : Int32 → PH → Prop) (hb220 : PH) (bk220 : Int32 × Int32 × PH → Prop) (hbk220 : ∀ s2, bk220 s2 → E_X12_answer_220 G d h0 hb220 l0 l1 Q s2) (hx220 : qEx hb220 hb) (hn220 : qn hb = qn hb220) (hz220 : qz hb = qz hb220) (hex : qEx h0 hb) (hnn : qn hb = qn h0 + 0) (hzz : qz hb = qz h0 + 0) (okl0 : qOK hb 11 l0) (bk231 : Int32 × PH → Prop) (hbk231 : ∀ s2, bk231 s2 → E_X12_answer_231 G d h0 hb l0 l1 l2 l3 Q s2) (l4 : Int32) (h : PH) (hwp : wb_X12_answer_231 l0 l1 l2 l3 bk220 Q bk231 l4 h) (hx231 : qEx hb h) (hn231 : qn h = qn hb) (hz231 : qz h = qz hb) : Ex G (qrm (8 + d) 0 0) mX12_answer (qn h0) (qz h0) (ZN G h0 0 0 (qqi Q)) 231 [(0, .ref l0), (1, .int l1), (2, .int l2), (3, .int l3), (4, .int l4)] [] h := by
  unfold wb_X12_answer_231 at hwp
  have hex := hex.tr hx231
  have hnn := hn231.trans hnn
  have hzz := hz231.trans hzz
  have hx220 := hx220.tr hx231
  have hn220 := hn231.trans hn220
  have hz220 := hz231.trans hz220
  have okl0 := okl0.ex hx231
  refine x_aload_n (pc := 231) dX12_answer_231 rfl ?_
  refine x_iload_n (pc := 232) dX12_answer_232 rfl ?_
  refine x_iload (pc := 233) dX12_answer_233 rfl ?_
  refine x_iload_n (pc := 235) dX12_answer_235 rfl ?_
  refine x_invV (As := [.int l2, .int l4, .int l1]) (st := []) (pc := 236) dX12_answer_236 lRX12_430 fX12_leadsOn vX12_leadsOn okl0 rfl (Nat.le_of_ble_eq_true rfl) (q_R (by omega) (by decide)) (q_C hnn hzz (by decide) (by decide)) (sn_X12_leadsOn G (d + 7) l0 l2 l4 l1 h _ okl0 hwp) (k_b (fun r44 h43 hwp zbr44 cxh43 => ?_))
  have hex := hex.tr cxh43.1
  have hnn : qn h43 = qn h0 + 0 := by have := cxh43.2.1; omega
  have hzz : qz h43 = qz h0 + 0 := by have := cxh43.2.2; omega
  have hx220 := hx220.tr cxh43.1
  have hn220 : qn h43 = qn hb220 := by have := cxh43.2.1; omega
  have hz220 : qz h43 = qz hb220 := by have := cxh43.2.2; omega
  have hx231 := hx231.tr cxh43.1
  have hn231 : qn h43 = qn hb := by have := cxh43.2.1; omega
  have hz231 : qz h43 = qz hb := by have := cxh43.2.2; omega
  have okl0 := okl0.ex cxh43.1
  refine x_if_ne (tgt := 248) (pc := 239) dX12_answer_239 (by decide) (fun c45 => ?_) (fun c45 => ?_)
  · have hwp := hwp.1 c45
    refine x_aload_n (pc := 248) dX12_answer_248 rfl ?_
    obtain ⟨b46, e47, hwp⟩ := hwp
    refine x_getR (pc := 249) dX12_answer_249 qRX12_72 okl0 e47 (fun okb46 => ?_)
    refine x_iload_n (pc := 252) dX12_answer_252 rfl ?_
    refine x_iload (pc := 253) dX12_answer_253 rfl ?_
    obtain ⟨i49, hwp⟩ := hwp
    refine y_iastore (pc := 255) dX12_answer_255 okb46 i49 (fun h48 eh48 nxh48 => ?_)
    have hwp := hwp h48 eh48
    have hex := hex.tr nxh48.1
    have hnn := nxh48.2.1.trans hnn
    have hzz := nxh48.2.2.trans hzz
    have hx220 := hx220.tr nxh48.1
    have hn220 := nxh48.2.1.trans hn220
    have hz220 := nxh48.2.2.trans hz220
    have hx231 := hx231.tr nxh48.1
    have hn231 := nxh48.2.1.trans hn231
    have hz231 := nxh48.2.2.trans hz231
    have okl0 := okl0.ex nxh48.1
    have okb46 := okb46.ex nxh48.1
    refine x_aload_n (pc := 256) dX12_answer_256 rfl ?_
    obtain ⟨b50, e51, hwp⟩ := hwp
    refine x_getR (pc := 257) dX12_answer_257 qRX12_66 okl0 e51 (fun okb50 => ?_)
    refine x_bipush (v := 7) (pc := 260) dX12_answer_260 (by decide) ?_
    refine x_iload_n (pc := 262) dX12_answer_262 rfl ?_
    refine x_imul (pc := 263) dX12_answer_263 ?_
    refine x_iload (pc := 264) dX12_answer_264 rfl ?_
    refine x_iadd (pc := 266) dX12_answer_266 ?_
    obtain ⟨i52, hwp⟩ := hwp
    refine x_iaload (pc := 267) dX12_answer_267 okb50 i52 ?_
    refine x_nmI (fun v53 ev53 => ?_)
    have hwp := hwp v53 ev53
    refine x_istore_n (lv2 := [(2, .int v53), (0, .ref l0), (1, .int l1), (3, .int l3), (4, .int l4)]) (pc := 268) dX12_answer_268 (by decide) rfl ?_
    refine y_iinc (c := 1) (pc := 269) dX12_answer_269 rfl (by decide) (by decide) (fun v54 ev54 => ?_)
    have hwp := hwp v54 ev54
    refine x_lvE (lv2 := [(3, .int v54), (2, .int v53), (0, .ref l0), (1, .int l1), (4, .int l4)]) rfl ?_
    refine x_goto (tgt := 220) (pc := 272) dX12_answer_272 (by decide) ?_
    refine x_sub [2, 3, 1, 0] rfl ?_
    exact hbk220 _ hwp ⟨hx220, hn220, hz220⟩
  · have hwp := hwp.2 c45
    refine y_iinc (c := 1) (pc := 242) dX12_answer_242 rfl (by decide) (by decide) (fun v55 ev55 => ?_)
    have hwp := hwp v55 ev55
    refine x_lvE (lv2 := [(4, .int v55), (0, .ref l0), (1, .int l1), (2, .int l2), (3, .int l3)]) rfl ?_
    refine x_goto (tgt := 231) (pc := 245) dX12_answer_245 (by decide) ?_
    refine x_sub [1, 2, 3, 4, 0] rfl ?_
    exact hbk231 _ hwp ⟨hx231, hn231, hz231⟩
theorem lp_X12_answer_231 (G : GT) (d : Nat) (h0 hb : PH) (l0 : Nat) (l1 : Int32) (l2 : Int32) (l3 : Int32) (Q : Int32 → PH → Prop) (hb220 : PH) (bk220 : Int32 × Int32 × PH → Prop) (hbk220 : ∀ s2, bk220 s2 → E_X12_answer_220 G d h0 hb220 l0 l1 Q s2) (hx220 : qEx hb220 hb) (hn220 : qn hb = qn hb220) (hz220 : qz hb = qz hb220) (hex : qEx h0 hb) (hnn : qn hb = qn h0 + 0) (hzz : qz hb = qz h0 + 0) (okl0 : qOK hb 11 l0) {s : Int32 × PH} (hwp : qLoop (wp_X12_answer_231 l0 l1 l2 l3 bk220 Q) s) : E_X12_answer_231 G d h0 hb l0 l1 l2 l3 Q s :=
  qLoop.use (E := E_X12_answer_231 G d h0 hb l0 l1 l2 l3 Q) (fun back s hbk hw hx => bd_X12_answer_231 G d h0 hb l0 l1 l2 l3 Q hb220 bk220 hbk220 hx220 hn220 hz220 hex hnn hzz okl0 back hbk s.1 s.2 hw hx.1 hx.2.1 hx.2.2) hwp
def wb_X12_answer_220 (l0 : Nat) (l1 : Int32)  (Q : Int32 → PH → Prop) (bk220 : Int32 × Int32 × PH → Prop) (l2 : Int32) (l3 : Int32) (h : PH) : Prop := (((qI h l0 61) ≤ l3 → Q (qI h l0 61) h) ∧ (¬ ((qI h l0 61) ≤ l3) → (qLoop (wp_X12_answer_231 l0 l1 l2 l3 bk220 Q) (0, h))))
def wp_X12_answer_220 (l0 : Nat) (l1 : Int32)  (Q : Int32 → PH → Prop) (bk220 : Int32 × Int32 × PH → Prop) (s : Int32 × Int32 × PH) : Prop := wb_X12_answer_220 l0 l1 Q bk220 s.1 s.2.1 s.2.2
set_option maxHeartbeats 4000000 in
set_option maxRecDepth 100000 in
theorem bd_X12_answer_220 (G : GT) (d : Nat) (h0 hb : PH) (l0 : Nat) (l1 : Int32) (Q : Int32 → PH → Prop)  (hex : qEx h0 hb) (hnn : qn hb = qn h0 + 0) (hzz : qz hb = qz h0 + 0) (okl0 : qOK hb 11 l0) (bk220 : Int32 × Int32 × PH → Prop) (hbk220 : ∀ s2, bk220 s2 → E_X12_answer_220 G d h0 hb l0 l1 Q s2) (l2 : Int32) (l3 : Int32) (h : PH) (hwp : wb_X12_answer_220 l0 l1 Q bk220 l2 l3 h) (hx220 : qEx hb h) (hn220 : qn h = qn hb) (hz220 : qz h = qz hb) : Ex G (qrm (8 + d) 0 0) mX12_answer (qn h0) (qz h0) (ZN G h0 0 0 (qqi Q)) 220 [(0, .ref l0), (1, .int l1), (2, .int l2), (3, .int l3)] [] h := by
  unfold wb_X12_answer_220 at hwp
  have hex := hex.tr hx220
  have hnn := hn220.trans hnn
  have hzz := hz220.trans hzz
  have okl0 := okl0.ex hx220
  refine x_iload_n (pc := 220) dX12_answer_220 rfl ?_
  refine x_aload_n (pc := 221) dX12_answer_221 rfl ?_
  refine x_getI (pc := 222) dX12_answer_222 qRX12_427 okl0 (by decide) ?_
  refine x_icmp_ge (tgt := 275) (pc := 225) dX12_answer_225 (by decide) (fun c35 => ?_) (fun c35 => ?_)
  · have hwp := hwp.1 c35
    refine x_aload_n (pc := 275) dX12_answer_275 rfl ?_
    refine x_getI (pc := 276) dX12_answer_276 qRX12_427 okl0 (by decide) ?_
    exact x_iret (pc := 279) dX12_answer_279 rfl hex hnn hzz ⟨_, rfl, hwp⟩
  · have hwp := hwp.2 c35
    refine x_iconst (v := 0) (pc := 228) dX12_answer_228 (by decide) ?_
    refine x_istore (lv2 := [(4, .int 0), (0, .ref l0), (1, .int l1), (2, .int l2), (3, .int l3)]) (pc := 229) dX12_answer_229 (by decide) rfl ?_
    refine x_sub [1, 2, 3, 4, 0] rfl ?_
    exact lp_X12_answer_231 G d h0 h l0 l1 l2 l3 Q hb bk220 hbk220 hx220 hn220 hz220 hex hnn hzz okl0 hwp ⟨qEx.rf _, rfl, rfl⟩
theorem lp_X12_answer_220 (G : GT) (d : Nat) (h0 hb : PH) (l0 : Nat) (l1 : Int32) (Q : Int32 → PH → Prop)  (hex : qEx h0 hb) (hnn : qn hb = qn h0 + 0) (hzz : qz hb = qz h0 + 0) (okl0 : qOK hb 11 l0) {s : Int32 × Int32 × PH} (hwp : qLoop (wp_X12_answer_220 l0 l1 Q) s) : E_X12_answer_220 G d h0 hb l0 l1 Q s :=
  qLoop.use (E := E_X12_answer_220 G d h0 hb l0 l1 Q) (fun back s hbk hw hx => bd_X12_answer_220 G d h0 hb l0 l1 Q hex hnn hzz okl0 back hbk s.1 s.2.1 s.2.2 hw hx.1 hx.2.1 hx.2.2) hwp
def wb_X12_answer_89 (l0 : Nat) (l1 : Int32)  (Q : Int32 → PH → Prop) (bk89 : Int32 × PH → Prop) (l2 : Int32) (h : PH) : Prop := ((10 ≤ l2 → (∃ b27, qR h l0 59 = some b27 ∧ (vp_in 0 (qL h b27) ∧ ((¬ (qI h b27 (0 : Int32).toNatClampNeg) = (-1) → (∃ b31, qR h l0 59 = some b31 ∧ (vp_in 0 (qL h b31) ∧ (∀ h34, h34 = qsI h l0 61 (qI h b31 (0 : Int32).toNatClampNeg) → (qLoop (wp_X12_answer_220 l0 l1 Q) (0, 0, h34)))))) ∧ ((qI h b27 (0 : Int32).toNatClampNeg) = (-1) → Q (-1) h))))) ∧ (¬ (10 ≤ l2) → (qLoop (wp_X12_answer_97 l0 l1 l2 bk89 Q) (0, h))))
def wp_X12_answer_89 (l0 : Nat) (l1 : Int32)  (Q : Int32 → PH → Prop) (bk89 : Int32 × PH → Prop) (s : Int32 × PH) : Prop := wb_X12_answer_89 l0 l1 Q bk89 s.1 s.2
set_option maxHeartbeats 4000000 in
set_option maxRecDepth 100000 in
theorem bd_X12_answer_89 (G : GT) (d : Nat) (h0 hb : PH) (l0 : Nat) (l1 : Int32) (Q : Int32 → PH → Prop)  (hex : qEx h0 hb) (hnn : qn hb = qn h0 + 0) (hzz : qz hb = qz h0 + 0) (okl0 : qOK hb 11 l0) (bk89 : Int32 × PH → Prop) (hbk89 : ∀ s2, bk89 s2 → E_X12_answer_89 G d h0 hb l0 l1 Q s2) (l2 : Int32) (h : PH) (hwp : wb_X12_answer_89 l0 l1 Q bk89 l2 h) (hx89 : qEx hb h) (hn89 : qn h = qn hb) (hz89 : qz h = qz hb) : Ex G (qrm (8 + d) 0 0) mX12_answer (qn h0) (qz h0) (ZN G h0 0 0 (qqi Q)) 89 [(0, .ref l0), (1, .int l1), (2, .int l2)] [] h := by
  unfold wb_X12_answer_89 at hwp
  have hex := hex.tr hx89
  have hnn := hn89.trans hnn
  have hzz := hz89.trans hzz
  have okl0 := okl0.ex hx89
  refine x_iload_n (pc := 89) dX12_answer_89 rfl ?_
  refine x_bipush (v := 10) (pc := 90) dX12_answer_90 (by decide) ?_
  refine x_icmp_ge (tgt := 194) (pc := 92) dX12_answer_92 (by decide) (fun c26 => ?_) (fun c26 => ?_)
  · have hwp := hwp.1 c26
    refine x_aload_n (pc := 194) dX12_answer_194 rfl ?_
    obtain ⟨b27, e28, hwp⟩ := hwp
    refine x_getR (pc := 195) dX12_answer_195 qRX12_69 okl0 e28 (fun okb27 => ?_)
    refine x_iconst (v := 0) (pc := 198) dX12_answer_198 (by decide) ?_
    obtain ⟨i29, hwp⟩ := hwp
    refine x_iaload (pc := 199) dX12_answer_199 okb27 i29 ?_
    refine x_iconst (v := (-1)) (pc := 200) dX12_answer_200 (by decide) ?_
    refine x_icmp_ne (tgt := 206) (pc := 201) dX12_answer_201 (by decide) (fun c30 => ?_) (fun c30 => ?_)
    · have hwp := hwp.1 c30
      refine x_aload_n (pc := 206) dX12_answer_206 rfl ?_
      refine x_aload_n (pc := 207) dX12_answer_207 rfl ?_
      obtain ⟨b31, e32, hwp⟩ := hwp
      refine x_getR (pc := 208) dX12_answer_208 qRX12_69 okl0 e32 (fun okb31 => ?_)
      refine x_iconst (v := 0) (pc := 211) dX12_answer_211 (by decide) ?_
      obtain ⟨i33, hwp⟩ := hwp
      refine x_iaload (pc := 212) dX12_answer_212 okb31 i33 ?_
      refine y_putI (pc := 213) dX12_answer_213 qRX12_427 okl0 (fun h34 eh34 nxh34 => ?_)
      have hwp := hwp h34 eh34
      have hex := hex.tr nxh34.1
      have hnn := nxh34.2.1.trans hnn
      have hzz := nxh34.2.2.trans hzz
      have hx89 := hx89.tr nxh34.1
      have hn89 := nxh34.2.1.trans hn89
      have hz89 := nxh34.2.2.trans hz89
      have okl0 := okl0.ex nxh34.1
      have okb27 := okb27.ex nxh34.1
      have okb31 := okb31.ex nxh34.1
      refine x_iconst (v := 0) (pc := 216) dX12_answer_216 (by decide) ?_
      refine x_istore_n (lv2 := [(2, .int 0), (0, .ref l0), (1, .int l1)]) (pc := 217) dX12_answer_217 (by decide) rfl ?_
      refine x_iconst (v := 0) (pc := 218) dX12_answer_218 (by decide) ?_
      refine x_istore_n (lv2 := [(3, .int 0), (2, .int 0), (0, .ref l0), (1, .int l1)]) (pc := 219) dX12_answer_219 (by decide) rfl ?_
      refine x_sub [2, 3, 1, 0] rfl ?_
      exact lp_X12_answer_220 G d h0 h34 l0 l1 Q hex hnn hzz okl0 hwp ⟨qEx.rf _, rfl, rfl⟩
    · have hwp := hwp.2 c30
      refine x_iconst (v := (-1)) (pc := 204) dX12_answer_204 (by decide) ?_
      exact x_iret (pc := 205) dX12_answer_205 rfl hex hnn hzz ⟨_, rfl, hwp⟩
  · have hwp := hwp.2 c26
    refine x_iconst (v := 0) (pc := 95) dX12_answer_95 (by decide) ?_
    refine x_istore_n (lv2 := [(3, .int 0), (0, .ref l0), (1, .int l1), (2, .int l2)]) (pc := 96) dX12_answer_96 (by decide) rfl ?_
    refine x_sub [1, 2, 3, 0] rfl ?_
    exact lp_X12_answer_97 G d h0 h l0 l1 l2 Q hb bk89 hbk89 hx89 hn89 hz89 hex hnn hzz okl0 hwp ⟨qEx.rf _, rfl, rfl⟩
theorem lp_X12_answer_89 (G : GT) (d : Nat) (h0 hb : PH) (l0 : Nat) (l1 : Int32) (Q : Int32 → PH → Prop)  (hex : qEx h0 hb) (hnn : qn hb = qn h0 + 0) (hzz : qz hb = qz h0 + 0) (okl0 : qOK hb 11 l0) {s : Int32 × PH} (hwp : qLoop (wp_X12_answer_89 l0 l1 Q) s) : E_X12_answer_89 G d h0 hb l0 l1 Q s :=
  qLoop.use (E := E_X12_answer_89 G d h0 hb l0 l1 Q) (fun back s hbk hw hx => bd_X12_answer_89 G d h0 hb l0 l1 Q hex hnn hzz okl0 back hbk s.1 s.2 hw hx.1 hx.2.1 hx.2.2) hwp
def wb_X12_answer_58 (l0 : Nat) (l1 : Int32)  (Q : Int32 → PH → Prop) (bk58 : Int32 × PH → Prop) (l2 : Int32) (h : PH) : Prop := ((10 ≤ l2 → (qLoop (wp_X12_answer_89 l0 l1 Q) (1, h))) ∧ (¬ (10 ≤ l2) → (∃ b17, qR h l0 59 = some b17 ∧ ((¬ l2 = 9 → (vp_in l2 (qL h b17) ∧ ∀ h20, h20 = qsI h b17 l2.toNatClampNeg (-1) → ∀ v22 : Int32, v22 = l2 + 1 → bk58 (v22, h20))) ∧ (l2 = 9 → (vp_in l2 (qL h b17) ∧ ∀ h23, h23 = qsI h b17 l2.toNatClampNeg 0 → ∀ v25 : Int32, v25 = l2 + 1 → bk58 (v25, h23)))))))
def wp_X12_answer_58 (l0 : Nat) (l1 : Int32)  (Q : Int32 → PH → Prop) (bk58 : Int32 × PH → Prop) (s : Int32 × PH) : Prop := wb_X12_answer_58 l0 l1 Q bk58 s.1 s.2
set_option maxHeartbeats 4000000 in
set_option maxRecDepth 100000 in
theorem bd_X12_answer_58 (G : GT) (d : Nat) (h0 hb : PH) (l0 : Nat) (l1 : Int32) (Q : Int32 → PH → Prop)  (hex : qEx h0 hb) (hnn : qn hb = qn h0 + 0) (hzz : qz hb = qz h0 + 0) (okl0 : qOK hb 11 l0) (bk58 : Int32 × PH → Prop) (hbk58 : ∀ s2, bk58 s2 → E_X12_answer_58 G d h0 hb l0 l1 Q s2) (l2 : Int32) (h : PH) (hwp : wb_X12_answer_58 l0 l1 Q bk58 l2 h) (hx58 : qEx hb h) (hn58 : qn h = qn hb) (hz58 : qz h = qz hb) : Ex G (qrm (8 + d) 0 0) mX12_answer (qn h0) (qz h0) (ZN G h0 0 0 (qqi Q)) 58 [(0, .ref l0), (1, .int l1), (2, .int l2)] [] h := by
  unfold wb_X12_answer_58 at hwp
  have hex := hex.tr hx58
  have hnn := hn58.trans hnn
  have hzz := hz58.trans hzz
  have okl0 := okl0.ex hx58
  refine x_iload_n (pc := 58) dX12_answer_58 rfl ?_
  refine x_bipush (v := 10) (pc := 59) dX12_answer_59 (by decide) ?_
  refine x_icmp_ge (tgt := 87) (pc := 61) dX12_answer_61 (by decide) (fun c16 => ?_) (fun c16 => ?_)
  · have hwp := hwp.1 c16
    refine x_iconst (v := 1) (pc := 87) dX12_answer_87 (by decide) ?_
    refine x_istore_n (lv2 := [(2, .int 1), (0, .ref l0), (1, .int l1)]) (pc := 88) dX12_answer_88 (by decide) rfl ?_
    refine x_sub [1, 2, 0] rfl ?_
    exact lp_X12_answer_89 G d h0 h l0 l1 Q hex hnn hzz okl0 hwp ⟨qEx.rf _, rfl, rfl⟩
  · have hwp := hwp.2 c16
    refine x_aload_n (pc := 64) dX12_answer_64 rfl ?_
    obtain ⟨b17, e18, hwp⟩ := hwp
    refine x_getR (pc := 65) dX12_answer_65 qRX12_69 okl0 e18 (fun okb17 => ?_)
    refine x_iload_n (pc := 68) dX12_answer_68 rfl ?_
    refine x_iload_n (pc := 69) dX12_answer_69 rfl ?_
    refine x_bipush (v := 9) (pc := 70) dX12_answer_70 (by decide) ?_
    refine x_icmp_ne (tgt := 79) (pc := 72) dX12_answer_72 (by decide) (fun c19 => ?_) (fun c19 => ?_)
    · have hwp := hwp.1 c19
      refine x_iconst (v := (-1)) (pc := 79) dX12_answer_79 (by decide) ?_
      obtain ⟨i21, hwp⟩ := hwp
      refine y_iastore (pc := 80) dX12_answer_80 okb17 i21 (fun h20 eh20 nxh20 => ?_)
      have hwp := hwp h20 eh20
      have hex := hex.tr nxh20.1
      have hnn := nxh20.2.1.trans hnn
      have hzz := nxh20.2.2.trans hzz
      have hx58 := hx58.tr nxh20.1
      have hn58 := nxh20.2.1.trans hn58
      have hz58 := nxh20.2.2.trans hz58
      have okl0 := okl0.ex nxh20.1
      have okb17 := okb17.ex nxh20.1
      refine y_iinc (c := 1) (pc := 81) dX12_answer_81 rfl (by decide) (by decide) (fun v22 ev22 => ?_)
      have hwp := hwp v22 ev22
      refine x_lvE (lv2 := [(2, .int v22), (0, .ref l0), (1, .int l1)]) rfl ?_
      refine x_goto (tgt := 58) (pc := 84) dX12_answer_84 (by decide) ?_
      refine x_sub [1, 2, 0] rfl ?_
      exact hbk58 _ hwp ⟨hx58, hn58, hz58⟩
    · have hwp := hwp.2 c19
      refine x_iconst (v := 0) (pc := 75) dX12_answer_75 (by decide) ?_
      refine x_goto (tgt := 80) (pc := 76) dX12_answer_76 (by decide) ?_
      obtain ⟨i24, hwp⟩ := hwp
      refine y_iastore (pc := 80) dX12_answer_80 okb17 i24 (fun h23 eh23 nxh23 => ?_)
      have hwp := hwp h23 eh23
      have hex := hex.tr nxh23.1
      have hnn := nxh23.2.1.trans hnn
      have hzz := nxh23.2.2.trans hzz
      have hx58 := hx58.tr nxh23.1
      have hn58 := nxh23.2.1.trans hn58
      have hz58 := nxh23.2.2.trans hz58
      have okl0 := okl0.ex nxh23.1
      have okb17 := okb17.ex nxh23.1
      refine y_iinc (c := 1) (pc := 81) dX12_answer_81 rfl (by decide) (by decide) (fun v25 ev25 => ?_)
      have hwp := hwp v25 ev25
      refine x_lvE (lv2 := [(2, .int v25), (0, .ref l0), (1, .int l1)]) rfl ?_
      refine x_goto (tgt := 58) (pc := 84) dX12_answer_84 (by decide) ?_
      refine x_sub [1, 2, 0] rfl ?_
      exact hbk58 _ hwp ⟨hx58, hn58, hz58⟩
theorem lp_X12_answer_58 (G : GT) (d : Nat) (h0 hb : PH) (l0 : Nat) (l1 : Int32) (Q : Int32 → PH → Prop)  (hex : qEx h0 hb) (hnn : qn hb = qn h0 + 0) (hzz : qz hb = qz h0 + 0) (okl0 : qOK hb 11 l0) {s : Int32 × PH} (hwp : qLoop (wp_X12_answer_58 l0 l1 Q) s) : E_X12_answer_58 G d h0 hb l0 l1 Q s :=
  qLoop.use (E := E_X12_answer_58 G d h0 hb l0 l1 Q) (fun back s hbk hw hx => bd_X12_answer_58 G d h0 hb l0 l1 Q hex hnn hzz okl0 back hbk s.1 s.2 hw hx.1 hx.2.1 hx.2.2) hwp
def wb_X12_answer_30 (l0 : Nat)  (Q : Int32 → PH → Prop) (bk30 : Int32 × Int32 × PH → Prop) (l1 : Int32) (l2 : Int32) (h : PH) : Prop := ((7 ≤ l2 → (qLoop (wp_X12_answer_58 l0 l1 Q) (0, h))) ∧ (¬ (7 ≤ l2) → (wp_X12_isRight l0 l2 h (fun r11 h10 => ((r11 = 0 → ∀ v13 : Int32, v13 = l2 + 1 → bk30 (l1, v13, h10)) ∧ (¬ (r11 = 0) → ∀ v14 : Int32, v14 = l1 ||| (1 <<< (l2 &&& 31)) → ∀ v15 : Int32, v15 = l2 + 1 → bk30 (v14, v15, h10)))))))
def wp_X12_answer_30 (l0 : Nat)  (Q : Int32 → PH → Prop) (bk30 : Int32 × Int32 × PH → Prop) (s : Int32 × Int32 × PH) : Prop := wb_X12_answer_30 l0 Q bk30 s.1 s.2.1 s.2.2
set_option maxHeartbeats 4000000 in
set_option maxRecDepth 100000 in
theorem bd_X12_answer_30 (G : GT) (d : Nat) (h0 hb : PH) (l0 : Nat) (Q : Int32 → PH → Prop)  (hex : qEx h0 hb) (hnn : qn hb = qn h0 + 0) (hzz : qz hb = qz h0 + 0) (okl0 : qOK hb 11 l0) (bk30 : Int32 × Int32 × PH → Prop) (hbk30 : ∀ s2, bk30 s2 → E_X12_answer_30 G d h0 hb l0 Q s2) (l1 : Int32) (l2 : Int32) (h : PH) (hwp : wb_X12_answer_30 l0 Q bk30 l1 l2 h) (hx30 : qEx hb h) (hn30 : qn h = qn hb) (hz30 : qz h = qz hb) : Ex G (qrm (8 + d) 0 0) mX12_answer (qn h0) (qz h0) (ZN G h0 0 0 (qqi Q)) 30 [(0, .ref l0), (1, .int l1), (2, .int l2)] [] h := by
  unfold wb_X12_answer_30 at hwp
  have hex := hex.tr hx30
  have hnn := hn30.trans hnn
  have hzz := hz30.trans hzz
  have okl0 := okl0.ex hx30
  refine x_iload_n (pc := 30) dX12_answer_30 rfl ?_
  refine x_bipush (v := 7) (pc := 31) dX12_answer_31 (by decide) ?_
  refine x_icmp_ge (tgt := 56) (pc := 33) dX12_answer_33 (by decide) (fun c9 => ?_) (fun c9 => ?_)
  · have hwp := hwp.1 c9
    refine x_iconst (v := 0) (pc := 56) dX12_answer_56 (by decide) ?_
    refine x_istore_n (lv2 := [(2, .int 0), (0, .ref l0), (1, .int l1)]) (pc := 57) dX12_answer_57 (by decide) rfl ?_
    refine x_sub [1, 2, 0] rfl ?_
    exact lp_X12_answer_58 G d h0 h l0 l1 Q hex hnn hzz okl0 hwp ⟨qEx.rf _, rfl, rfl⟩
  · have hwp := hwp.2 c9
    refine x_aload_n (pc := 36) dX12_answer_36 rfl ?_
    refine x_iload_n (pc := 37) dX12_answer_37 rfl ?_
    refine x_invV (As := [.int l2]) (st := []) (pc := 38) dX12_answer_38 lRX12_424 fX12_isRight vX12_isRight okl0 rfl (Nat.le_of_ble_eq_true rfl) (q_R (by omega) (by decide)) (q_C hnn hzz (by decide) (by decide)) (sn_X12_isRight G (d + 0) l0 l2 h _ okl0 hwp) (k_b (fun r11 h10 hwp zbr11 cxh10 => ?_))
    have hex := hex.tr cxh10.1
    have hnn : qn h10 = qn h0 + 0 := by have := cxh10.2.1; omega
    have hzz : qz h10 = qz h0 + 0 := by have := cxh10.2.2; omega
    have hx30 := hx30.tr cxh10.1
    have hn30 : qn h10 = qn hb := by have := cxh10.2.1; omega
    have hz30 : qz h10 = qz hb := by have := cxh10.2.2; omega
    have okl0 := okl0.ex cxh10.1
    refine x_if_eq (tgt := 50) (pc := 41) dX12_answer_41 (by decide) (fun c12 => ?_) (fun c12 => ?_)
    · have hwp := hwp.1 c12
      refine y_iinc (c := 1) (pc := 50) dX12_answer_50 rfl (by decide) (by decide) (fun v13 ev13 => ?_)
      have hwp := hwp v13 ev13
      refine x_lvE (lv2 := [(2, .int v13), (0, .ref l0), (1, .int l1)]) rfl ?_
      refine x_goto (tgt := 30) (pc := 53) dX12_answer_53 (by decide) ?_
      refine x_sub [1, 2, 0] rfl ?_
      exact hbk30 _ hwp ⟨hx30, hn30, hz30⟩
    · have hwp := hwp.2 c12
      refine x_iload_n (pc := 44) dX12_answer_44 rfl ?_
      refine x_iconst (v := 1) (pc := 45) dX12_answer_45 (by decide) ?_
      refine x_iload_n (pc := 46) dX12_answer_46 rfl ?_
      refine x_ishl (pc := 47) dX12_answer_47 ?_
      refine x_ior (pc := 48) dX12_answer_48 ?_
      refine x_nmI (fun v14 ev14 => ?_)
      have hwp := hwp v14 ev14
      refine x_istore_n (lv2 := [(1, .int v14), (0, .ref l0), (2, .int l2)]) (pc := 49) dX12_answer_49 (by decide) rfl ?_
      refine y_iinc (c := 1) (pc := 50) dX12_answer_50 rfl (by decide) (by decide) (fun v15 ev15 => ?_)
      have hwp := hwp v15 ev15
      refine x_lvE (lv2 := [(2, .int v15), (1, .int v14), (0, .ref l0)]) rfl ?_
      refine x_goto (tgt := 30) (pc := 53) dX12_answer_53 (by decide) ?_
      refine x_sub [2, 1, 0] rfl ?_
      exact hbk30 _ hwp ⟨hx30, hn30, hz30⟩
theorem lp_X12_answer_30 (G : GT) (d : Nat) (h0 hb : PH) (l0 : Nat) (Q : Int32 → PH → Prop)  (hex : qEx h0 hb) (hnn : qn hb = qn h0 + 0) (hzz : qz hb = qz h0 + 0) (okl0 : qOK hb 11 l0) {s : Int32 × Int32 × PH} (hwp : qLoop (wp_X12_answer_30 l0 Q) s) : E_X12_answer_30 G d h0 hb l0 Q s :=
  qLoop.use (E := E_X12_answer_30 G d h0 hb l0 Q) (fun back s hbk hw hx => bd_X12_answer_30 G d h0 hb l0 Q hex hnn hzz okl0 back hbk s.1 s.2.1 s.2.2 hw hx.1 hx.2.1 hx.2.2) hwp
def wp_X12_answer (l0 : Nat) (h : PH) (Q : Int32 → PH → Prop) : Prop := (∀ h1, h1 = qsI h l0 0 0 → (wp_X12_lay l0 h1 (fun h2 => ((¬ (qI h2 l0 58) = 0 → (∀ h5, h5 = qsI h2 l0 58 1 → (qLoop (wp_X12_answer_30 l0 Q) (0, 0, h5)))) ∧ ((qI h2 l0 58) = 0 → (wp_X12_invent l0 0 h2 (fun h6 => (∀ h8, h8 = qsI h6 l0 58 1 → (qLoop (wp_X12_answer_30 l0 Q) (0, 0, h8))))))))))
set_option maxHeartbeats 4000000 in
set_option maxRecDepth 100000 in
theorem sn_X12_answer (G : GT) (d : Nat) (l0 : Nat) (h : PH) (Q : Int32 → PH → Prop) (okl0 : qOK h 11 l0) (hwp : wp_X12_answer l0 h Q) : Mt G (8 + d) 0 0 mX12_answer [.ref l0] h (qqi Q) := by
  unfold wp_X12_answer at hwp
  refine Mt.of (by decide) rfl (Nat.le_of_ble_eq_true rfl) ?_
  have hex := qEx.rf h
  have hnn : qn h = qn h + 0 := rfl
  have hzz : qz h = qz h + 0 := rfl
  refine x_lvE (lv2 := [(0, .ref l0)]) rfl ?_
  refine x_aload_n (pc := 0) dX12_answer_0 rfl ?_
  refine x_iconst (v := 0) (pc := 1) dX12_answer_1 (by decide) ?_
  refine y_putI (pc := 2) dX12_answer_2 qRX12_75 okl0 (fun h1 eh1 nxh1 => ?_)
  have hwp := hwp h1 eh1
  have hex := hex.tr nxh1.1
  have hnn := nxh1.2.1.trans hnn
  have hzz := nxh1.2.2.trans hzz
  have okl0 := okl0.ex nxh1.1
  refine x_aload_n (pc := 5) dX12_answer_5 rfl ?_
  refine x_invV (As := []) (st := []) (pc := 6) dX12_answer_6 lRX12_217 fX12_lay vX12_lay okl0 rfl (Nat.le_of_ble_eq_true rfl) (q_R (by omega) (by decide)) (q_C hnn hzz (by decide) (by decide)) (sn_X12_lay G (d + 7) l0 h1 _ okl0 hwp) (k_v (fun h2 hwp cxh2 => ?_))
  have hex := hex.tr cxh2.1
  have hnn : qn h2 = qn h + 0 := by have := cxh2.2.1; omega
  have hzz : qz h2 = qz h + 0 := by have := cxh2.2.2; omega
  have okl0 := okl0.ex cxh2.1
  refine x_aload_n (pc := 9) dX12_answer_9 rfl ?_
  refine x_getI (pc := 10) dX12_answer_10 qRX12_418 okl0 (by decide) ?_
  refine x_if_ne (tgt := 21) (pc := 13) dX12_answer_13 (by decide) (fun c4 => ?_) (fun c4 => ?_)
  · have hwp := hwp.1 c4
    refine x_aload_n (pc := 21) dX12_answer_21 rfl ?_
    refine x_iconst (v := 1) (pc := 22) dX12_answer_22 (by decide) ?_
    refine y_putZ (pc := 23) dX12_answer_23 qRX12_418 okl0 (by decide) (fun h5 eh5 nxh5 => ?_)
    have hwp := hwp h5 eh5
    have hex := hex.tr nxh5.1
    have hnn := nxh5.2.1.trans hnn
    have hzz := nxh5.2.2.trans hzz
    have okl0 := okl0.ex nxh5.1
    refine x_iconst (v := 0) (pc := 26) dX12_answer_26 (by decide) ?_
    refine x_istore_n (lv2 := [(1, .int 0), (0, .ref l0)]) (pc := 27) dX12_answer_27 (by decide) rfl ?_
    refine x_iconst (v := 0) (pc := 28) dX12_answer_28 (by decide) ?_
    refine x_istore_n (lv2 := [(2, .int 0), (1, .int 0), (0, .ref l0)]) (pc := 29) dX12_answer_29 (by decide) rfl ?_
    refine x_sub [2, 1, 0] rfl ?_
    exact lp_X12_answer_30 G d h h5 l0 Q hex hnn hzz okl0 hwp ⟨qEx.rf _, rfl, rfl⟩
  · have hwp := hwp.2 c4
    refine x_aload_n (pc := 16) dX12_answer_16 rfl ?_
    refine x_iconst (v := 0) (pc := 17) dX12_answer_17 (by decide) ?_
    refine x_invV (As := [.int 0]) (st := []) (pc := 18) dX12_answer_18 lRX12_412 fX12_invent vX12_invent okl0 rfl (Nat.le_of_ble_eq_true rfl) (q_R (by omega) (by decide)) (q_C hnn hzz (by decide) (by decide)) (sn_X12_invent G (d + 7) l0 0 h2 _ okl0 hwp) (k_v (fun h6 hwp cxh6 => ?_))
    have hex := hex.tr cxh6.1
    have hnn : qn h6 = qn h + 0 := by have := cxh6.2.1; omega
    have hzz : qz h6 = qz h + 0 := by have := cxh6.2.2; omega
    have okl0 := okl0.ex cxh6.1
    refine x_aload_n (pc := 21) dX12_answer_21 rfl ?_
    refine x_iconst (v := 1) (pc := 22) dX12_answer_22 (by decide) ?_
    refine y_putZ (pc := 23) dX12_answer_23 qRX12_418 okl0 (by decide) (fun h8 eh8 nxh8 => ?_)
    have hwp := hwp h8 eh8
    have hex := hex.tr nxh8.1
    have hnn := nxh8.2.1.trans hnn
    have hzz := nxh8.2.2.trans hzz
    have okl0 := okl0.ex nxh8.1
    refine x_iconst (v := 0) (pc := 26) dX12_answer_26 (by decide) ?_
    refine x_istore_n (lv2 := [(1, .int 0), (0, .ref l0)]) (pc := 27) dX12_answer_27 (by decide) rfl ?_
    refine x_iconst (v := 0) (pc := 28) dX12_answer_28 (by decide) ?_
    refine x_istore_n (lv2 := [(2, .int 0), (1, .int 0), (0, .ref l0)]) (pc := 29) dX12_answer_29 (by decide) rfl ?_
    refine x_sub [2, 1, 0] rfl ?_
    exact lp_X12_answer_30 G d h h8 l0 Q hex hnn hzz okl0 hwp ⟨qEx.rf _, rfl, rfl⟩

theorem dX12_answerAt_0 : decode cX12_answerAt 0 = .ok (.aload_n 0, 1) := by decide +kernel
theorem dX12_answerAt_1 : decode cX12_answerAt 1 = .ok (.iconst 0, 1) := by decide +kernel
theorem dX12_answerAt_2 : decode cX12_answerAt 2 = .ok (.putfield 75, 3) := by decide +kernel
theorem dX12_answerAt_5 : decode cX12_answerAt 5 = .ok (.iload_n 1, 1) := by decide +kernel
theorem dX12_answerAt_6 : decode cX12_answerAt 6 = .ok (.ifCond .lt 20, 3) := by decide +kernel
theorem dX12_answerAt_9 : decode cX12_answerAt 9 = .ok (.iload_n 1, 1) := by decide +kernel
theorem dX12_answerAt_10 : decode cX12_answerAt 10 = .ok (.aload_n 0, 1) := by decide +kernel
theorem dX12_answerAt_11 : decode cX12_answerAt 11 = .ok (.getfield 427, 3) := by decide +kernel
theorem dX12_answerAt_14 : decode cX12_answerAt 14 = .ok (.if_icmp .ge 12, 3) := by decide +kernel
theorem dX12_answerAt_17 : decode cX12_answerAt 17 = .ok (.aload_n 0, 1) := by decide +kernel
theorem dX12_answerAt_18 : decode cX12_answerAt 18 = .ok (.getfield 72, 3) := by decide +kernel
theorem dX12_answerAt_21 : decode cX12_answerAt 21 = .ok (.iload_n 1, 1) := by decide +kernel
theorem dX12_answerAt_22 : decode cX12_answerAt 22 = .ok (.iaload, 1) := by decide +kernel
theorem dX12_answerAt_23 : decode cX12_answerAt 23 = .ok (.goto 4, 3) := by decide +kernel
theorem dX12_answerAt_26 : decode cX12_answerAt 26 = .ok (.iconst (-1), 1) := by decide +kernel
theorem dX12_answerAt_27 : decode cX12_answerAt 27 = .ok (.ireturn, 1) := by decide +kernel
def wp_X12_answerAt (l0 : Nat) (l1 : Int32) (h : PH) (Q : Int32 → PH → Prop) : Prop := (∀ h1, h1 = qsI h l0 0 0 → ((l1 < 0 → Q (-1) h1) ∧ (¬ (l1 < 0) → (((qI h1 l0 61) ≤ l1 → Q (-1) h1) ∧ (¬ ((qI h1 l0 61) ≤ l1) → (∃ b4, qR h1 l0 60 = some b4 ∧ (vp_in l1 (qL h1 b4) ∧ Q (qI h1 b4 l1.toNatClampNeg) h1)))))))
set_option maxHeartbeats 4000000 in
set_option maxRecDepth 100000 in
theorem sn_X12_answerAt (G : GT) (d : Nat) (l0 : Nat) (l1 : Int32) (h : PH) (Q : Int32 → PH → Prop) (okl0 : qOK h 11 l0) (hwp : wp_X12_answerAt l0 l1 h Q) : Mt G (0 + d) 0 0 mX12_answerAt [.ref l0, .int l1] h (qqi Q) := by
  unfold wp_X12_answerAt at hwp
  refine Mt.of (by decide) rfl (Nat.le_of_ble_eq_true rfl) ?_
  have hex := qEx.rf h
  have hnn : qn h = qn h + 0 := rfl
  have hzz : qz h = qz h + 0 := rfl
  refine x_lvE (lv2 := [(0, .ref l0), (1, .int l1)]) rfl ?_
  refine x_aload_n (pc := 0) dX12_answerAt_0 rfl ?_
  refine x_iconst (v := 0) (pc := 1) dX12_answerAt_1 (by decide) ?_
  refine y_putI (pc := 2) dX12_answerAt_2 qRX12_75 okl0 (fun h1 eh1 nxh1 => ?_)
  have hwp := hwp h1 eh1
  have hex := hex.tr nxh1.1
  have hnn := nxh1.2.1.trans hnn
  have hzz := nxh1.2.2.trans hzz
  have okl0 := okl0.ex nxh1.1
  refine x_iload_n (pc := 5) dX12_answerAt_5 rfl ?_
  refine x_if_lt (tgt := 26) (pc := 6) dX12_answerAt_6 (by decide) (fun c2 => ?_) (fun c2 => ?_)
  · have hwp := hwp.1 c2
    refine x_iconst (v := (-1)) (pc := 26) dX12_answerAt_26 (by decide) ?_
    exact x_iret (pc := 27) dX12_answerAt_27 rfl hex hnn hzz ⟨_, rfl, hwp⟩
  · have hwp := hwp.2 c2
    refine x_iload_n (pc := 9) dX12_answerAt_9 rfl ?_
    refine x_aload_n (pc := 10) dX12_answerAt_10 rfl ?_
    refine x_getI (pc := 11) dX12_answerAt_11 qRX12_427 okl0 (by decide) ?_
    refine x_icmp_ge (tgt := 26) (pc := 14) dX12_answerAt_14 (by decide) (fun c3 => ?_) (fun c3 => ?_)
    · have hwp := hwp.1 c3
      refine x_iconst (v := (-1)) (pc := 26) dX12_answerAt_26 (by decide) ?_
      exact x_iret (pc := 27) dX12_answerAt_27 rfl hex hnn hzz ⟨_, rfl, hwp⟩
    · have hwp := hwp.2 c3
      refine x_aload_n (pc := 17) dX12_answerAt_17 rfl ?_
      obtain ⟨b4, e5, hwp⟩ := hwp
      refine x_getR (pc := 18) dX12_answerAt_18 qRX12_72 okl0 e5 (fun okb4 => ?_)
      refine x_iload_n (pc := 21) dX12_answerAt_21 rfl ?_
      obtain ⟨i6, hwp⟩ := hwp
      refine x_iaload (pc := 22) dX12_answerAt_22 okb4 i6 ?_
      refine x_goto (tgt := 27) (pc := 23) dX12_answerAt_23 (by decide) ?_
      exact x_iret (pc := 27) dX12_answerAt_27 rfl hex hnn hzz ⟨_, rfl, hwp⟩

theorem dX12_count_0 : decode cX12_count 0 = .ok (.aload_n 0, 1) := by decide +kernel
theorem dX12_count_1 : decode cX12_count 1 = .ok (.iconst 0, 1) := by decide +kernel
theorem dX12_count_2 : decode cX12_count 2 = .ok (.putfield 75, 3) := by decide +kernel
theorem dX12_count_5 : decode cX12_count 5 = .ok (.aload_n 0, 1) := by decide +kernel
theorem dX12_count_6 : decode cX12_count 6 = .ok (.invokevirtual 217, 3) := by decide +kernel
theorem dX12_count_9 : decode cX12_count 9 = .ok (.iload_n 1, 1) := by decide +kernel
theorem dX12_count_10 : decode cX12_count 10 = .ok (.tableswitch 90 0 4 #[34, 41, 48, 55, 85], 34) := by decide +kernel
theorem dX12_count_44 : decode cX12_count 44 = .ok (.aload_n 0, 1) := by decide +kernel
theorem dX12_count_45 : decode cX12_count 45 = .ok (.getfield 19, 3) := by decide +kernel
theorem dX12_count_48 : decode cX12_count 48 = .ok (.iconst 0, 1) := by decide +kernel
theorem dX12_count_49 : decode cX12_count 49 = .ok (.iaload, 1) := by decide +kernel
theorem dX12_count_50 : decode cX12_count 50 = .ok (.ireturn, 1) := by decide +kernel
theorem dX12_count_51 : decode cX12_count 51 = .ok (.aload_n 0, 1) := by decide +kernel
theorem dX12_count_52 : decode cX12_count 52 = .ok (.getfield 13, 3) := by decide +kernel
theorem dX12_count_55 : decode cX12_count 55 = .ok (.iconst 0, 1) := by decide +kernel
theorem dX12_count_56 : decode cX12_count 56 = .ok (.iaload, 1) := by decide +kernel
theorem dX12_count_57 : decode cX12_count 57 = .ok (.ireturn, 1) := by decide +kernel
theorem dX12_count_58 : decode cX12_count 58 = .ok (.aload_n 0, 1) := by decide +kernel
theorem dX12_count_59 : decode cX12_count 59 = .ok (.getfield 16, 3) := by decide +kernel
theorem dX12_count_62 : decode cX12_count 62 = .ok (.iconst 0, 1) := by decide +kernel
theorem dX12_count_63 : decode cX12_count 63 = .ok (.iaload, 1) := by decide +kernel
theorem dX12_count_64 : decode cX12_count 64 = .ok (.ireturn, 1) := by decide +kernel
theorem dX12_count_65 : decode cX12_count 65 = .ok (.iconst 0, 1) := by decide +kernel
theorem dX12_count_66 : decode cX12_count 66 = .ok (.istore_n 2, 1) := by decide +kernel
theorem dX12_count_67 : decode cX12_count 67 = .ok (.iconst 0, 1) := by decide +kernel
theorem dX12_count_68 : decode cX12_count 68 = .ok (.istore_n 3, 1) := by decide +kernel
theorem dX12_count_69 : decode cX12_count 69 = .ok (.iload_n 3, 1) := by decide +kernel
theorem dX12_count_70 : decode cX12_count 70 = .ok (.bipush 6, 2) := by decide +kernel
theorem dX12_count_72 : decode cX12_count 72 = .ok (.if_icmp .ge 21, 3) := by decide +kernel
theorem dX12_count_75 : decode cX12_count 75 = .ok (.aload_n 0, 1) := by decide +kernel
theorem dX12_count_76 : decode cX12_count 76 = .ok (.getfield 29, 3) := by decide +kernel
theorem dX12_count_79 : decode cX12_count 79 = .ok (.iload_n 3, 1) := by decide +kernel
theorem dX12_count_80 : decode cX12_count 80 = .ok (.baload, 1) := by decide +kernel
theorem dX12_count_81 : decode cX12_count 81 = .ok (.ifCond .eq 6, 3) := by decide +kernel
theorem dX12_count_84 : decode cX12_count 84 = .ok (.iinc 2 1, 3) := by decide +kernel
theorem dX12_count_87 : decode cX12_count 87 = .ok (.iinc 3 1, 3) := by decide +kernel
theorem dX12_count_90 : decode cX12_count 90 = .ok (.goto (-21), 3) := by decide +kernel
theorem dX12_count_93 : decode cX12_count 93 = .ok (.iload_n 2, 1) := by decide +kernel
theorem dX12_count_94 : decode cX12_count 94 = .ok (.ireturn, 1) := by decide +kernel
theorem dX12_count_95 : decode cX12_count 95 = .ok (.aload_n 0, 1) := by decide +kernel
theorem dX12_count_96 : decode cX12_count 96 = .ok (.getfield 79, 3) := by decide +kernel
theorem dX12_count_99 : decode cX12_count 99 = .ok (.ireturn, 1) := by decide +kernel
theorem dX12_count_100 : decode cX12_count 100 = .ok (.iconst (-1), 1) := by decide +kernel
theorem dX12_count_101 : decode cX12_count 101 = .ok (.ireturn, 1) := by decide +kernel
def E_X12_count_69 (G : GT) (d : Nat) (h0 hb : PH) (l0 : Nat) (Q : Int32 → PH → Prop) (s : Int32 × Int32 × PH) : Prop := qEx hb s.2.2 ∧ qn s.2.2 = qn hb ∧ qz s.2.2 = qz hb → Ex G (qrm (1 + d) 0 0) mX12_count (qn h0) (qz h0) (ZN G h0 0 0 (qqi Q)) 69 [(0, .ref l0), (2, .int s.1), (3, .int s.2.1)] [] s.2.2
def wb_X12_count_69 (l0 : Nat)  (Q : Int32 → PH → Prop) (bk69 : Int32 × Int32 × PH → Prop) (l2 : Int32) (l3 : Int32) (h : PH) : Prop := ((6 ≤ l3 → Q l2 h) ∧ (¬ (6 ≤ l3) → (∃ b19, qR h l0 19 = some b19 ∧ (vp_in l3 (qL h b19) ∧ (((qI h b19 l3.toNatClampNeg) = 0 → ∀ v23 : Int32, v23 = l3 + 1 → bk69 (l2, v23, h)) ∧ (¬ ((qI h b19 l3.toNatClampNeg) = 0) → ∀ v24 : Int32, v24 = l2 + 1 → ∀ v25 : Int32, v25 = l3 + 1 → bk69 (v24, v25, h)))))))
def wp_X12_count_69 (l0 : Nat)  (Q : Int32 → PH → Prop) (bk69 : Int32 × Int32 × PH → Prop) (s : Int32 × Int32 × PH) : Prop := wb_X12_count_69 l0 Q bk69 s.1 s.2.1 s.2.2
set_option maxHeartbeats 4000000 in
set_option maxRecDepth 100000 in
theorem bd_X12_count_69 (G : GT) (d : Nat) (h0 hb : PH) (l0 : Nat) (Q : Int32 → PH → Prop)  (hex : qEx h0 hb) (hnn : qn hb = qn h0 + 0) (hzz : qz hb = qz h0 + 0) (okl0 : qOK hb 11 l0) (bk69 : Int32 × Int32 × PH → Prop) (hbk69 : ∀ s2, bk69 s2 → E_X12_count_69 G d h0 hb l0 Q s2) (l2 : Int32) (l3 : Int32) (h : PH) (hwp : wb_X12_count_69 l0 Q bk69 l2 l3 h) (hx69 : qEx hb h) (hn69 : qn h = qn hb) (hz69 : qz h = qz hb) : Ex G (qrm (1 + d) 0 0) mX12_count (qn h0) (qz h0) (ZN G h0 0 0 (qqi Q)) 69 [(0, .ref l0), (2, .int l2), (3, .int l3)] [] h := by
  unfold wb_X12_count_69 at hwp
  have hex := hex.tr hx69
  have hnn := hn69.trans hnn
  have hzz := hz69.trans hzz
  have okl0 := okl0.ex hx69
  refine x_iload_n (pc := 69) dX12_count_69 rfl ?_
  refine x_bipush (v := 6) (pc := 70) dX12_count_70 (by decide) ?_
  refine x_icmp_ge (tgt := 93) (pc := 72) dX12_count_72 (by decide) (fun c18 => ?_) (fun c18 => ?_)
  · have hwp := hwp.1 c18
    refine x_iload_n (pc := 93) dX12_count_93 rfl ?_
    exact x_iret (pc := 94) dX12_count_94 rfl hex hnn hzz ⟨_, rfl, hwp⟩
  · have hwp := hwp.2 c18
    refine x_aload_n (pc := 75) dX12_count_75 rfl ?_
    obtain ⟨b19, e20, hwp⟩ := hwp
    refine x_getR (pc := 76) dX12_count_76 qRX12_29 okl0 e20 (fun okb19 => ?_)
    refine x_iload_n (pc := 79) dX12_count_79 rfl ?_
    obtain ⟨i21, hwp⟩ := hwp
    refine x_zaload (pc := 80) dX12_count_80 okb19 i21 ?_
    refine x_if_eq (tgt := 87) (pc := 81) dX12_count_81 (by decide) (fun c22 => ?_) (fun c22 => ?_)
    · have hwp := hwp.1 c22
      refine y_iinc (c := 1) (pc := 87) dX12_count_87 rfl (by decide) (by decide) (fun v23 ev23 => ?_)
      have hwp := hwp v23 ev23
      refine x_lvE (lv2 := [(3, .int v23), (0, .ref l0), (2, .int l2)]) rfl ?_
      refine x_goto (tgt := 69) (pc := 90) dX12_count_90 (by decide) ?_
      refine x_sub [1, 2, 0] rfl ?_
      exact hbk69 _ hwp ⟨hx69, hn69, hz69⟩
    · have hwp := hwp.2 c22
      refine y_iinc (c := 1) (pc := 84) dX12_count_84 rfl (by decide) (by decide) (fun v24 ev24 => ?_)
      have hwp := hwp v24 ev24
      refine x_lvE (lv2 := [(2, .int v24), (0, .ref l0), (3, .int l3)]) rfl ?_
      refine y_iinc (c := 1) (pc := 87) dX12_count_87 rfl (by decide) (by decide) (fun v25 ev25 => ?_)
      have hwp := hwp v25 ev25
      refine x_lvE (lv2 := [(3, .int v25), (2, .int v24), (0, .ref l0)]) rfl ?_
      refine x_goto (tgt := 69) (pc := 90) dX12_count_90 (by decide) ?_
      refine x_sub [2, 1, 0] rfl ?_
      exact hbk69 _ hwp ⟨hx69, hn69, hz69⟩
theorem lp_X12_count_69 (G : GT) (d : Nat) (h0 hb : PH) (l0 : Nat) (Q : Int32 → PH → Prop)  (hex : qEx h0 hb) (hnn : qn hb = qn h0 + 0) (hzz : qz hb = qz h0 + 0) (okl0 : qOK hb 11 l0) {s : Int32 × Int32 × PH} (hwp : qLoop (wp_X12_count_69 l0 Q) s) : E_X12_count_69 G d h0 hb l0 Q s :=
  qLoop.use (E := E_X12_count_69 G d h0 hb l0 Q) (fun back s hbk hw hx => bd_X12_count_69 G d h0 hb l0 Q hex hnn hzz okl0 back hbk s.1 s.2.1 s.2.2 hw hx.1 hx.2.1 hx.2.2) hwp
def wp_X12_count (l0 : Nat) (l1 : Int32) (h : PH) (Q : Int32 → PH → Prop) : Prop := (∀ h1, h1 = qsI h l0 0 0 → (wp_X12_lay l0 h1 (fun h2 => ((l1 = 0 → (∃ b5, qR h2 l0 16 = some b5 ∧ (vp_in 0 (qL h2 b5) ∧ Q (qI h2 b5 (0 : Int32).toNatClampNeg) h2))) ∧ (l1 = 1 → (∃ b9, qR h2 l0 14 = some b9 ∧ (vp_in 0 (qL h2 b9) ∧ Q (qI h2 b9 (0 : Int32).toNatClampNeg) h2))) ∧ (l1 = 2 → (∃ b13, qR h2 l0 15 = some b13 ∧ (vp_in 0 (qL h2 b13) ∧ Q (qI h2 b13 (0 : Int32).toNatClampNeg) h2))) ∧ (l1 = 3 → (qLoop (wp_X12_count_69 l0 Q) (0, 0, h2))) ∧ (l1 = 4 → Q (qI h2 l0 2) h2) ∧ (¬ l1 = 0 → ¬ l1 = 1 → ¬ l1 = 2 → ¬ l1 = 3 → ¬ l1 = 4 → Q (-1) h2)))))
set_option maxHeartbeats 4000000 in
set_option maxRecDepth 100000 in
theorem sn_X12_count (G : GT) (d : Nat) (l0 : Nat) (l1 : Int32) (h : PH) (Q : Int32 → PH → Prop) (okl0 : qOK h 11 l0) (hwp : wp_X12_count l0 l1 h Q) : Mt G (1 + d) 0 0 mX12_count [.ref l0, .int l1] h (qqi Q) := by
  unfold wp_X12_count at hwp
  refine Mt.of (by decide) rfl (Nat.le_of_ble_eq_true rfl) ?_
  have hex := qEx.rf h
  have hnn : qn h = qn h + 0 := rfl
  have hzz : qz h = qz h + 0 := rfl
  refine x_lvE (lv2 := [(0, .ref l0), (1, .int l1)]) rfl ?_
  refine x_aload_n (pc := 0) dX12_count_0 rfl ?_
  refine x_iconst (v := 0) (pc := 1) dX12_count_1 (by decide) ?_
  refine y_putI (pc := 2) dX12_count_2 qRX12_75 okl0 (fun h1 eh1 nxh1 => ?_)
  have hwp := hwp h1 eh1
  have hex := hex.tr nxh1.1
  have hnn := nxh1.2.1.trans hnn
  have hzz := nxh1.2.2.trans hzz
  have okl0 := okl0.ex nxh1.1
  refine x_aload_n (pc := 5) dX12_count_5 rfl ?_
  refine x_invV (As := []) (st := []) (pc := 6) dX12_count_6 lRX12_217 fX12_lay vX12_lay okl0 rfl (Nat.le_of_ble_eq_true rfl) (q_R (by omega) (by decide)) (q_C hnn hzz (by decide) (by decide)) (sn_X12_lay G (d + 0) l0 h1 _ okl0 hwp) (k_v (fun h2 hwp cxh2 => ?_))
  have hex := hex.tr cxh2.1
  have hnn : qn h2 = qn h + 0 := by have := cxh2.2.1; omega
  have hzz : qz h2 = qz h + 0 := by have := cxh2.2.2; omega
  have okl0 := okl0.ex cxh2.1
  refine x_iload_n (pc := 9) dX12_count_9 rfl ?_
  by_cases c4 : l1 = 0
  · have hwp := hwp.1 c4
    refine x_tabIn (tgt := 44) (pc := 10) dX12_count_10 (by rw [q_teq c4 (n := 0) (by decide)]; decide) (by rw [q_teq c4 (n := 0) (by decide)]; decide) (by rw [q_teq c4 (n := 0) (by decide)]; rfl) (by decide) ?_
    refine x_aload_n (pc := 44) dX12_count_44 rfl ?_
    obtain ⟨b5, e6, hwp⟩ := hwp
    refine x_getR (pc := 45) dX12_count_45 qRX12_19 okl0 e6 (fun okb5 => ?_)
    refine x_iconst (v := 0) (pc := 48) dX12_count_48 (by decide) ?_
    obtain ⟨i7, hwp⟩ := hwp
    refine x_iaload (pc := 49) dX12_count_49 okb5 i7 ?_
    exact x_iret (pc := 50) dX12_count_50 rfl hex hnn hzz ⟨_, rfl, hwp⟩
  by_cases c8 : l1 = 1
  · have hwp := hwp.2.1 c8
    refine x_tabIn (tgt := 51) (pc := 10) dX12_count_10 (by rw [q_teq c8 (n := 1) (by decide)]; decide) (by rw [q_teq c8 (n := 1) (by decide)]; decide) (by rw [q_teq c8 (n := 1) (by decide)]; rfl) (by decide) ?_
    refine x_aload_n (pc := 51) dX12_count_51 rfl ?_
    obtain ⟨b9, e10, hwp⟩ := hwp
    refine x_getR (pc := 52) dX12_count_52 qRX12_13 okl0 e10 (fun okb9 => ?_)
    refine x_iconst (v := 0) (pc := 55) dX12_count_55 (by decide) ?_
    obtain ⟨i11, hwp⟩ := hwp
    refine x_iaload (pc := 56) dX12_count_56 okb9 i11 ?_
    exact x_iret (pc := 57) dX12_count_57 rfl hex hnn hzz ⟨_, rfl, hwp⟩
  by_cases c12 : l1 = 2
  · have hwp := hwp.2.2.1 c12
    refine x_tabIn (tgt := 58) (pc := 10) dX12_count_10 (by rw [q_teq c12 (n := 2) (by decide)]; decide) (by rw [q_teq c12 (n := 2) (by decide)]; decide) (by rw [q_teq c12 (n := 2) (by decide)]; rfl) (by decide) ?_
    refine x_aload_n (pc := 58) dX12_count_58 rfl ?_
    obtain ⟨b13, e14, hwp⟩ := hwp
    refine x_getR (pc := 59) dX12_count_59 qRX12_16 okl0 e14 (fun okb13 => ?_)
    refine x_iconst (v := 0) (pc := 62) dX12_count_62 (by decide) ?_
    obtain ⟨i15, hwp⟩ := hwp
    refine x_iaload (pc := 63) dX12_count_63 okb13 i15 ?_
    exact x_iret (pc := 64) dX12_count_64 rfl hex hnn hzz ⟨_, rfl, hwp⟩
  by_cases c16 : l1 = 3
  · have hwp := hwp.2.2.2.1 c16
    refine x_tabIn (tgt := 65) (pc := 10) dX12_count_10 (by rw [q_teq c16 (n := 3) (by decide)]; decide) (by rw [q_teq c16 (n := 3) (by decide)]; decide) (by rw [q_teq c16 (n := 3) (by decide)]; rfl) (by decide) ?_
    refine x_iconst (v := 0) (pc := 65) dX12_count_65 (by decide) ?_
    refine x_istore_n (lv2 := [(2, .int 0), (0, .ref l0), (1, .int l1)]) (pc := 66) dX12_count_66 (by decide) rfl ?_
    refine x_iconst (v := 0) (pc := 67) dX12_count_67 (by decide) ?_
    refine x_istore_n (lv2 := [(3, .int 0), (2, .int 0), (0, .ref l0), (1, .int l1)]) (pc := 68) dX12_count_68 (by decide) rfl ?_
    refine x_sub [2, 1, 0] rfl ?_
    exact lp_X12_count_69 G d h h2 l0 Q hex hnn hzz okl0 hwp ⟨qEx.rf _, rfl, rfl⟩
  by_cases c17 : l1 = 4
  · have hwp := hwp.2.2.2.2.1 c17
    refine x_tabIn (tgt := 95) (pc := 10) dX12_count_10 (by rw [q_teq c17 (n := 4) (by decide)]; decide) (by rw [q_teq c17 (n := 4) (by decide)]; decide) (by rw [q_teq c17 (n := 4) (by decide)]; rfl) (by decide) ?_
    refine x_aload_n (pc := 95) dX12_count_95 rfl ?_
    refine x_getI (pc := 96) dX12_count_96 qRX12_79 okl0 (by decide) ?_
    exact x_iret (pc := 99) dX12_count_99 rfl hex hnn hzz ⟨_, rfl, hwp⟩
  have hwp := hwp.2.2.2.2.2 c4 c8 c12 c16 c17
  refine x_tabOut (tgt := 100) (pc := 10) dX12_count_10 (by have := q_tne c4 (n := 0) (by decide); have := q_tne c8 (n := 1) (by decide); have := q_tne c12 (n := 2) (by decide); have := q_tne c16 (n := 3) (by decide); have := q_tne c17 (n := 4) (by decide); omega) (by decide) ?_
  refine x_iconst (v := (-1)) (pc := 100) dX12_count_100 (by decide) ?_
  exact x_iret (pc := 101) dX12_count_101 rfl hex hnn hzz ⟨_, rfl, hwp⟩

theorem dX12_readOr_0 : decode cX12_readOr 0 = .ok (.aload_n 0, 1) := by decide +kernel
theorem dX12_readOr_1 : decode cX12_readOr 1 = .ok (.invokevirtual 332, 3) := by decide +kernel
theorem dX12_readOr_4 : decode cX12_readOr 4 = .ok (.ifCond .ne 5, 3) := by decide +kernel
theorem dX12_readOr_7 : decode cX12_readOr 7 = .ok (.iconst 0, 1) := by decide +kernel
theorem dX12_readOr_8 : decode cX12_readOr 8 = .ok (.ireturn, 1) := by decide +kernel
theorem dX12_readOr_9 : decode cX12_readOr 9 = .ok (.aload_n 0, 1) := by decide +kernel
theorem dX12_readOr_10 : decode cX12_readOr 10 = .ok (.getfield 335, 3) := by decide +kernel
theorem dX12_readOr_13 : decode cX12_readOr 13 = .ok (.istore_n 1, 1) := by decide +kernel
theorem dX12_readOr_14 : decode cX12_readOr 14 = .ok (.aload_n 0, 1) := by decide +kernel
theorem dX12_readOr_15 : decode cX12_readOr 15 = .ok (.bipush 111, 2) := by decide +kernel
theorem dX12_readOr_17 : decode cX12_readOr 17 = .ok (.bipush 114, 2) := by decide +kernel
theorem dX12_readOr_19 : decode cX12_readOr 19 = .ok (.iconst 0, 1) := by decide +kernel
theorem dX12_readOr_20 : decode cX12_readOr 20 = .ok (.iconst 0, 1) := by decide +kernel
theorem dX12_readOr_21 : decode cX12_readOr 21 = .ok (.iconst 0, 1) := by decide +kernel
theorem dX12_readOr_22 : decode cX12_readOr 22 = .ok (.invokestatic 126, 3) := by decide +kernel
theorem dX12_readOr_25 : decode cX12_readOr 25 = .ok (.invokevirtual 149, 3) := by decide +kernel
theorem dX12_readOr_28 : decode cX12_readOr 28 = .ok (.ifCond .eq 31, 3) := by decide +kernel
theorem dX12_readOr_31 : decode cX12_readOr 31 = .ok (.aload_n 0, 1) := by decide +kernel
theorem dX12_readOr_32 : decode cX12_readOr 32 = .ok (.invokevirtual 146, 3) := by decide +kernel
theorem dX12_readOr_35 : decode cX12_readOr 35 = .ok (.aload_n 0, 1) := by decide +kernel
theorem dX12_readOr_36 : decode cX12_readOr 36 = .ok (.invokevirtual 332, 3) := by decide +kernel
theorem dX12_readOr_39 : decode cX12_readOr 39 = .ok (.ifCond .ne 5, 3) := by decide +kernel
theorem dX12_readOr_42 : decode cX12_readOr 42 = .ok (.iconst 0, 1) := by decide +kernel
theorem dX12_readOr_43 : decode cX12_readOr 43 = .ok (.ireturn, 1) := by decide +kernel
theorem dX12_readOr_44 : decode cX12_readOr 44 = .ok (.aload_n 0, 1) := by decide +kernel
theorem dX12_readOr_45 : decode cX12_readOr 45 = .ok (.iconst 3, 1) := by decide +kernel
theorem dX12_readOr_46 : decode cX12_readOr 46 = .ok (.iload_n 1, 1) := by decide +kernel
theorem dX12_readOr_47 : decode cX12_readOr 47 = .ok (.aload_n 0, 1) := by decide +kernel
theorem dX12_readOr_48 : decode cX12_readOr 48 = .ok (.getfield 335, 3) := by decide +kernel
theorem dX12_readOr_51 : decode cX12_readOr 51 = .ok (.iconst 0, 1) := by decide +kernel
theorem dX12_readOr_52 : decode cX12_readOr 52 = .ok (.invokevirtual 338, 3) := by decide +kernel
theorem dX12_readOr_55 : decode cX12_readOr 55 = .ok (.istore_n 1, 1) := by decide +kernel
theorem dX12_readOr_56 : decode cX12_readOr 56 = .ok (.goto (-42), 3) := by decide +kernel
theorem dX12_readOr_59 : decode cX12_readOr 59 = .ok (.aload_n 0, 1) := by decide +kernel
theorem dX12_readOr_60 : decode cX12_readOr 60 = .ok (.iload_n 1, 1) := by decide +kernel
theorem dX12_readOr_61 : decode cX12_readOr 61 = .ok (.putfield 335, 3) := by decide +kernel
theorem dX12_readOr_64 : decode cX12_readOr 64 = .ok (.iconst 1, 1) := by decide +kernel
theorem dX12_readOr_65 : decode cX12_readOr 65 = .ok (.ireturn, 1) := by decide +kernel
def E_X12_readOr_14 (G : GT) (d : Nat) (h0 hb : PH) (l0 : Nat) (Q : Int32 → PH → Prop) (s : Int32 × PH) : Prop := qEx hb s.2 ∧ qn s.2 = qn hb ∧ qz s.2 = qz hb → Ex G (qrm (4 + d) 0 0) mX12_readOr (qn h0) (qz h0) (ZN G h0 0 0 (qqb Q)) 14 [(0, .ref l0), (1, .int s.1)] [] s.2
def wb_X12_readOr_14 (rc_X12_readAnd : Nat → PH → (Int32 → PH → Prop) → Prop) (rc_X12_readOne : Nat → PH → (Int32 → PH → Prop) → Prop) (rc_X12_readOr : Nat → PH → (Int32 → PH → Prop) → Prop) (l0 : Nat)  (Q : Int32 → PH → Prop) (bk14 : Int32 × PH → Prop) (l1 : Int32) (h : PH) : Prop := (wp_X12_spelt 111 114 0 0 0 h (fun r6 h5 => (wp_X12_isKey l0 r6 h5 (fun r8 h7 => ((r8 = 0 → (∀ h10, h10 = qsI h7 l0 47 l1 → Q 1 h10)) ∧ (¬ (r8 = 0) → (wp_X12_go l0 h7 (fun h11 => (rc_X12_readAnd l0 h11 (fun r14 h13 => ((¬ r14 = 0 → (wp_X12_lays l0 3 l1 (qI h13 l0 47) 0 h13 (fun r17 h16 => bk14 (r17, h16)))) ∧ (r14 = 0 → Q 0 h13))))))))))))
def wp_X12_readOr_14 (rc_X12_readAnd : Nat → PH → (Int32 → PH → Prop) → Prop) (rc_X12_readOne : Nat → PH → (Int32 → PH → Prop) → Prop) (rc_X12_readOr : Nat → PH → (Int32 → PH → Prop) → Prop) (l0 : Nat)  (Q : Int32 → PH → Prop) (bk14 : Int32 × PH → Prop) (s : Int32 × PH) : Prop := wb_X12_readOr_14 rc_X12_readAnd rc_X12_readOne rc_X12_readOr l0 Q bk14 s.1 s.2
set_option maxHeartbeats 4000000 in
set_option maxRecDepth 100000 in
theorem bd_X12_readOr_14 (G : GT) (d : Nat) (h0 hb : PH) (rc_X12_readAnd : Nat → PH → (Int32 → PH → Prop) → Prop) (hrc_X12_readAnd : ∀ (a0 : Nat) (h : PH) (Q : Int32 → PH → Prop), qOK h 11 a0 → rc_X12_readAnd a0 h Q → Mt G (3 + d) 0 0 mX12_readAnd [.ref a0] h (qqb Q)) (rc_X12_readOne : Nat → PH → (Int32 → PH → Prop) → Prop) (hrc_X12_readOne : ∀ (a0 : Nat) (h : PH) (Q : Int32 → PH → Prop), qOK h 11 a0 → rc_X12_readOne a0 h Q → Mt G (3 + d) 0 0 mX12_readOne [.ref a0] h (qqb Q)) (rc_X12_readOr : Nat → PH → (Int32 → PH → Prop) → Prop) (hrc_X12_readOr : ∀ (a0 : Nat) (h : PH) (Q : Int32 → PH → Prop), qOK h 11 a0 → rc_X12_readOr a0 h Q → Mt G (3 + d) 0 0 mX12_readOr [.ref a0] h (qqb Q)) (l0 : Nat) (Q : Int32 → PH → Prop)  (hex : qEx h0 hb) (hnn : qn hb = qn h0 + 0) (hzz : qz hb = qz h0 + 0) (okl0 : qOK hb 11 l0) (bk14 : Int32 × PH → Prop) (hbk14 : ∀ s2, bk14 s2 → E_X12_readOr_14 G d h0 hb l0 Q s2) (l1 : Int32) (h : PH) (hwp : wb_X12_readOr_14 rc_X12_readAnd rc_X12_readOne rc_X12_readOr l0 Q bk14 l1 h) (hx14 : qEx hb h) (hn14 : qn h = qn hb) (hz14 : qz h = qz hb) : Ex G (qrm (4 + d) 0 0) mX12_readOr (qn h0) (qz h0) (ZN G h0 0 0 (qqb Q)) 14 [(0, .ref l0), (1, .int l1)] [] h := by
  unfold wb_X12_readOr_14 at hwp
  have hex := hex.tr hx14
  have hnn := hn14.trans hnn
  have hzz := hz14.trans hzz
  have okl0 := okl0.ex hx14
  refine x_aload_n (pc := 14) dX12_readOr_14 rfl ?_
  refine x_bipush (v := 111) (pc := 15) dX12_readOr_15 (by decide) ?_
  refine x_bipush (v := 114) (pc := 17) dX12_readOr_17 (by decide) ?_
  refine x_iconst (v := 0) (pc := 19) dX12_readOr_19 (by decide) ?_
  refine x_iconst (v := 0) (pc := 20) dX12_readOr_20 (by decide) ?_
  refine x_iconst (v := 0) (pc := 21) dX12_readOr_21 (by decide) ?_
  refine x_invS (As := [.int 111, .int 114, .int 0, .int 0, .int 0]) (st := [.ref l0]) (pc := 22) dX12_readOr_22 lRX12_126 fX12_spelt sX12_spelt rfl (Nat.le_of_ble_eq_true rfl) (q_R (by omega) (by decide)) (q_C hnn hzz (by decide) (by decide)) (sn_X12_spelt G (d + 3) 111 114 0 0 0 h _  hwp) (k_j (fun r6 h5 hwp cxh5 => ?_))
  have hex := hex.tr cxh5.1
  have hnn : qn h5 = qn h0 + 0 := by have := cxh5.2.1; omega
  have hzz : qz h5 = qz h0 + 0 := by have := cxh5.2.2; omega
  have hx14 := hx14.tr cxh5.1
  have hn14 : qn h5 = qn hb := by have := cxh5.2.1; omega
  have hz14 : qz h5 = qz hb := by have := cxh5.2.2; omega
  have okl0 := okl0.ex cxh5.1
  refine x_invV (As := [.long r6]) (st := []) (pc := 25) dX12_readOr_25 lRX12_149 fX12_isKey vX12_isKey okl0 rfl (Nat.le_of_ble_eq_true rfl) (q_R (by omega) (by decide)) (q_C hnn hzz (by decide) (by decide)) (sn_X12_isKey G (d + 3) l0 r6 h5 _ okl0 hwp) (k_b (fun r8 h7 hwp zbr8 cxh7 => ?_))
  have hex := hex.tr cxh7.1
  have hnn : qn h7 = qn h0 + 0 := by have := cxh7.2.1; omega
  have hzz : qz h7 = qz h0 + 0 := by have := cxh7.2.2; omega
  have hx14 := hx14.tr cxh7.1
  have hn14 : qn h7 = qn hb := by have := cxh7.2.1; omega
  have hz14 : qz h7 = qz hb := by have := cxh7.2.2; omega
  have okl0 := okl0.ex cxh7.1
  refine x_if_eq (tgt := 59) (pc := 28) dX12_readOr_28 (by decide) (fun c9 => ?_) (fun c9 => ?_)
  · have hwp := hwp.1 c9
    refine x_aload_n (pc := 59) dX12_readOr_59 rfl ?_
    refine x_iload_n (pc := 60) dX12_readOr_60 rfl ?_
    refine y_putI (pc := 61) dX12_readOr_61 qRX12_335 okl0 (fun h10 eh10 nxh10 => ?_)
    have hwp := hwp h10 eh10
    have hex := hex.tr nxh10.1
    have hnn := nxh10.2.1.trans hnn
    have hzz := nxh10.2.2.trans hzz
    have hx14 := hx14.tr nxh10.1
    have hn14 := nxh10.2.1.trans hn14
    have hz14 := nxh10.2.2.trans hz14
    have okl0 := okl0.ex nxh10.1
    refine x_iconst (v := 1) (pc := 64) dX12_readOr_64 (by decide) ?_
    exact x_zret (pc := 65) dX12_readOr_65 rfl hex hnn hzz (by decide) ⟨_, rfl, by decide, hwp⟩
  · have hwp := hwp.2 c9
    refine x_aload_n (pc := 31) dX12_readOr_31 rfl ?_
    refine x_invV (As := []) (st := []) (pc := 32) dX12_readOr_32 lRX12_146 fX12_go vX12_go okl0 rfl (Nat.le_of_ble_eq_true rfl) (q_R (by omega) (by decide)) (q_C hnn hzz (by decide) (by decide)) (sn_X12_go G (d + 2) l0 h7 _ okl0 hwp) (k_v (fun h11 hwp cxh11 => ?_))
    have hex := hex.tr cxh11.1
    have hnn : qn h11 = qn h0 + 0 := by have := cxh11.2.1; omega
    have hzz : qz h11 = qz h0 + 0 := by have := cxh11.2.2; omega
    have hx14 := hx14.tr cxh11.1
    have hn14 : qn h11 = qn hb := by have := cxh11.2.1; omega
    have hz14 : qz h11 = qz hb := by have := cxh11.2.2; omega
    have okl0 := okl0.ex cxh11.1
    refine x_aload_n (pc := 35) dX12_readOr_35 rfl ?_
    refine x_invV (As := []) (st := []) (pc := 36) dX12_readOr_36 lRX12_332 fX12_readAnd vX12_readAnd okl0 rfl (Nat.le_of_ble_eq_true rfl) (q_R (by omega) (by decide)) (q_C hnn hzz (by decide) (by decide)) (hrc_X12_readAnd l0 h11 _ okl0 hwp) (k_b (fun r14 h13 hwp zbr14 cxh13 => ?_))
    have hex := hex.tr cxh13.1
    have hnn : qn h13 = qn h0 + 0 := by have := cxh13.2.1; omega
    have hzz : qz h13 = qz h0 + 0 := by have := cxh13.2.2; omega
    have hx14 := hx14.tr cxh13.1
    have hn14 : qn h13 = qn hb := by have := cxh13.2.1; omega
    have hz14 : qz h13 = qz hb := by have := cxh13.2.2; omega
    have okl0 := okl0.ex cxh13.1
    refine x_if_ne (tgt := 44) (pc := 39) dX12_readOr_39 (by decide) (fun c15 => ?_) (fun c15 => ?_)
    · have hwp := hwp.1 c15
      refine x_aload_n (pc := 44) dX12_readOr_44 rfl ?_
      refine x_iconst (v := 3) (pc := 45) dX12_readOr_45 (by decide) ?_
      refine x_iload_n (pc := 46) dX12_readOr_46 rfl ?_
      refine x_aload_n (pc := 47) dX12_readOr_47 rfl ?_
      refine x_getI (pc := 48) dX12_readOr_48 qRX12_335 okl0 (by decide) ?_
      refine x_iconst (v := 0) (pc := 51) dX12_readOr_51 (by decide) ?_
      refine x_invV (As := [.int 3, .int l1, .int (qI h13 l0 47), .int 0]) (st := []) (pc := 52) dX12_readOr_52 lRX12_338 fX12_lays vX12_lays okl0 rfl (Nat.le_of_ble_eq_true rfl) (q_R (by omega) (by decide)) (q_C hnn hzz (by decide) (by decide)) (sn_X12_lays G (d + 3) l0 3 l1 (qI h13 l0 47) 0 h13 _ okl0 hwp) (k_i (fun r17 h16 hwp cxh16 => ?_))
      have hex := hex.tr cxh16.1
      have hnn : qn h16 = qn h0 + 0 := by have := cxh16.2.1; omega
      have hzz : qz h16 = qz h0 + 0 := by have := cxh16.2.2; omega
      have hx14 := hx14.tr cxh16.1
      have hn14 : qn h16 = qn hb := by have := cxh16.2.1; omega
      have hz14 : qz h16 = qz hb := by have := cxh16.2.2; omega
      have okl0 := okl0.ex cxh16.1
      refine x_istore_n (lv2 := [(1, .int r17), (0, .ref l0)]) (pc := 55) dX12_readOr_55 (by decide) rfl ?_
      refine x_goto (tgt := 14) (pc := 56) dX12_readOr_56 (by decide) ?_
      refine x_sub [1, 0] rfl ?_
      exact hbk14 _ hwp ⟨hx14, hn14, hz14⟩
    · have hwp := hwp.2 c15
      refine x_iconst (v := 0) (pc := 42) dX12_readOr_42 (by decide) ?_
      exact x_zret (pc := 43) dX12_readOr_43 rfl hex hnn hzz (by decide) ⟨_, rfl, by decide, hwp⟩
theorem lp_X12_readOr_14 (G : GT) (d : Nat) (h0 hb : PH) (rc_X12_readAnd : Nat → PH → (Int32 → PH → Prop) → Prop) (hrc_X12_readAnd : ∀ (a0 : Nat) (h : PH) (Q : Int32 → PH → Prop), qOK h 11 a0 → rc_X12_readAnd a0 h Q → Mt G (3 + d) 0 0 mX12_readAnd [.ref a0] h (qqb Q)) (rc_X12_readOne : Nat → PH → (Int32 → PH → Prop) → Prop) (hrc_X12_readOne : ∀ (a0 : Nat) (h : PH) (Q : Int32 → PH → Prop), qOK h 11 a0 → rc_X12_readOne a0 h Q → Mt G (3 + d) 0 0 mX12_readOne [.ref a0] h (qqb Q)) (rc_X12_readOr : Nat → PH → (Int32 → PH → Prop) → Prop) (hrc_X12_readOr : ∀ (a0 : Nat) (h : PH) (Q : Int32 → PH → Prop), qOK h 11 a0 → rc_X12_readOr a0 h Q → Mt G (3 + d) 0 0 mX12_readOr [.ref a0] h (qqb Q)) (l0 : Nat) (Q : Int32 → PH → Prop)  (hex : qEx h0 hb) (hnn : qn hb = qn h0 + 0) (hzz : qz hb = qz h0 + 0) (okl0 : qOK hb 11 l0) {s : Int32 × PH} (hwp : qLoop (wp_X12_readOr_14 rc_X12_readAnd rc_X12_readOne rc_X12_readOr l0 Q) s) : E_X12_readOr_14 G d h0 hb l0 Q s :=
  qLoop.use (E := E_X12_readOr_14 G d h0 hb l0 Q) (fun back s hbk hw hx => bd_X12_readOr_14 G d h0 hb rc_X12_readAnd hrc_X12_readAnd rc_X12_readOne hrc_X12_readOne rc_X12_readOr hrc_X12_readOr l0 Q hex hnn hzz okl0 back hbk s.1 s.2 hw hx.1 hx.2.1 hx.2.2) hwp
def wp_X12_readOr (rc_X12_readAnd : Nat → PH → (Int32 → PH → Prop) → Prop) (rc_X12_readOne : Nat → PH → (Int32 → PH → Prop) → Prop) (rc_X12_readOr : Nat → PH → (Int32 → PH → Prop) → Prop) (l0 : Nat) (h : PH) (Q : Int32 → PH → Prop) : Prop := (rc_X12_readAnd l0 h (fun r2 h1 => ((¬ r2 = 0 → ∀ v4 : Int32, v4 = qI h1 l0 47 → (qLoop (wp_X12_readOr_14 rc_X12_readAnd rc_X12_readOne rc_X12_readOr l0 Q) (v4, h1))) ∧ (r2 = 0 → Q 0 h1))))
set_option maxHeartbeats 4000000 in
set_option maxRecDepth 100000 in
theorem sn_X12_readOr (G : GT) (d : Nat) (rc_X12_readAnd : Nat → PH → (Int32 → PH → Prop) → Prop) (hrc_X12_readAnd : ∀ (a0 : Nat) (h : PH) (Q : Int32 → PH → Prop), qOK h 11 a0 → rc_X12_readAnd a0 h Q → Mt G (3 + d) 0 0 mX12_readAnd [.ref a0] h (qqb Q)) (rc_X12_readOne : Nat → PH → (Int32 → PH → Prop) → Prop) (hrc_X12_readOne : ∀ (a0 : Nat) (h : PH) (Q : Int32 → PH → Prop), qOK h 11 a0 → rc_X12_readOne a0 h Q → Mt G (3 + d) 0 0 mX12_readOne [.ref a0] h (qqb Q)) (rc_X12_readOr : Nat → PH → (Int32 → PH → Prop) → Prop) (hrc_X12_readOr : ∀ (a0 : Nat) (h : PH) (Q : Int32 → PH → Prop), qOK h 11 a0 → rc_X12_readOr a0 h Q → Mt G (3 + d) 0 0 mX12_readOr [.ref a0] h (qqb Q)) (l0 : Nat) (h : PH) (Q : Int32 → PH → Prop) (okl0 : qOK h 11 l0) (hwp : wp_X12_readOr rc_X12_readAnd rc_X12_readOne rc_X12_readOr l0 h Q) : Mt G (4 + d) 0 0 mX12_readOr [.ref l0] h (qqb Q) := by
  unfold wp_X12_readOr at hwp
  refine Mt.of (by decide) rfl (Nat.le_of_ble_eq_true rfl) ?_
  have hex := qEx.rf h
  have hnn : qn h = qn h + 0 := rfl
  have hzz : qz h = qz h + 0 := rfl
  refine x_lvE (lv2 := [(0, .ref l0)]) rfl ?_
  refine x_aload_n (pc := 0) dX12_readOr_0 rfl ?_
  refine x_invV (As := []) (st := []) (pc := 1) dX12_readOr_1 lRX12_332 fX12_readAnd vX12_readAnd okl0 rfl (Nat.le_of_ble_eq_true rfl) (q_R (by omega) (by decide)) (q_C hnn hzz (by decide) (by decide)) (hrc_X12_readAnd l0 h _ okl0 hwp) (k_b (fun r2 h1 hwp zbr2 cxh1 => ?_))
  have hex := hex.tr cxh1.1
  have hnn : qn h1 = qn h + 0 := by have := cxh1.2.1; omega
  have hzz : qz h1 = qz h + 0 := by have := cxh1.2.2; omega
  have okl0 := okl0.ex cxh1.1
  refine x_if_ne (tgt := 9) (pc := 4) dX12_readOr_4 (by decide) (fun c3 => ?_) (fun c3 => ?_)
  · have hwp := hwp.1 c3
    refine x_aload_n (pc := 9) dX12_readOr_9 rfl ?_
    refine x_getI (pc := 10) dX12_readOr_10 qRX12_335 okl0 (by decide) ?_
    refine x_nmI (fun v4 ev4 => ?_)
    have hwp := hwp v4 ev4
    refine x_istore_n (lv2 := [(1, .int v4), (0, .ref l0)]) (pc := 13) dX12_readOr_13 (by decide) rfl ?_
    refine x_sub [1, 0] rfl ?_
    exact lp_X12_readOr_14 G d h h1 rc_X12_readAnd hrc_X12_readAnd rc_X12_readOne hrc_X12_readOne rc_X12_readOr hrc_X12_readOr l0 Q hex hnn hzz okl0 hwp ⟨qEx.rf _, rfl, rfl⟩
  · have hwp := hwp.2 c3
    refine x_iconst (v := 0) (pc := 7) dX12_readOr_7 (by decide) ?_
    exact x_zret (pc := 8) dX12_readOr_8 rfl hex hnn hzz (by decide) ⟨_, rfl, by decide, hwp⟩

def rg_X12 : Nat → (Nat → PH → (Int32 → PH → Prop) → Prop) × (Nat → PH → (Int32 → PH → Prop) → Prop) × (Nat → PH → (Int32 → PH → Prop) → Prop)
  | 0 => ((fun _ _ _ => False), (fun _ _ _ => False), (fun _ _ _ => False))
  | n + 1 => (wp_X12_readAnd ((rg_X12 n).1) ((rg_X12 n).2.1) ((rg_X12 n).2.2), wp_X12_readOne ((rg_X12 n).1) ((rg_X12 n).2.1) ((rg_X12 n).2.2), wp_X12_readOr ((rg_X12 n).1) ((rg_X12 n).2.1) ((rg_X12 n).2.2))
theorem rs_X12 (G : GT) : ∀ (n d : Nat), (∀ (a0 : Nat) (h : PH) (Q : Int32 → PH → Prop), qOK h 11 a0 → (rg_X12 n).1 a0 h Q → Mt G (4 + n + d) 0 0 mX12_readAnd [.ref a0] h (qqb Q)) ∧ (∀ (a0 : Nat) (h : PH) (Q : Int32 → PH → Prop), qOK h 11 a0 → (rg_X12 n).2.1 a0 h Q → Mt G (4 + n + d) 0 0 mX12_readOne [.ref a0] h (qqb Q)) ∧ (∀ (a0 : Nat) (h : PH) (Q : Int32 → PH → Prop), qOK h 11 a0 → (rg_X12 n).2.2 a0 h Q → Mt G (4 + n + d) 0 0 mX12_readOr [.ref a0] h (qqb Q))
  | 0, d => ⟨fun _ _ _ _ hwp => absurd hwp (fun w => w), fun _ _ _ _ hwp => absurd hwp (fun w => w), fun _ _ _ _ hwp => absurd hwp (fun w => w)⟩
  | n + 1, d => by
    have ih := rs_X12 G n d
    rw [show 4 + n + d = 3 + (n + 1 + d) by omega] at ih
    rw [show 4 + (n + 1) + d = 4 + (n + 1 + d) by omega]
    exact ⟨fun a0 h Q ok0 hwp => sn_X12_readAnd G (n + 1 + d) ((rg_X12 n).1) (ih.1) ((rg_X12 n).2.1) (ih.2.1) ((rg_X12 n).2.2) (ih.2.2) a0 h Q ok0 hwp, fun a0 h Q ok0 hwp => sn_X12_readOne G (n + 1 + d) ((rg_X12 n).1) (ih.1) ((rg_X12 n).2.1) (ih.2.1) ((rg_X12 n).2.2) (ih.2.2) a0 h Q ok0 hwp, fun a0 h Q ok0 hwp => sn_X12_readOr G (n + 1 + d) ((rg_X12 n).1) (ih.1) ((rg_X12 n).2.1) (ih.2.1) ((rg_X12 n).2.2) (ih.2.2) a0 h Q ok0 hwp⟩
def wp_X12_readAndR (a0 : Nat) (h : PH) (Q : Int32 → PH → Prop) : Prop := (rg_X12 40).1 a0 h Q
theorem sn_X12_readAndR (G : GT) (d : Nat) (a0 : Nat) (h : PH) (Q : Int32 → PH → Prop) (ok0 : qOK h 11 a0) (hwp : wp_X12_readAndR a0 h Q) : Mt G (44 + d) 0 0 mX12_readAnd [.ref a0] h (qqb Q) := by
  have k := (rs_X12 G 40 d).1 a0 h Q ok0 hwp
  rw [show 4 + 40 + d = 44 + d by omega] at k
  exact k
def wp_X12_readOneR (a0 : Nat) (h : PH) (Q : Int32 → PH → Prop) : Prop := (rg_X12 40).2.1 a0 h Q
theorem sn_X12_readOneR (G : GT) (d : Nat) (a0 : Nat) (h : PH) (Q : Int32 → PH → Prop) (ok0 : qOK h 11 a0) (hwp : wp_X12_readOneR a0 h Q) : Mt G (44 + d) 0 0 mX12_readOne [.ref a0] h (qqb Q) := by
  have k := (rs_X12 G 40 d).2.1 a0 h Q ok0 hwp
  rw [show 4 + 40 + d = 44 + d by omega] at k
  exact k
def wp_X12_readOrR (a0 : Nat) (h : PH) (Q : Int32 → PH → Prop) : Prop := (rg_X12 40).2.2 a0 h Q
theorem sn_X12_readOrR (G : GT) (d : Nat) (a0 : Nat) (h : PH) (Q : Int32 → PH → Prop) (ok0 : qOK h 11 a0) (hwp : wp_X12_readOrR a0 h Q) : Mt G (44 + d) 0 0 mX12_readOr [.ref a0] h (qqb Q) := by
  have k := (rs_X12 G 40 d).2.2 a0 h Q ok0 hwp
  rw [show 4 + 40 + d = 44 + d by omega] at k
  exact k

theorem dX12_claim_0 : decode cX12_claim 0 = .ok (.aload_n 0, 1) := by decide +kernel
theorem dX12_claim_1 : decode cX12_claim 1 = .ok (.iconst 0, 1) := by decide +kernel
theorem dX12_claim_2 : decode cX12_claim 2 = .ok (.putfield 75, 3) := by decide +kernel
theorem dX12_claim_5 : decode cX12_claim 5 = .ok (.aload_n 0, 1) := by decide +kernel
theorem dX12_claim_6 : decode cX12_claim 6 = .ok (.aload_n 0, 1) := by decide +kernel
theorem dX12_claim_7 : decode cX12_claim 7 = .ok (.invokevirtual 220, 3) := by decide +kernel
theorem dX12_claim_10 : decode cX12_claim 10 = .ok (.putfield 86, 3) := by decide +kernel
theorem dX12_claim_13 : decode cX12_claim 13 = .ok (.aload_n 0, 1) := by decide +kernel
theorem dX12_claim_14 : decode cX12_claim 14 = .ok (.sipush 200, 3) := by decide +kernel
theorem dX12_claim_17 : decode cX12_claim 17 = .ok (.putfield 95, 3) := by decide +kernel
theorem dX12_claim_20 : decode cX12_claim 20 = .ok (.aload_n 0, 1) := by decide +kernel
theorem dX12_claim_21 : decode cX12_claim 21 = .ok (.iconst 0, 1) := by decide +kernel
theorem dX12_claim_22 : decode cX12_claim 22 = .ok (.putfield 130, 3) := by decide +kernel
theorem dX12_claim_25 : decode cX12_claim 25 = .ok (.aload_n 0, 1) := by decide +kernel
theorem dX12_claim_26 : decode cX12_claim 26 = .ok (.iconst 0, 1) := by decide +kernel
theorem dX12_claim_27 : decode cX12_claim 27 = .ok (.putfield 326, 3) := by decide +kernel
theorem dX12_claim_30 : decode cX12_claim 30 = .ok (.aload_n 0, 1) := by decide +kernel
theorem dX12_claim_31 : decode cX12_claim 31 = .ok (.iconst 0, 1) := by decide +kernel
theorem dX12_claim_32 : decode cX12_claim 32 = .ok (.putfield 345, 3) := by decide +kernel
theorem dX12_claim_35 : decode cX12_claim 35 = .ok (.aload_n 0, 1) := by decide +kernel
theorem dX12_claim_36 : decode cX12_claim 36 = .ok (.iconst 0, 1) := by decide +kernel
theorem dX12_claim_37 : decode cX12_claim 37 = .ok (.putfield 348, 3) := by decide +kernel
theorem dX12_claim_40 : decode cX12_claim 40 = .ok (.aload_n 0, 1) := by decide +kernel
theorem dX12_claim_41 : decode cX12_claim 41 = .ok (.iconst 0, 1) := by decide +kernel
theorem dX12_claim_42 : decode cX12_claim 42 = .ok (.putfield 89, 3) := by decide +kernel
theorem dX12_claim_45 : decode cX12_claim 45 = .ok (.aload_n 0, 1) := by decide +kernel
theorem dX12_claim_46 : decode cX12_claim 46 = .ok (.invokevirtual 146, 3) := by decide +kernel
theorem dX12_claim_49 : decode cX12_claim 49 = .ok (.aload_n 0, 1) := by decide +kernel
theorem dX12_claim_50 : decode cX12_claim 50 = .ok (.aload_n 0, 1) := by decide +kernel
theorem dX12_claim_51 : decode cX12_claim 51 = .ok (.bipush 101, 2) := by decide +kernel
theorem dX12_claim_53 : decode cX12_claim 53 = .ok (.bipush 97, 2) := by decide +kernel
theorem dX12_claim_55 : decode cX12_claim 55 = .ok (.bipush 99, 2) := by decide +kernel
theorem dX12_claim_57 : decode cX12_claim 57 = .ok (.bipush 104, 2) := by decide +kernel
theorem dX12_claim_59 : decode cX12_claim 59 = .ok (.iconst 0, 1) := by decide +kernel
theorem dX12_claim_60 : decode cX12_claim 60 = .ok (.invokestatic 126, 3) := by decide +kernel
theorem dX12_claim_63 : decode cX12_claim 63 = .ok (.invokevirtual 149, 3) := by decide +kernel
theorem dX12_claim_66 : decode cX12_claim 66 = .ok (.ifCond .eq 7, 3) := by decide +kernel
theorem dX12_claim_69 : decode cX12_claim 69 = .ok (.iconst 1, 1) := by decide +kernel
theorem dX12_claim_70 : decode cX12_claim 70 = .ok (.goto 49, 3) := by decide +kernel
theorem dX12_claim_73 : decode cX12_claim 73 = .ok (.aload_n 0, 1) := by decide +kernel
theorem dX12_claim_74 : decode cX12_claim 74 = .ok (.bipush 115, 2) := by decide +kernel
theorem dX12_claim_76 : decode cX12_claim 76 = .ok (.bipush 111, 2) := by decide +kernel
theorem dX12_claim_78 : decode cX12_claim 78 = .ok (.bipush 109, 2) := by decide +kernel
theorem dX12_claim_80 : decode cX12_claim 80 = .ok (.bipush 101, 2) := by decide +kernel
theorem dX12_claim_82 : decode cX12_claim 82 = .ok (.iconst 0, 1) := by decide +kernel
theorem dX12_claim_83 : decode cX12_claim 83 = .ok (.invokestatic 126, 3) := by decide +kernel
theorem dX12_claim_86 : decode cX12_claim 86 = .ok (.invokevirtual 149, 3) := by decide +kernel
theorem dX12_claim_89 : decode cX12_claim 89 = .ok (.ifCond .eq 7, 3) := by decide +kernel
theorem dX12_claim_92 : decode cX12_claim 92 = .ok (.iconst 2, 1) := by decide +kernel
theorem dX12_claim_93 : decode cX12_claim 93 = .ok (.goto 26, 3) := by decide +kernel
theorem dX12_claim_96 : decode cX12_claim 96 = .ok (.aload_n 0, 1) := by decide +kernel
theorem dX12_claim_97 : decode cX12_claim 97 = .ok (.bipush 97, 2) := by decide +kernel
theorem dX12_claim_99 : decode cX12_claim 99 = .ok (.bipush 108, 2) := by decide +kernel
theorem dX12_claim_101 : decode cX12_claim 101 = .ok (.bipush 108, 2) := by decide +kernel
theorem dX12_claim_103 : decode cX12_claim 103 = .ok (.iconst 0, 1) := by decide +kernel
theorem dX12_claim_104 : decode cX12_claim 104 = .ok (.iconst 0, 1) := by decide +kernel
theorem dX12_claim_105 : decode cX12_claim 105 = .ok (.invokestatic 126, 3) := by decide +kernel
theorem dX12_claim_108 : decode cX12_claim 108 = .ok (.invokevirtual 149, 3) := by decide +kernel
theorem dX12_claim_111 : decode cX12_claim 111 = .ok (.ifCond .eq 7, 3) := by decide +kernel
theorem dX12_claim_114 : decode cX12_claim 114 = .ok (.iconst 3, 1) := by decide +kernel
theorem dX12_claim_115 : decode cX12_claim 115 = .ok (.goto 4, 3) := by decide +kernel
theorem dX12_claim_118 : decode cX12_claim 118 = .ok (.iconst 0, 1) := by decide +kernel
theorem dX12_claim_119 : decode cX12_claim 119 = .ok (.putfield 357, 3) := by decide +kernel
theorem dX12_claim_122 : decode cX12_claim 122 = .ok (.aload_n 0, 1) := by decide +kernel
theorem dX12_claim_123 : decode cX12_claim 123 = .ok (.getfield 357, 3) := by decide +kernel
theorem dX12_claim_126 : decode cX12_claim 126 = .ok (.ifCond .ne 16, 3) := by decide +kernel
theorem dX12_claim_129 : decode cX12_claim 129 = .ok (.aload_n 0, 1) := by decide +kernel
theorem dX12_claim_130 : decode cX12_claim 130 = .ok (.iconst 1, 1) := by decide +kernel
theorem dX12_claim_131 : decode cX12_claim 131 = .ok (.invokevirtual 136, 3) := by decide +kernel
theorem dX12_claim_134 : decode cX12_claim 134 = .ok (.pop, 1) := by decide +kernel
theorem dX12_claim_135 : decode cX12_claim 135 = .ok (.iconst (-1), 1) := by decide +kernel
theorem dX12_claim_136 : decode cX12_claim 136 = .ok (.aload_n 0, 1) := by decide +kernel
theorem dX12_claim_137 : decode cX12_claim 137 = .ok (.getfield 133, 3) := by decide +kernel
theorem dX12_claim_140 : decode cX12_claim 140 = .ok (.isub, 1) := by decide +kernel
theorem dX12_claim_141 : decode cX12_claim 141 = .ok (.ireturn, 1) := by decide +kernel
theorem dX12_claim_142 : decode cX12_claim 142 = .ok (.aload_n 0, 1) := by decide +kernel
theorem dX12_claim_143 : decode cX12_claim 143 = .ok (.invokevirtual 146, 3) := by decide +kernel
theorem dX12_claim_146 : decode cX12_claim 146 = .ok (.aload_n 0, 1) := by decide +kernel
theorem dX12_claim_147 : decode cX12_claim 147 = .ok (.invokevirtual 351, 3) := by decide +kernel
theorem dX12_claim_150 : decode cX12_claim 150 = .ok (.ifCond .ne 10, 3) := by decide +kernel
theorem dX12_claim_153 : decode cX12_claim 153 = .ok (.iconst (-1), 1) := by decide +kernel
theorem dX12_claim_154 : decode cX12_claim 154 = .ok (.aload_n 0, 1) := by decide +kernel
theorem dX12_claim_155 : decode cX12_claim 155 = .ok (.getfield 133, 3) := by decide +kernel
theorem dX12_claim_158 : decode cX12_claim 158 = .ok (.isub, 1) := by decide +kernel
theorem dX12_claim_159 : decode cX12_claim 159 = .ok (.ireturn, 1) := by decide +kernel
theorem dX12_claim_160 : decode cX12_claim 160 = .ok (.aload_n 0, 1) := by decide +kernel
theorem dX12_claim_161 : decode cX12_claim 161 = .ok (.getfield 98, 3) := by decide +kernel
theorem dX12_claim_164 : decode cX12_claim 164 = .ok (.ifCond .eq 16, 3) := by decide +kernel
theorem dX12_claim_167 : decode cX12_claim 167 = .ok (.aload_n 0, 1) := by decide +kernel
theorem dX12_claim_168 : decode cX12_claim 168 = .ok (.iconst 1, 1) := by decide +kernel
theorem dX12_claim_169 : decode cX12_claim 169 = .ok (.invokevirtual 136, 3) := by decide +kernel
theorem dX12_claim_172 : decode cX12_claim 172 = .ok (.pop, 1) := by decide +kernel
theorem dX12_claim_173 : decode cX12_claim 173 = .ok (.iconst (-1), 1) := by decide +kernel
theorem dX12_claim_174 : decode cX12_claim 174 = .ok (.aload_n 0, 1) := by decide +kernel
theorem dX12_claim_175 : decode cX12_claim 175 = .ok (.getfield 133, 3) := by decide +kernel
theorem dX12_claim_178 : decode cX12_claim 178 = .ok (.isub, 1) := by decide +kernel
theorem dX12_claim_179 : decode cX12_claim 179 = .ok (.ireturn, 1) := by decide +kernel
theorem dX12_claim_180 : decode cX12_claim 180 = .ok (.aload_n 0, 1) := by decide +kernel
theorem dX12_claim_181 : decode cX12_claim 181 = .ok (.aload_n 0, 1) := by decide +kernel
theorem dX12_claim_182 : decode cX12_claim 182 = .ok (.getfield 357, 3) := by decide +kernel
theorem dX12_claim_185 : decode cX12_claim 185 = .ok (.putfield 360, 3) := by decide +kernel
theorem dX12_claim_188 : decode cX12_claim 188 = .ok (.aload_n 0, 1) := by decide +kernel
theorem dX12_claim_189 : decode cX12_claim 189 = .ok (.aload_n 0, 1) := by decide +kernel
theorem dX12_claim_190 : decode cX12_claim 190 = .ok (.getfield 335, 3) := by decide +kernel
theorem dX12_claim_193 : decode cX12_claim 193 = .ok (.putfield 363, 3) := by decide +kernel
theorem dX12_claim_196 : decode cX12_claim 196 = .ok (.iconst 0, 1) := by decide +kernel
theorem dX12_claim_197 : decode cX12_claim 197 = .ok (.istore_n 1, 1) := by decide +kernel
theorem dX12_claim_198 : decode cX12_claim 198 = .ok (.iload_n 1, 1) := by decide +kernel
theorem dX12_claim_199 : decode cX12_claim 199 = .ok (.bipush 60, 2) := by decide +kernel
theorem dX12_claim_201 : decode cX12_claim 201 = .ok (.if_icmp .ge 69, 3) := by decide +kernel
theorem dX12_claim_204 : decode cX12_claim 204 = .ok (.aload_n 0, 1) := by decide +kernel
theorem dX12_claim_205 : decode cX12_claim 205 = .ok (.getfield 42, 3) := by decide +kernel
theorem dX12_claim_208 : decode cX12_claim 208 = .ok (.iload_n 1, 1) := by decide +kernel
theorem dX12_claim_209 : decode cX12_claim 209 = .ok (.aload_n 0, 1) := by decide +kernel
theorem dX12_claim_210 : decode cX12_claim 210 = .ok (.getfield 42, 3) := by decide +kernel
theorem dX12_claim_213 : decode cX12_claim 213 = .ok (.bipush 60, 2) := by decide +kernel
theorem dX12_claim_215 : decode cX12_claim 215 = .ok (.iload_n 1, 1) := by decide +kernel
theorem dX12_claim_216 : decode cX12_claim 216 = .ok (.iadd, 1) := by decide +kernel
theorem dX12_claim_217 : decode cX12_claim 217 = .ok (.iaload, 1) := by decide +kernel
theorem dX12_claim_218 : decode cX12_claim 218 = .ok (.iastore, 1) := by decide +kernel
theorem dX12_claim_219 : decode cX12_claim 219 = .ok (.aload_n 0, 1) := by decide +kernel
theorem dX12_claim_220 : decode cX12_claim 220 = .ok (.getfield 45, 3) := by decide +kernel
theorem dX12_claim_223 : decode cX12_claim 223 = .ok (.iload_n 1, 1) := by decide +kernel
theorem dX12_claim_224 : decode cX12_claim 224 = .ok (.aload_n 0, 1) := by decide +kernel
theorem dX12_claim_225 : decode cX12_claim 225 = .ok (.getfield 45, 3) := by decide +kernel
theorem dX12_claim_228 : decode cX12_claim 228 = .ok (.bipush 60, 2) := by decide +kernel
theorem dX12_claim_230 : decode cX12_claim 230 = .ok (.iload_n 1, 1) := by decide +kernel
theorem dX12_claim_231 : decode cX12_claim 231 = .ok (.iadd, 1) := by decide +kernel
theorem dX12_claim_232 : decode cX12_claim 232 = .ok (.iaload, 1) := by decide +kernel
theorem dX12_claim_233 : decode cX12_claim 233 = .ok (.iastore, 1) := by decide +kernel
theorem dX12_claim_234 : decode cX12_claim 234 = .ok (.aload_n 0, 1) := by decide +kernel
theorem dX12_claim_235 : decode cX12_claim 235 = .ok (.getfield 48, 3) := by decide +kernel
theorem dX12_claim_238 : decode cX12_claim 238 = .ok (.iload_n 1, 1) := by decide +kernel
theorem dX12_claim_239 : decode cX12_claim 239 = .ok (.aload_n 0, 1) := by decide +kernel
theorem dX12_claim_240 : decode cX12_claim 240 = .ok (.getfield 48, 3) := by decide +kernel
theorem dX12_claim_243 : decode cX12_claim 243 = .ok (.bipush 60, 2) := by decide +kernel
theorem dX12_claim_245 : decode cX12_claim 245 = .ok (.iload_n 1, 1) := by decide +kernel
theorem dX12_claim_246 : decode cX12_claim 246 = .ok (.iadd, 1) := by decide +kernel
theorem dX12_claim_247 : decode cX12_claim 247 = .ok (.iaload, 1) := by decide +kernel
theorem dX12_claim_248 : decode cX12_claim 248 = .ok (.iastore, 1) := by decide +kernel
theorem dX12_claim_249 : decode cX12_claim 249 = .ok (.aload_n 0, 1) := by decide +kernel
theorem dX12_claim_250 : decode cX12_claim 250 = .ok (.getfield 51, 3) := by decide +kernel
theorem dX12_claim_253 : decode cX12_claim 253 = .ok (.iload_n 1, 1) := by decide +kernel
theorem dX12_claim_254 : decode cX12_claim 254 = .ok (.aload_n 0, 1) := by decide +kernel
theorem dX12_claim_255 : decode cX12_claim 255 = .ok (.getfield 51, 3) := by decide +kernel
theorem dX12_claim_258 : decode cX12_claim 258 = .ok (.bipush 60, 2) := by decide +kernel
theorem dX12_claim_260 : decode cX12_claim 260 = .ok (.iload_n 1, 1) := by decide +kernel
theorem dX12_claim_261 : decode cX12_claim 261 = .ok (.iadd, 1) := by decide +kernel
theorem dX12_claim_262 : decode cX12_claim 262 = .ok (.iaload, 1) := by decide +kernel
theorem dX12_claim_263 : decode cX12_claim 263 = .ok (.iastore, 1) := by decide +kernel
theorem dX12_claim_264 : decode cX12_claim 264 = .ok (.iinc 1 1, 3) := by decide +kernel
theorem dX12_claim_267 : decode cX12_claim 267 = .ok (.goto (-69), 3) := by decide +kernel
theorem dX12_claim_270 : decode cX12_claim 270 = .ok (.aload_n 0, 1) := by decide +kernel
theorem dX12_claim_271 : decode cX12_claim 271 = .ok (.getfield 345, 3) := by decide +kernel
theorem dX12_claim_274 : decode cX12_claim 274 = .ok (.ireturn, 1) := by decide +kernel
def E_X12_claim_198 (G : GT) (d : Nat) (h0 hb : PH) (l0 : Nat) (Q : Int32 → PH → Prop) (s : Int32 × PH) : Prop := qEx hb s.2 ∧ qn s.2 = qn hb ∧ qz s.2 = qz hb → Ex G (qrm (45 + d) 0 0) mX12_claim (qn h0) (qz h0) (ZN G h0 0 0 (qqi Q)) 198 [(0, .ref l0), (1, .int s.1)] [] s.2
def wb_X12_claim_198 (l0 : Nat)  (Q : Int32 → PH → Prop) (bk198 : Int32 × PH → Prop) (l1 : Int32) (h : PH) : Prop := ((60 ≤ l1 → Q (qI h l0 42) h) ∧ (¬ (60 ≤ l1) → (∃ b43, qR h l0 37 = some b43 ∧ (∃ b45, qR h l0 37 = some b45 ∧ (vp_in (60 + l1) (qL h b45) ∧ (vp_in l1 (qL h b43) ∧ ∀ h48, h48 = qsI h b43 l1.toNatClampNeg (qI h b45 (60 + l1).toNatClampNeg) → (∃ b50, qR h48 l0 38 = some b50 ∧ (∃ b52, qR h48 l0 38 = some b52 ∧ (vp_in (60 + l1) (qL h48 b52) ∧ (vp_in l1 (qL h48 b50) ∧ ∀ h55, h55 = qsI h48 b50 l1.toNatClampNeg (qI h48 b52 (60 + l1).toNatClampNeg) → (∃ b57, qR h55 l0 39 = some b57 ∧ (∃ b59, qR h55 l0 39 = some b59 ∧ (vp_in (60 + l1) (qL h55 b59) ∧ (vp_in l1 (qL h55 b57) ∧ ∀ h62, h62 = qsI h55 b57 l1.toNatClampNeg (qI h55 b59 (60 + l1).toNatClampNeg) → (∃ b64, qR h62 l0 40 = some b64 ∧ (∃ b66, qR h62 l0 40 = some b66 ∧ (vp_in (60 + l1) (qL h62 b66) ∧ (vp_in l1 (qL h62 b64) ∧ ∀ h69, h69 = qsI h62 b64 l1.toNatClampNeg (qI h62 b66 (60 + l1).toNatClampNeg) → ∀ v71 : Int32, v71 = l1 + 1 → bk198 (v71, h69)))))))))))))))))))
def wp_X12_claim_198 (l0 : Nat)  (Q : Int32 → PH → Prop) (bk198 : Int32 × PH → Prop) (s : Int32 × PH) : Prop := wb_X12_claim_198 l0 Q bk198 s.1 s.2
set_option maxHeartbeats 4000000 in
set_option maxRecDepth 100000 in
theorem bd_X12_claim_198 (G : GT) (d : Nat) (h0 hb : PH) (l0 : Nat) (Q : Int32 → PH → Prop)  (hex : qEx h0 hb) (hnn : qn hb = qn h0 + 0) (hzz : qz hb = qz h0 + 0) (okl0 : qOK hb 11 l0) (bk198 : Int32 × PH → Prop) (hbk198 : ∀ s2, bk198 s2 → E_X12_claim_198 G d h0 hb l0 Q s2) (l1 : Int32) (h : PH) (hwp : wb_X12_claim_198 l0 Q bk198 l1 h) (hx198 : qEx hb h) (hn198 : qn h = qn hb) (hz198 : qz h = qz hb) : Ex G (qrm (45 + d) 0 0) mX12_claim (qn h0) (qz h0) (ZN G h0 0 0 (qqi Q)) 198 [(0, .ref l0), (1, .int l1)] [] h := by
  unfold wb_X12_claim_198 at hwp
  have hex := hex.tr hx198
  have hnn := hn198.trans hnn
  have hzz := hz198.trans hzz
  have okl0 := okl0.ex hx198
  refine x_iload_n (pc := 198) dX12_claim_198 rfl ?_
  refine x_bipush (v := 60) (pc := 199) dX12_claim_199 (by decide) ?_
  refine x_icmp_ge (tgt := 270) (pc := 201) dX12_claim_201 (by decide) (fun c42 => ?_) (fun c42 => ?_)
  · have hwp := hwp.1 c42
    refine x_aload_n (pc := 270) dX12_claim_270 rfl ?_
    refine x_getI (pc := 271) dX12_claim_271 qRX12_345 okl0 (by decide) ?_
    exact x_iret (pc := 274) dX12_claim_274 rfl hex hnn hzz ⟨_, rfl, hwp⟩
  · have hwp := hwp.2 c42
    refine x_aload_n (pc := 204) dX12_claim_204 rfl ?_
    obtain ⟨b43, e44, hwp⟩ := hwp
    refine x_getR (pc := 205) dX12_claim_205 qRX12_42 okl0 e44 (fun okb43 => ?_)
    refine x_iload_n (pc := 208) dX12_claim_208 rfl ?_
    refine x_aload_n (pc := 209) dX12_claim_209 rfl ?_
    obtain ⟨b45, e46, hwp⟩ := hwp
    refine x_getR (pc := 210) dX12_claim_210 qRX12_42 okl0 e46 (fun okb45 => ?_)
    refine x_bipush (v := 60) (pc := 213) dX12_claim_213 (by decide) ?_
    refine x_iload_n (pc := 215) dX12_claim_215 rfl ?_
    refine x_iadd (pc := 216) dX12_claim_216 ?_
    obtain ⟨i47, hwp⟩ := hwp
    refine x_iaload (pc := 217) dX12_claim_217 okb45 i47 ?_
    obtain ⟨i49, hwp⟩ := hwp
    refine y_iastore (pc := 218) dX12_claim_218 okb43 i49 (fun h48 eh48 nxh48 => ?_)
    have hwp := hwp h48 eh48
    have hex := hex.tr nxh48.1
    have hnn := nxh48.2.1.trans hnn
    have hzz := nxh48.2.2.trans hzz
    have hx198 := hx198.tr nxh48.1
    have hn198 := nxh48.2.1.trans hn198
    have hz198 := nxh48.2.2.trans hz198
    have okl0 := okl0.ex nxh48.1
    have okb43 := okb43.ex nxh48.1
    have okb45 := okb45.ex nxh48.1
    refine x_aload_n (pc := 219) dX12_claim_219 rfl ?_
    obtain ⟨b50, e51, hwp⟩ := hwp
    refine x_getR (pc := 220) dX12_claim_220 qRX12_45 okl0 e51 (fun okb50 => ?_)
    refine x_iload_n (pc := 223) dX12_claim_223 rfl ?_
    refine x_aload_n (pc := 224) dX12_claim_224 rfl ?_
    obtain ⟨b52, e53, hwp⟩ := hwp
    refine x_getR (pc := 225) dX12_claim_225 qRX12_45 okl0 e53 (fun okb52 => ?_)
    refine x_bipush (v := 60) (pc := 228) dX12_claim_228 (by decide) ?_
    refine x_iload_n (pc := 230) dX12_claim_230 rfl ?_
    refine x_iadd (pc := 231) dX12_claim_231 ?_
    obtain ⟨i54, hwp⟩ := hwp
    refine x_iaload (pc := 232) dX12_claim_232 okb52 i54 ?_
    obtain ⟨i56, hwp⟩ := hwp
    refine y_iastore (pc := 233) dX12_claim_233 okb50 i56 (fun h55 eh55 nxh55 => ?_)
    have hwp := hwp h55 eh55
    have hex := hex.tr nxh55.1
    have hnn := nxh55.2.1.trans hnn
    have hzz := nxh55.2.2.trans hzz
    have hx198 := hx198.tr nxh55.1
    have hn198 := nxh55.2.1.trans hn198
    have hz198 := nxh55.2.2.trans hz198
    have okl0 := okl0.ex nxh55.1
    have okb43 := okb43.ex nxh55.1
    have okb45 := okb45.ex nxh55.1
    have okb50 := okb50.ex nxh55.1
    have okb52 := okb52.ex nxh55.1
    refine x_aload_n (pc := 234) dX12_claim_234 rfl ?_
    obtain ⟨b57, e58, hwp⟩ := hwp
    refine x_getR (pc := 235) dX12_claim_235 qRX12_48 okl0 e58 (fun okb57 => ?_)
    refine x_iload_n (pc := 238) dX12_claim_238 rfl ?_
    refine x_aload_n (pc := 239) dX12_claim_239 rfl ?_
    obtain ⟨b59, e60, hwp⟩ := hwp
    refine x_getR (pc := 240) dX12_claim_240 qRX12_48 okl0 e60 (fun okb59 => ?_)
    refine x_bipush (v := 60) (pc := 243) dX12_claim_243 (by decide) ?_
    refine x_iload_n (pc := 245) dX12_claim_245 rfl ?_
    refine x_iadd (pc := 246) dX12_claim_246 ?_
    obtain ⟨i61, hwp⟩ := hwp
    refine x_iaload (pc := 247) dX12_claim_247 okb59 i61 ?_
    obtain ⟨i63, hwp⟩ := hwp
    refine y_iastore (pc := 248) dX12_claim_248 okb57 i63 (fun h62 eh62 nxh62 => ?_)
    have hwp := hwp h62 eh62
    have hex := hex.tr nxh62.1
    have hnn := nxh62.2.1.trans hnn
    have hzz := nxh62.2.2.trans hzz
    have hx198 := hx198.tr nxh62.1
    have hn198 := nxh62.2.1.trans hn198
    have hz198 := nxh62.2.2.trans hz198
    have okl0 := okl0.ex nxh62.1
    have okb43 := okb43.ex nxh62.1
    have okb45 := okb45.ex nxh62.1
    have okb50 := okb50.ex nxh62.1
    have okb52 := okb52.ex nxh62.1
    have okb57 := okb57.ex nxh62.1
    have okb59 := okb59.ex nxh62.1
    refine x_aload_n (pc := 249) dX12_claim_249 rfl ?_
    obtain ⟨b64, e65, hwp⟩ := hwp
    refine x_getR (pc := 250) dX12_claim_250 qRX12_51 okl0 e65 (fun okb64 => ?_)
    refine x_iload_n (pc := 253) dX12_claim_253 rfl ?_
    refine x_aload_n (pc := 254) dX12_claim_254 rfl ?_
    obtain ⟨b66, e67, hwp⟩ := hwp
    refine x_getR (pc := 255) dX12_claim_255 qRX12_51 okl0 e67 (fun okb66 => ?_)
    refine x_bipush (v := 60) (pc := 258) dX12_claim_258 (by decide) ?_
    refine x_iload_n (pc := 260) dX12_claim_260 rfl ?_
    refine x_iadd (pc := 261) dX12_claim_261 ?_
    obtain ⟨i68, hwp⟩ := hwp
    refine x_iaload (pc := 262) dX12_claim_262 okb66 i68 ?_
    obtain ⟨i70, hwp⟩ := hwp
    refine y_iastore (pc := 263) dX12_claim_263 okb64 i70 (fun h69 eh69 nxh69 => ?_)
    have hwp := hwp h69 eh69
    have hex := hex.tr nxh69.1
    have hnn := nxh69.2.1.trans hnn
    have hzz := nxh69.2.2.trans hzz
    have hx198 := hx198.tr nxh69.1
    have hn198 := nxh69.2.1.trans hn198
    have hz198 := nxh69.2.2.trans hz198
    have okl0 := okl0.ex nxh69.1
    have okb43 := okb43.ex nxh69.1
    have okb45 := okb45.ex nxh69.1
    have okb50 := okb50.ex nxh69.1
    have okb52 := okb52.ex nxh69.1
    have okb57 := okb57.ex nxh69.1
    have okb59 := okb59.ex nxh69.1
    have okb64 := okb64.ex nxh69.1
    have okb66 := okb66.ex nxh69.1
    refine y_iinc (c := 1) (pc := 264) dX12_claim_264 rfl (by decide) (by decide) (fun v71 ev71 => ?_)
    have hwp := hwp v71 ev71
    refine x_lvE (lv2 := [(1, .int v71), (0, .ref l0)]) rfl ?_
    refine x_goto (tgt := 198) (pc := 267) dX12_claim_267 (by decide) ?_
    refine x_sub [1, 0] rfl ?_
    exact hbk198 _ hwp ⟨hx198, hn198, hz198⟩
theorem lp_X12_claim_198 (G : GT) (d : Nat) (h0 hb : PH) (l0 : Nat) (Q : Int32 → PH → Prop)  (hex : qEx h0 hb) (hnn : qn hb = qn h0 + 0) (hzz : qz hb = qz h0 + 0) (okl0 : qOK hb 11 l0) {s : Int32 × PH} (hwp : qLoop (wp_X12_claim_198 l0 Q) s) : E_X12_claim_198 G d h0 hb l0 Q s :=
  qLoop.use (E := E_X12_claim_198 G d h0 hb l0 Q) (fun back s hbk hw hx => bd_X12_claim_198 G d h0 hb l0 Q hex hnn hzz okl0 back hbk s.1 s.2 hw hx.1 hx.2.1 hx.2.2) hwp
def wp_X12_claim_119 (l0 : Nat) (s0 : Int32) (s1 : Nat)  (h : PH) (Q : Int32 → PH → Prop) : Prop := (∀ h28, h28 = qsI h s1 46 s0 → ((¬ (qI h28 l0 46) = 0 → (wp_X12_go l0 h28 (fun h30 => (wp_X12_readOrR l0 h30 (fun r33 h32 => ((¬ r33 = 0 → (((qI h32 l0 7) = 0 → (∀ h36, h36 = qsI h32 l0 44 (qI h32 l0 46) → (∀ h37, h37 = qsI h36 l0 45 (qI h36 l0 47) → (qLoop (wp_X12_claim_198 l0 Q) (0, h37))))) ∧ (¬ ((qI h32 l0 7) = 0) → (wp_X12_bad l0 1 h32 (fun r39 h38 => Q ((-1) - (qI h38 l0 11)) h38))))) ∧ (r33 = 0 → Q ((-1) - (qI h32 l0 11)) h32))))))) ∧ ((qI h28 l0 46) = 0 → (wp_X12_bad l0 1 h28 (fun r41 h40 => Q ((-1) - (qI h40 l0 11)) h40)))))
set_option maxHeartbeats 4000000 in
set_option maxRecDepth 100000 in
theorem sg_X12_claim_119 (G : GT) (d : Nat) (h0 : PH) (l0 : Nat) (s0 : Int32) (s1 : Nat) (h : PH) (Q : Int32 → PH → Prop) (hex : qEx h0 h) (hnn : qn h = qn h0 + 0) (hzz : qz h = qz h0 + 0) (okl0 : qOK h 11 l0) (oks1 : qOK h 11 s1) (hwp : wp_X12_claim_119 l0 s0 s1 h Q) : Ex G (qrm (45 + d) 0 0) mX12_claim (qn h0) (qz h0) (ZN G h0 0 0 (qqi Q)) 119 [(0, .ref l0)] [.int s0, .ref s1] h := by
  unfold wp_X12_claim_119 at hwp
  refine y_putI (pc := 119) dX12_claim_119 qRX12_357 oks1 (fun h28 eh28 nxh28 => ?_)
  have hwp := hwp h28 eh28
  have hex := hex.tr nxh28.1
  have hnn := nxh28.2.1.trans hnn
  have hzz := nxh28.2.2.trans hzz
  have okl0 := okl0.ex nxh28.1
  have oks1 := oks1.ex nxh28.1
  refine x_aload_n (pc := 122) dX12_claim_122 rfl ?_
  refine x_getI (pc := 123) dX12_claim_123 qRX12_357 okl0 (by decide) ?_
  refine x_if_ne (tgt := 142) (pc := 126) dX12_claim_126 (by decide) (fun c29 => ?_) (fun c29 => ?_)
  · have hwp := hwp.1 c29
    refine x_aload_n (pc := 142) dX12_claim_142 rfl ?_
    refine x_invV (As := []) (st := []) (pc := 143) dX12_claim_143 lRX12_146 fX12_go vX12_go okl0 rfl (Nat.le_of_ble_eq_true rfl) (q_R (by omega) (by decide)) (q_C hnn hzz (by decide) (by decide)) (sn_X12_go G (d + 43) l0 h28 _ okl0 hwp) (k_v (fun h30 hwp cxh30 => ?_))
    have hex := hex.tr cxh30.1
    have hnn : qn h30 = qn h0 + 0 := by have := cxh30.2.1; omega
    have hzz : qz h30 = qz h0 + 0 := by have := cxh30.2.2; omega
    have okl0 := okl0.ex cxh30.1
    have oks1 := oks1.ex cxh30.1
    refine x_aload_n (pc := 146) dX12_claim_146 rfl ?_
    refine x_invV (As := []) (st := []) (pc := 147) dX12_claim_147 lRX12_351 fX12_readOr vX12_readOr okl0 rfl (Nat.le_of_ble_eq_true rfl) (q_R (by omega) (by decide)) (q_C hnn hzz (by decide) (by decide)) (sn_X12_readOrR G (d + 0) l0 h30 _ okl0 hwp) (k_b (fun r33 h32 hwp zbr33 cxh32 => ?_))
    have hex := hex.tr cxh32.1
    have hnn : qn h32 = qn h0 + 0 := by have := cxh32.2.1; omega
    have hzz : qz h32 = qz h0 + 0 := by have := cxh32.2.2; omega
    have okl0 := okl0.ex cxh32.1
    have oks1 := oks1.ex cxh32.1
    refine x_if_ne (tgt := 160) (pc := 150) dX12_claim_150 (by decide) (fun c34 => ?_) (fun c34 => ?_)
    · have hwp := hwp.1 c34
      refine x_aload_n (pc := 160) dX12_claim_160 rfl ?_
      refine x_getI (pc := 161) dX12_claim_161 qRX12_98 okl0 (by decide) ?_
      refine x_if_eq (tgt := 180) (pc := 164) dX12_claim_164 (by decide) (fun c35 => ?_) (fun c35 => ?_)
      · have hwp := hwp.1 c35
        refine x_aload_n (pc := 180) dX12_claim_180 rfl ?_
        refine x_aload_n (pc := 181) dX12_claim_181 rfl ?_
        refine x_getI (pc := 182) dX12_claim_182 qRX12_357 okl0 (by decide) ?_
        refine y_putI (pc := 185) dX12_claim_185 qRX12_360 okl0 (fun h36 eh36 nxh36 => ?_)
        have hwp := hwp h36 eh36
        have hex := hex.tr nxh36.1
        have hnn := nxh36.2.1.trans hnn
        have hzz := nxh36.2.2.trans hzz
        have okl0 := okl0.ex nxh36.1
        have oks1 := oks1.ex nxh36.1
        refine x_aload_n (pc := 188) dX12_claim_188 rfl ?_
        refine x_aload_n (pc := 189) dX12_claim_189 rfl ?_
        refine x_getI (pc := 190) dX12_claim_190 qRX12_335 okl0 (by decide) ?_
        refine y_putI (pc := 193) dX12_claim_193 qRX12_363 okl0 (fun h37 eh37 nxh37 => ?_)
        have hwp := hwp h37 eh37
        have hex := hex.tr nxh37.1
        have hnn := nxh37.2.1.trans hnn
        have hzz := nxh37.2.2.trans hzz
        have okl0 := okl0.ex nxh37.1
        have oks1 := oks1.ex nxh37.1
        refine x_iconst (v := 0) (pc := 196) dX12_claim_196 (by decide) ?_
        refine x_istore_n (lv2 := [(1, .int 0), (0, .ref l0)]) (pc := 197) dX12_claim_197 (by decide) rfl ?_
        refine x_sub [1, 0] rfl ?_
        exact lp_X12_claim_198 G d h0 h37 l0 Q hex hnn hzz okl0 hwp ⟨qEx.rf _, rfl, rfl⟩
      · have hwp := hwp.2 c35
        refine x_aload_n (pc := 167) dX12_claim_167 rfl ?_
        refine x_iconst (v := 1) (pc := 168) dX12_claim_168 (by decide) ?_
        refine x_invV (As := [.int 1]) (st := []) (pc := 169) dX12_claim_169 lRX12_136 fX12_bad vX12_bad okl0 rfl (Nat.le_of_ble_eq_true rfl) (q_R (by omega) (by decide)) (q_C hnn hzz (by decide) (by decide)) (sn_X12_bad G (d + 44) l0 1 h32 _ okl0 hwp) (k_b (fun r39 h38 hwp zbr39 cxh38 => ?_))
        have hex := hex.tr cxh38.1
        have hnn : qn h38 = qn h0 + 0 := by have := cxh38.2.1; omega
        have hzz : qz h38 = qz h0 + 0 := by have := cxh38.2.2; omega
        have okl0 := okl0.ex cxh38.1
        have oks1 := oks1.ex cxh38.1
        refine x_pop (pc := 172) dX12_claim_172 rfl ?_
        refine x_iconst (v := (-1)) (pc := 173) dX12_claim_173 (by decide) ?_
        refine x_aload_n (pc := 174) dX12_claim_174 rfl ?_
        refine x_getI (pc := 175) dX12_claim_175 qRX12_133 okl0 (by decide) ?_
        refine x_isub (pc := 178) dX12_claim_178 ?_
        exact x_iret (pc := 179) dX12_claim_179 rfl hex hnn hzz ⟨_, rfl, hwp⟩
    · have hwp := hwp.2 c34
      refine x_iconst (v := (-1)) (pc := 153) dX12_claim_153 (by decide) ?_
      refine x_aload_n (pc := 154) dX12_claim_154 rfl ?_
      refine x_getI (pc := 155) dX12_claim_155 qRX12_133 okl0 (by decide) ?_
      refine x_isub (pc := 158) dX12_claim_158 ?_
      exact x_iret (pc := 159) dX12_claim_159 rfl hex hnn hzz ⟨_, rfl, hwp⟩
  · have hwp := hwp.2 c29
    refine x_aload_n (pc := 129) dX12_claim_129 rfl ?_
    refine x_iconst (v := 1) (pc := 130) dX12_claim_130 (by decide) ?_
    refine x_invV (As := [.int 1]) (st := []) (pc := 131) dX12_claim_131 lRX12_136 fX12_bad vX12_bad okl0 rfl (Nat.le_of_ble_eq_true rfl) (q_R (by omega) (by decide)) (q_C hnn hzz (by decide) (by decide)) (sn_X12_bad G (d + 44) l0 1 h28 _ okl0 hwp) (k_b (fun r41 h40 hwp zbr41 cxh40 => ?_))
    have hex := hex.tr cxh40.1
    have hnn : qn h40 = qn h0 + 0 := by have := cxh40.2.1; omega
    have hzz : qz h40 = qz h0 + 0 := by have := cxh40.2.2; omega
    have okl0 := okl0.ex cxh40.1
    have oks1 := oks1.ex cxh40.1
    refine x_pop (pc := 134) dX12_claim_134 rfl ?_
    refine x_iconst (v := (-1)) (pc := 135) dX12_claim_135 (by decide) ?_
    refine x_aload_n (pc := 136) dX12_claim_136 rfl ?_
    refine x_getI (pc := 137) dX12_claim_137 qRX12_133 okl0 (by decide) ?_
    refine x_isub (pc := 140) dX12_claim_140 ?_
    exact x_iret (pc := 141) dX12_claim_141 rfl hex hnn hzz ⟨_, rfl, hwp⟩
def wp_X12_claim (l0 : Nat) (h : PH) (Q : Int32 → PH → Prop) : Prop := (∀ h1, h1 = qsI h l0 0 0 → (wp_X12_take l0 h1 (fun r3 h2 => (∀ h4, h4 = qsI h2 l0 3 r3 → (∀ h5, h5 = qsI h4 l0 4 200 → (∀ h6, h6 = qsI h5 l0 10 0 → (∀ h7, h7 = qsI h6 l0 41 0 → (∀ h8, h8 = qsI h7 l0 42 0 → (∀ h9, h9 = qsI h8 l0 43 0 → (∀ h10, h10 = qsI h9 l0 5 0 → (wp_X12_go l0 h10 (fun h11 => (wp_X12_spelt 101 97 99 104 0 h11 (fun r14 h13 => (wp_X12_isKey l0 r14 h13 (fun r16 h15 => ((r16 = 0 → (wp_X12_spelt 115 111 109 101 0 h15 (fun r19 h18 => (wp_X12_isKey l0 r19 h18 (fun r21 h20 => ((r21 = 0 → (wp_X12_spelt 97 108 108 0 0 h20 (fun r24 h23 => (wp_X12_isKey l0 r24 h23 (fun r26 h25 => ((r26 = 0 → (wp_X12_claim_119 l0 0 l0 h25 Q)) ∧ (¬ (r26 = 0) → (wp_X12_claim_119 l0 3 l0 h25 Q)))))))) ∧ (¬ (r21 = 0) → (wp_X12_claim_119 l0 2 l0 h20 Q)))))))) ∧ (¬ (r16 = 0) → (wp_X12_claim_119 l0 1 l0 h15 Q)))))))))))))))))))
set_option maxHeartbeats 4000000 in
set_option maxRecDepth 100000 in
theorem sn_X12_claim (G : GT) (d : Nat) (l0 : Nat) (h : PH) (Q : Int32 → PH → Prop) (okl0 : qOK h 11 l0) (hwp : wp_X12_claim l0 h Q) : Mt G (45 + d) 0 0 mX12_claim [.ref l0] h (qqi Q) := by
  unfold wp_X12_claim at hwp
  refine Mt.of (by decide) rfl (Nat.le_of_ble_eq_true rfl) ?_
  have hex := qEx.rf h
  have hnn : qn h = qn h + 0 := rfl
  have hzz : qz h = qz h + 0 := rfl
  refine x_lvE (lv2 := [(0, .ref l0)]) rfl ?_
  refine x_aload_n (pc := 0) dX12_claim_0 rfl ?_
  refine x_iconst (v := 0) (pc := 1) dX12_claim_1 (by decide) ?_
  refine y_putI (pc := 2) dX12_claim_2 qRX12_75 okl0 (fun h1 eh1 nxh1 => ?_)
  have hwp := hwp h1 eh1
  have hex := hex.tr nxh1.1
  have hnn := nxh1.2.1.trans hnn
  have hzz := nxh1.2.2.trans hzz
  have okl0 := okl0.ex nxh1.1
  refine x_aload_n (pc := 5) dX12_claim_5 rfl ?_
  refine x_aload_n (pc := 6) dX12_claim_6 rfl ?_
  refine x_invV (As := []) (st := [.ref l0]) (pc := 7) dX12_claim_7 lRX12_220 fX12_take vX12_take okl0 rfl (Nat.le_of_ble_eq_true rfl) (q_R (by omega) (by decide)) (q_C hnn hzz (by decide) (by decide)) (sn_X12_take G (d + 44) l0 h1 _ okl0 hwp) (k_i (fun r3 h2 hwp cxh2 => ?_))
  have hex := hex.tr cxh2.1
  have hnn : qn h2 = qn h + 0 := by have := cxh2.2.1; omega
  have hzz : qz h2 = qz h + 0 := by have := cxh2.2.2; omega
  have okl0 := okl0.ex cxh2.1
  refine y_putI (pc := 10) dX12_claim_10 qRX12_86 okl0 (fun h4 eh4 nxh4 => ?_)
  have hwp := hwp h4 eh4
  have hex := hex.tr nxh4.1
  have hnn := nxh4.2.1.trans hnn
  have hzz := nxh4.2.2.trans hzz
  have okl0 := okl0.ex nxh4.1
  refine x_aload_n (pc := 13) dX12_claim_13 rfl ?_
  refine x_sipush (v := 200) (pc := 14) dX12_claim_14 (by decide) ?_
  refine y_putI (pc := 17) dX12_claim_17 qRX12_95 okl0 (fun h5 eh5 nxh5 => ?_)
  have hwp := hwp h5 eh5
  have hex := hex.tr nxh5.1
  have hnn := nxh5.2.1.trans hnn
  have hzz := nxh5.2.2.trans hzz
  have okl0 := okl0.ex nxh5.1
  refine x_aload_n (pc := 20) dX12_claim_20 rfl ?_
  refine x_iconst (v := 0) (pc := 21) dX12_claim_21 (by decide) ?_
  refine y_putI (pc := 22) dX12_claim_22 qRX12_130 okl0 (fun h6 eh6 nxh6 => ?_)
  have hwp := hwp h6 eh6
  have hex := hex.tr nxh6.1
  have hnn := nxh6.2.1.trans hnn
  have hzz := nxh6.2.2.trans hzz
  have okl0 := okl0.ex nxh6.1
  refine x_aload_n (pc := 25) dX12_claim_25 rfl ?_
  refine x_iconst (v := 0) (pc := 26) dX12_claim_26 (by decide) ?_
  refine y_putI (pc := 27) dX12_claim_27 qRX12_326 okl0 (fun h7 eh7 nxh7 => ?_)
  have hwp := hwp h7 eh7
  have hex := hex.tr nxh7.1
  have hnn := nxh7.2.1.trans hnn
  have hzz := nxh7.2.2.trans hzz
  have okl0 := okl0.ex nxh7.1
  refine x_aload_n (pc := 30) dX12_claim_30 rfl ?_
  refine x_iconst (v := 0) (pc := 31) dX12_claim_31 (by decide) ?_
  refine y_putI (pc := 32) dX12_claim_32 qRX12_345 okl0 (fun h8 eh8 nxh8 => ?_)
  have hwp := hwp h8 eh8
  have hex := hex.tr nxh8.1
  have hnn := nxh8.2.1.trans hnn
  have hzz := nxh8.2.2.trans hzz
  have okl0 := okl0.ex nxh8.1
  refine x_aload_n (pc := 35) dX12_claim_35 rfl ?_
  refine x_iconst (v := 0) (pc := 36) dX12_claim_36 (by decide) ?_
  refine y_putI (pc := 37) dX12_claim_37 qRX12_348 okl0 (fun h9 eh9 nxh9 => ?_)
  have hwp := hwp h9 eh9
  have hex := hex.tr nxh9.1
  have hnn := nxh9.2.1.trans hnn
  have hzz := nxh9.2.2.trans hzz
  have okl0 := okl0.ex nxh9.1
  refine x_aload_n (pc := 40) dX12_claim_40 rfl ?_
  refine x_iconst (v := 0) (pc := 41) dX12_claim_41 (by decide) ?_
  refine y_putI (pc := 42) dX12_claim_42 qRX12_89 okl0 (fun h10 eh10 nxh10 => ?_)
  have hwp := hwp h10 eh10
  have hex := hex.tr nxh10.1
  have hnn := nxh10.2.1.trans hnn
  have hzz := nxh10.2.2.trans hzz
  have okl0 := okl0.ex nxh10.1
  refine x_aload_n (pc := 45) dX12_claim_45 rfl ?_
  refine x_invV (As := []) (st := []) (pc := 46) dX12_claim_46 lRX12_146 fX12_go vX12_go okl0 rfl (Nat.le_of_ble_eq_true rfl) (q_R (by omega) (by decide)) (q_C hnn hzz (by decide) (by decide)) (sn_X12_go G (d + 43) l0 h10 _ okl0 hwp) (k_v (fun h11 hwp cxh11 => ?_))
  have hex := hex.tr cxh11.1
  have hnn : qn h11 = qn h + 0 := by have := cxh11.2.1; omega
  have hzz : qz h11 = qz h + 0 := by have := cxh11.2.2; omega
  have okl0 := okl0.ex cxh11.1
  refine x_aload_n (pc := 49) dX12_claim_49 rfl ?_
  refine x_aload_n (pc := 50) dX12_claim_50 rfl ?_
  refine x_bipush (v := 101) (pc := 51) dX12_claim_51 (by decide) ?_
  refine x_bipush (v := 97) (pc := 53) dX12_claim_53 (by decide) ?_
  refine x_bipush (v := 99) (pc := 55) dX12_claim_55 (by decide) ?_
  refine x_bipush (v := 104) (pc := 57) dX12_claim_57 (by decide) ?_
  refine x_iconst (v := 0) (pc := 59) dX12_claim_59 (by decide) ?_
  refine x_invS (As := [.int 101, .int 97, .int 99, .int 104, .int 0]) (st := [.ref l0, .ref l0]) (pc := 60) dX12_claim_60 lRX12_126 fX12_spelt sX12_spelt rfl (Nat.le_of_ble_eq_true rfl) (q_R (by omega) (by decide)) (q_C hnn hzz (by decide) (by decide)) (sn_X12_spelt G (d + 44) 101 97 99 104 0 h11 _  hwp) (k_j (fun r14 h13 hwp cxh13 => ?_))
  have hex := hex.tr cxh13.1
  have hnn : qn h13 = qn h + 0 := by have := cxh13.2.1; omega
  have hzz : qz h13 = qz h + 0 := by have := cxh13.2.2; omega
  have okl0 := okl0.ex cxh13.1
  refine x_invV (As := [.long r14]) (st := [.ref l0]) (pc := 63) dX12_claim_63 lRX12_149 fX12_isKey vX12_isKey okl0 rfl (Nat.le_of_ble_eq_true rfl) (q_R (by omega) (by decide)) (q_C hnn hzz (by decide) (by decide)) (sn_X12_isKey G (d + 44) l0 r14 h13 _ okl0 hwp) (k_b (fun r16 h15 hwp zbr16 cxh15 => ?_))
  have hex := hex.tr cxh15.1
  have hnn : qn h15 = qn h + 0 := by have := cxh15.2.1; omega
  have hzz : qz h15 = qz h + 0 := by have := cxh15.2.2; omega
  have okl0 := okl0.ex cxh15.1
  refine x_if_eq (tgt := 73) (pc := 66) dX12_claim_66 (by decide) (fun c17 => ?_) (fun c17 => ?_)
  · have hwp := hwp.1 c17
    refine x_aload_n (pc := 73) dX12_claim_73 rfl ?_
    refine x_bipush (v := 115) (pc := 74) dX12_claim_74 (by decide) ?_
    refine x_bipush (v := 111) (pc := 76) dX12_claim_76 (by decide) ?_
    refine x_bipush (v := 109) (pc := 78) dX12_claim_78 (by decide) ?_
    refine x_bipush (v := 101) (pc := 80) dX12_claim_80 (by decide) ?_
    refine x_iconst (v := 0) (pc := 82) dX12_claim_82 (by decide) ?_
    refine x_invS (As := [.int 115, .int 111, .int 109, .int 101, .int 0]) (st := [.ref l0, .ref l0]) (pc := 83) dX12_claim_83 lRX12_126 fX12_spelt sX12_spelt rfl (Nat.le_of_ble_eq_true rfl) (q_R (by omega) (by decide)) (q_C hnn hzz (by decide) (by decide)) (sn_X12_spelt G (d + 44) 115 111 109 101 0 h15 _  hwp) (k_j (fun r19 h18 hwp cxh18 => ?_))
    have hex := hex.tr cxh18.1
    have hnn : qn h18 = qn h + 0 := by have := cxh18.2.1; omega
    have hzz : qz h18 = qz h + 0 := by have := cxh18.2.2; omega
    have okl0 := okl0.ex cxh18.1
    refine x_invV (As := [.long r19]) (st := [.ref l0]) (pc := 86) dX12_claim_86 lRX12_149 fX12_isKey vX12_isKey okl0 rfl (Nat.le_of_ble_eq_true rfl) (q_R (by omega) (by decide)) (q_C hnn hzz (by decide) (by decide)) (sn_X12_isKey G (d + 44) l0 r19 h18 _ okl0 hwp) (k_b (fun r21 h20 hwp zbr21 cxh20 => ?_))
    have hex := hex.tr cxh20.1
    have hnn : qn h20 = qn h + 0 := by have := cxh20.2.1; omega
    have hzz : qz h20 = qz h + 0 := by have := cxh20.2.2; omega
    have okl0 := okl0.ex cxh20.1
    refine x_if_eq (tgt := 96) (pc := 89) dX12_claim_89 (by decide) (fun c22 => ?_) (fun c22 => ?_)
    · have hwp := hwp.1 c22
      refine x_aload_n (pc := 96) dX12_claim_96 rfl ?_
      refine x_bipush (v := 97) (pc := 97) dX12_claim_97 (by decide) ?_
      refine x_bipush (v := 108) (pc := 99) dX12_claim_99 (by decide) ?_
      refine x_bipush (v := 108) (pc := 101) dX12_claim_101 (by decide) ?_
      refine x_iconst (v := 0) (pc := 103) dX12_claim_103 (by decide) ?_
      refine x_iconst (v := 0) (pc := 104) dX12_claim_104 (by decide) ?_
      refine x_invS (As := [.int 97, .int 108, .int 108, .int 0, .int 0]) (st := [.ref l0, .ref l0]) (pc := 105) dX12_claim_105 lRX12_126 fX12_spelt sX12_spelt rfl (Nat.le_of_ble_eq_true rfl) (q_R (by omega) (by decide)) (q_C hnn hzz (by decide) (by decide)) (sn_X12_spelt G (d + 44) 97 108 108 0 0 h20 _  hwp) (k_j (fun r24 h23 hwp cxh23 => ?_))
      have hex := hex.tr cxh23.1
      have hnn : qn h23 = qn h + 0 := by have := cxh23.2.1; omega
      have hzz : qz h23 = qz h + 0 := by have := cxh23.2.2; omega
      have okl0 := okl0.ex cxh23.1
      refine x_invV (As := [.long r24]) (st := [.ref l0]) (pc := 108) dX12_claim_108 lRX12_149 fX12_isKey vX12_isKey okl0 rfl (Nat.le_of_ble_eq_true rfl) (q_R (by omega) (by decide)) (q_C hnn hzz (by decide) (by decide)) (sn_X12_isKey G (d + 44) l0 r24 h23 _ okl0 hwp) (k_b (fun r26 h25 hwp zbr26 cxh25 => ?_))
      have hex := hex.tr cxh25.1
      have hnn : qn h25 = qn h + 0 := by have := cxh25.2.1; omega
      have hzz : qz h25 = qz h + 0 := by have := cxh25.2.2; omega
      have okl0 := okl0.ex cxh25.1
      refine x_if_eq (tgt := 118) (pc := 111) dX12_claim_111 (by decide) (fun c27 => ?_) (fun c27 => ?_)
      · have hwp := hwp.1 c27
        refine x_iconst (v := 0) (pc := 118) dX12_claim_118 (by decide) ?_
        refine x_sub [0] rfl ?_
        exact sg_X12_claim_119 G d h l0 0 l0 h25 Q hex hnn hzz okl0 okl0 hwp
      · have hwp := hwp.2 c27
        refine x_iconst (v := 3) (pc := 114) dX12_claim_114 (by decide) ?_
        refine x_goto (tgt := 119) (pc := 115) dX12_claim_115 (by decide) ?_
        refine x_sub [0] rfl ?_
        exact sg_X12_claim_119 G d h l0 3 l0 h25 Q hex hnn hzz okl0 okl0 hwp
    · have hwp := hwp.2 c22
      refine x_iconst (v := 2) (pc := 92) dX12_claim_92 (by decide) ?_
      refine x_goto (tgt := 119) (pc := 93) dX12_claim_93 (by decide) ?_
      refine x_sub [0] rfl ?_
      exact sg_X12_claim_119 G d h l0 2 l0 h20 Q hex hnn hzz okl0 okl0 hwp
  · have hwp := hwp.2 c17
    refine x_iconst (v := 1) (pc := 69) dX12_claim_69 (by decide) ?_
    refine x_goto (tgt := 119) (pc := 70) dX12_claim_70 (by decide) ?_
    refine x_sub [0] rfl ?_
    exact sg_X12_claim_119 G d h l0 1 l0 h15 Q hex hnn hzz okl0 okl0 hwp

theorem dX12_valueAt_0 : decode cX12_valueAt 0 = .ok (.iconst 0, 1) := by decide +kernel
theorem dX12_valueAt_1 : decode cX12_valueAt 1 = .ok (.istore_n 3, 1) := by decide +kernel
theorem dX12_valueAt_2 : decode cX12_valueAt 2 = .ok (.iconst 0, 1) := by decide +kernel
theorem dX12_valueAt_3 : decode cX12_valueAt 3 = .ok (.istore 4, 2) := by decide +kernel
theorem dX12_valueAt_5 : decode cX12_valueAt 5 = .ok (.iload 4, 2) := by decide +kernel
theorem dX12_valueAt_7 : decode cX12_valueAt 7 = .ok (.aload_n 0, 1) := by decide +kernel
theorem dX12_valueAt_8 : decode cX12_valueAt 8 = .ok (.getfield 19, 3) := by decide +kernel
theorem dX12_valueAt_11 : decode cX12_valueAt 11 = .ok (.iconst 0, 1) := by decide +kernel
theorem dX12_valueAt_12 : decode cX12_valueAt 12 = .ok (.iaload, 1) := by decide +kernel
theorem dX12_valueAt_13 : decode cX12_valueAt 13 = .ok (.if_icmp .ge 240, 3) := by decide +kernel
theorem dX12_valueAt_16 : decode cX12_valueAt 16 = .ok (.iconst 0, 1) := by decide +kernel
theorem dX12_valueAt_17 : decode cX12_valueAt 17 = .ok (.iload 4, 2) := by decide +kernel
theorem dX12_valueAt_19 : decode cX12_valueAt 19 = .ok (.invokestatic 194, 3) := by decide +kernel
theorem dX12_valueAt_22 : decode cX12_valueAt 22 = .ok (.istore 5, 2) := by decide +kernel
theorem dX12_valueAt_24 : decode cX12_valueAt 24 = .ok (.aload_n 0, 1) := by decide +kernel
theorem dX12_valueAt_25 : decode cX12_valueAt 25 = .ok (.getfield 22, 3) := by decide +kernel
theorem dX12_valueAt_28 : decode cX12_valueAt 28 = .ok (.iload 5, 2) := by decide +kernel
theorem dX12_valueAt_30 : decode cX12_valueAt 30 = .ok (.iconst 0, 1) := by decide +kernel
theorem dX12_valueAt_31 : decode cX12_valueAt 31 = .ok (.iadd, 1) := by decide +kernel
theorem dX12_valueAt_32 : decode cX12_valueAt 32 = .ok (.iaload, 1) := by decide +kernel
theorem dX12_valueAt_33 : decode cX12_valueAt 33 = .ok (.istore 6, 2) := by decide +kernel
theorem dX12_valueAt_35 : decode cX12_valueAt 35 = .ok (.aload_n 0, 1) := by decide +kernel
theorem dX12_valueAt_36 : decode cX12_valueAt 36 = .ok (.iload 4, 2) := by decide +kernel
theorem dX12_valueAt_38 : decode cX12_valueAt 38 = .ok (.iload_n 2, 1) := by decide +kernel
theorem dX12_valueAt_39 : decode cX12_valueAt 39 = .ok (.invokevirtual 250, 3) := by decide +kernel
theorem dX12_valueAt_42 : decode cX12_valueAt 42 = .ok (.istore 7, 2) := by decide +kernel
theorem dX12_valueAt_44 : decode cX12_valueAt 44 = .ok (.iload_n 1, 1) := by decide +kernel
theorem dX12_valueAt_45 : decode cX12_valueAt 45 = .ok (.iconst 5, 1) := by decide +kernel
theorem dX12_valueAt_46 : decode cX12_valueAt 46 = .ok (.if_icmp .eq 9, 3) := by decide +kernel
theorem dX12_valueAt_49 : decode cX12_valueAt 49 = .ok (.iload_n 1, 1) := by decide +kernel
theorem dX12_valueAt_50 : decode cX12_valueAt 50 = .ok (.bipush 6, 2) := by decide +kernel
theorem dX12_valueAt_52 : decode cX12_valueAt 52 = .ok (.if_icmp .ne 50, 3) := by decide +kernel
theorem dX12_valueAt_55 : decode cX12_valueAt 55 = .ok (.aload_n 0, 1) := by decide +kernel
theorem dX12_valueAt_56 : decode cX12_valueAt 56 = .ok (.iload 4, 2) := by decide +kernel
theorem dX12_valueAt_58 : decode cX12_valueAt 58 = .ok (.iload_n 2, 1) := by decide +kernel
theorem dX12_valueAt_59 : decode cX12_valueAt 59 = .ok (.iconst 0, 1) := by decide +kernel
theorem dX12_valueAt_60 : decode cX12_valueAt 60 = .ok (.invokevirtual 268, 3) := by decide +kernel
theorem dX12_valueAt_63 : decode cX12_valueAt 63 = .ok (.istore 8, 2) := by decide +kernel
theorem dX12_valueAt_65 : decode cX12_valueAt 65 = .ok (.iload_n 1, 1) := by decide +kernel
theorem dX12_valueAt_66 : decode cX12_valueAt 66 = .ok (.iconst 5, 1) := by decide +kernel
theorem dX12_valueAt_67 : decode cX12_valueAt 67 = .ok (.if_icmp .ne 11, 3) := by decide +kernel
theorem dX12_valueAt_70 : decode cX12_valueAt 70 = .ok (.iload 8, 2) := by decide +kernel
theorem dX12_valueAt_72 : decode cX12_valueAt 72 = .ok (.ifCond .le 27, 3) := by decide +kernel
theorem dX12_valueAt_75 : decode cX12_valueAt 75 = .ok (.goto 8, 3) := by decide +kernel
theorem dX12_valueAt_78 : decode cX12_valueAt 78 = .ok (.iload 8, 2) := by decide +kernel
theorem dX12_valueAt_80 : decode cX12_valueAt 80 = .ok (.ifCond .ge 19, 3) := by decide +kernel
theorem dX12_valueAt_83 : decode cX12_valueAt 83 = .ok (.iload_n 3, 1) := by decide +kernel
theorem dX12_valueAt_84 : decode cX12_valueAt 84 = .ok (.iload 8, 2) := by decide +kernel
theorem dX12_valueAt_86 : decode cX12_valueAt 86 = .ok (.ifCond .ge 9, 3) := by decide +kernel
theorem dX12_valueAt_89 : decode cX12_valueAt 89 = .ok (.iload 8, 2) := by decide +kernel
theorem dX12_valueAt_91 : decode cX12_valueAt 91 = .ok (.ineg, 1) := by decide +kernel
theorem dX12_valueAt_92 : decode cX12_valueAt 92 = .ok (.goto 5, 3) := by decide +kernel
theorem dX12_valueAt_95 : decode cX12_valueAt 95 = .ok (.iload 8, 2) := by decide +kernel
theorem dX12_valueAt_97 : decode cX12_valueAt 97 = .ok (.iadd, 1) := by decide +kernel
theorem dX12_valueAt_98 : decode cX12_valueAt 98 = .ok (.istore_n 3, 1) := by decide +kernel
theorem dX12_valueAt_99 : decode cX12_valueAt 99 = .ok (.goto 148, 3) := by decide +kernel
theorem dX12_valueAt_102 : decode cX12_valueAt 102 = .ok (.iload_n 1, 1) := by decide +kernel
theorem dX12_valueAt_103 : decode cX12_valueAt 103 = .ok (.iconst 4, 1) := by decide +kernel
theorem dX12_valueAt_104 : decode cX12_valueAt 104 = .ok (.if_icmp .ne 26, 3) := by decide +kernel
theorem dX12_valueAt_107 : decode cX12_valueAt 107 = .ok (.iload 6, 2) := by decide +kernel
theorem dX12_valueAt_109 : decode cX12_valueAt 109 = .ok (.iconst 1, 1) := by decide +kernel
theorem dX12_valueAt_110 : decode cX12_valueAt 110 = .ok (.if_icmp .ne 137, 3) := by decide +kernel
theorem dX12_valueAt_113 : decode cX12_valueAt 113 = .ok (.aload_n 0, 1) := by decide +kernel
theorem dX12_valueAt_114 : decode cX12_valueAt 114 = .ok (.iload 4, 2) := by decide +kernel
theorem dX12_valueAt_116 : decode cX12_valueAt 116 = .ok (.iload 7, 2) := by decide +kernel
theorem dX12_valueAt_118 : decode cX12_valueAt 118 = .ok (.invokevirtual 242, 3) := by decide +kernel
theorem dX12_valueAt_121 : decode cX12_valueAt 121 = .ok (.ifCond .eq 126, 3) := by decide +kernel
theorem dX12_valueAt_124 : decode cX12_valueAt 124 = .ok (.iinc 3 1, 3) := by decide +kernel
theorem dX12_valueAt_127 : decode cX12_valueAt 127 = .ok (.goto 120, 3) := by decide +kernel
theorem dX12_valueAt_130 : decode cX12_valueAt 130 = .ok (.iload 6, 2) := by decide +kernel
theorem dX12_valueAt_132 : decode cX12_valueAt 132 = .ok (.ifCond .ne 115, 3) := by decide +kernel
theorem dX12_valueAt_135 : decode cX12_valueAt 135 = .ok (.iload 7, 2) := by decide +kernel
theorem dX12_valueAt_137 : decode cX12_valueAt 137 = .ok (.aload_n 0, 1) := by decide +kernel
theorem dX12_valueAt_138 : decode cX12_valueAt 138 = .ok (.getfield 13, 3) := by decide +kernel
theorem dX12_valueAt_141 : decode cX12_valueAt 141 = .ok (.iconst 0, 1) := by decide +kernel
theorem dX12_valueAt_142 : decode cX12_valueAt 142 = .ok (.iaload, 1) := by decide +kernel
theorem dX12_valueAt_143 : decode cX12_valueAt 143 = .ok (.iconst 2, 1) := by decide +kernel
theorem dX12_valueAt_144 : decode cX12_valueAt 144 = .ok (.idiv, 1) := by decide +kernel
theorem dX12_valueAt_145 : decode cX12_valueAt 145 = .ok (.if_icmp .le 7, 3) := by decide +kernel
theorem dX12_valueAt_148 : decode cX12_valueAt 148 = .ok (.iconst 1, 1) := by decide +kernel
theorem dX12_valueAt_149 : decode cX12_valueAt 149 = .ok (.goto 4, 3) := by decide +kernel
theorem dX12_valueAt_152 : decode cX12_valueAt 152 = .ok (.iconst 0, 1) := by decide +kernel
theorem dX12_valueAt_153 : decode cX12_valueAt 153 = .ok (.istore 8, 2) := by decide +kernel
theorem dX12_valueAt_155 : decode cX12_valueAt 155 = .ok (.iload 7, 2) := by decide +kernel
theorem dX12_valueAt_157 : decode cX12_valueAt 157 = .ok (.ifCond .le 20, 3) := by decide +kernel
theorem dX12_valueAt_160 : decode cX12_valueAt 160 = .ok (.iload 7, 2) := by decide +kernel
theorem dX12_valueAt_162 : decode cX12_valueAt 162 = .ok (.aload_n 0, 1) := by decide +kernel
theorem dX12_valueAt_163 : decode cX12_valueAt 163 = .ok (.getfield 13, 3) := by decide +kernel
theorem dX12_valueAt_166 : decode cX12_valueAt 166 = .ok (.iconst 0, 1) := by decide +kernel
theorem dX12_valueAt_167 : decode cX12_valueAt 167 = .ok (.iaload, 1) := by decide +kernel
theorem dX12_valueAt_168 : decode cX12_valueAt 168 = .ok (.iconst 2, 1) := by decide +kernel
theorem dX12_valueAt_169 : decode cX12_valueAt 169 = .ok (.idiv, 1) := by decide +kernel
theorem dX12_valueAt_170 : decode cX12_valueAt 170 = .ok (.if_icmp .ge 7, 3) := by decide +kernel
theorem dX12_valueAt_173 : decode cX12_valueAt 173 = .ok (.iconst 1, 1) := by decide +kernel
theorem dX12_valueAt_174 : decode cX12_valueAt 174 = .ok (.goto 4, 3) := by decide +kernel
theorem dX12_valueAt_177 : decode cX12_valueAt 177 = .ok (.iconst 0, 1) := by decide +kernel
theorem dX12_valueAt_178 : decode cX12_valueAt 178 = .ok (.istore 9, 2) := by decide +kernel
theorem dX12_valueAt_180 : decode cX12_valueAt 180 = .ok (.iload_n 1, 1) := by decide +kernel
theorem dX12_valueAt_181 : decode cX12_valueAt 181 = .ok (.bipush 7, 2) := by decide +kernel
theorem dX12_valueAt_183 : decode cX12_valueAt 183 = .ok (.if_icmp .ne 15, 3) := by decide +kernel
theorem dX12_valueAt_186 : decode cX12_valueAt 186 = .ok (.iload_n 3, 1) := by decide +kernel
theorem dX12_valueAt_187 : decode cX12_valueAt 187 = .ok (.aload_n 0, 1) := by decide +kernel
theorem dX12_valueAt_188 : decode cX12_valueAt 188 = .ok (.iload 7, 2) := by decide +kernel
theorem dX12_valueAt_190 : decode cX12_valueAt 190 = .ok (.invokevirtual 247, 3) := by decide +kernel
theorem dX12_valueAt_193 : decode cX12_valueAt 193 = .ok (.iadd, 1) := by decide +kernel
theorem dX12_valueAt_194 : decode cX12_valueAt 194 = .ok (.istore_n 3, 1) := by decide +kernel
theorem dX12_valueAt_195 : decode cX12_valueAt 195 = .ok (.goto 52, 3) := by decide +kernel
theorem dX12_valueAt_198 : decode cX12_valueAt 198 = .ok (.iload_n 1, 1) := by decide +kernel
theorem dX12_valueAt_199 : decode cX12_valueAt 199 = .ok (.iconst 2, 1) := by decide +kernel
theorem dX12_valueAt_200 : decode cX12_valueAt 200 = .ok (.irem, 1) := by decide +kernel
theorem dX12_valueAt_201 : decode cX12_valueAt 201 = .ok (.ifCond .ne 11, 3) := by decide +kernel
theorem dX12_valueAt_204 : decode cX12_valueAt 204 = .ok (.iload 8, 2) := by decide +kernel
theorem dX12_valueAt_206 : decode cX12_valueAt 206 = .ok (.ifCond .eq 41, 3) := by decide +kernel
theorem dX12_valueAt_209 : decode cX12_valueAt 209 = .ok (.goto 8, 3) := by decide +kernel
theorem dX12_valueAt_212 : decode cX12_valueAt 212 = .ok (.iload 9, 2) := by decide +kernel
theorem dX12_valueAt_214 : decode cX12_valueAt 214 = .ok (.ifCond .eq 33, 3) := by decide +kernel
theorem dX12_valueAt_217 : decode cX12_valueAt 217 = .ok (.iload_n 3, 1) := by decide +kernel
theorem dX12_valueAt_218 : decode cX12_valueAt 218 = .ok (.iload_n 1, 1) := by decide +kernel
theorem dX12_valueAt_219 : decode cX12_valueAt 219 = .ok (.iconst 2, 1) := by decide +kernel
theorem dX12_valueAt_220 : decode cX12_valueAt 220 = .ok (.if_icmp .ge 24, 3) := by decide +kernel
theorem dX12_valueAt_223 : decode cX12_valueAt 223 = .ok (.aload_n 0, 1) := by decide +kernel
theorem dX12_valueAt_224 : decode cX12_valueAt 224 = .ok (.getfield 22, 3) := by decide +kernel
theorem dX12_valueAt_227 : decode cX12_valueAt 227 = .ok (.iload 5, 2) := by decide +kernel
theorem dX12_valueAt_229 : decode cX12_valueAt 229 = .ok (.iconst 2, 1) := by decide +kernel
theorem dX12_valueAt_230 : decode cX12_valueAt 230 = .ok (.iadd, 1) := by decide +kernel
theorem dX12_valueAt_231 : decode cX12_valueAt 231 = .ok (.iaload, 1) := by decide +kernel
theorem dX12_valueAt_232 : decode cX12_valueAt 232 = .ok (.aload_n 0, 1) := by decide +kernel
theorem dX12_valueAt_233 : decode cX12_valueAt 233 = .ok (.iload 4, 2) := by decide +kernel
theorem dX12_valueAt_235 : decode cX12_valueAt 235 = .ok (.iload 7, 2) := by decide +kernel
theorem dX12_valueAt_237 : decode cX12_valueAt 237 = .ok (.invokevirtual 244, 3) := by decide +kernel
theorem dX12_valueAt_240 : decode cX12_valueAt 240 = .ok (.imul, 1) := by decide +kernel
theorem dX12_valueAt_241 : decode cX12_valueAt 241 = .ok (.goto 4, 3) := by decide +kernel
theorem dX12_valueAt_244 : decode cX12_valueAt 244 = .ok (.iconst 1, 1) := by decide +kernel
theorem dX12_valueAt_245 : decode cX12_valueAt 245 = .ok (.iadd, 1) := by decide +kernel
theorem dX12_valueAt_246 : decode cX12_valueAt 246 = .ok (.istore_n 3, 1) := by decide +kernel
theorem dX12_valueAt_247 : decode cX12_valueAt 247 = .ok (.iinc 4 1, 3) := by decide +kernel
theorem dX12_valueAt_250 : decode cX12_valueAt 250 = .ok (.goto (-245), 3) := by decide +kernel
theorem dX12_valueAt_253 : decode cX12_valueAt 253 = .ok (.iload_n 3, 1) := by decide +kernel
theorem dX12_valueAt_254 : decode cX12_valueAt 254 = .ok (.ireturn, 1) := by decide +kernel
def E_X12_valueAt_5 (G : GT) (d : Nat) (h0 hb : PH) (l0 : Nat) (l1 : Int32) (l2 : Int32) (Q : Int32 → PH → Prop) (s : Int32 × Int32 × PH) : Prop := qEx hb s.2.2 ∧ qn s.2.2 = qn hb ∧ qz s.2.2 = qz hb → Ex G (qrm (5 + d) 0 0) mX12_valueAt (qn h0) (qz h0) (ZN G h0 0 0 (qqi Q)) 5 [(0, .ref l0), (1, .int l1), (2, .int l2), (3, .int s.1), (4, .int s.2.1)] [] s.2.2
def wp_X12_valueAt_83 (l0 : Nat) (l1 : Int32) (l2 : Int32) (l3 : Int32) (l4 : Int32) (l8 : Int32) (bk5 : Int32 × Int32 × PH → Prop) (h : PH) (Q : Int32 → PH → Prop) : Prop := ((0 ≤ l8 → ∀ v43 : Int32, v43 = l3 + l8 → ∀ v44 : Int32, v44 = l4 + 1 → bk5 (v43, v44, h)) ∧ (¬ (0 ≤ l8) → ∀ v45 : Int32, v45 = l3 + (-l8) → ∀ v46 : Int32, v46 = l4 + 1 → bk5 (v45, v46, h)))
set_option maxHeartbeats 4000000 in
set_option maxRecDepth 100000 in
theorem sg_X12_valueAt_83 (G : GT) (d : Nat) (h0 : PH) (l0 : Nat) (l1 : Int32) (l2 : Int32) (l3 : Int32) (l4 : Int32) (l8 : Int32) (h : PH) (Q : Int32 → PH → Prop) (hb5 : PH) (bk5 : Int32 × Int32 × PH → Prop) (hbk5 : ∀ s2, bk5 s2 → E_X12_valueAt_5 G d h0 hb5 l0 l1 l2 Q s2) (hx5 : qEx hb5 h) (hn5 : qn h = qn hb5) (hz5 : qz h = qz hb5) (hex : qEx h0 h) (hnn : qn h = qn h0 + 0) (hzz : qz h = qz h0 + 0) (okl0 : qOK h 11 l0) (hwp : wp_X12_valueAt_83 l0 l1 l2 l3 l4 l8 bk5 h Q) : Ex G (qrm (5 + d) 0 0) mX12_valueAt (qn h0) (qz h0) (ZN G h0 0 0 (qqi Q)) 83 [(0, .ref l0), (1, .int l1), (2, .int l2), (3, .int l3), (4, .int l4), (8, .int l8)] [] h := by
  unfold wp_X12_valueAt_83 at hwp
  refine x_iload_n (pc := 83) dX12_valueAt_83 rfl ?_
  refine x_iload (pc := 84) dX12_valueAt_84 rfl ?_
  refine x_if_ge (tgt := 95) (pc := 86) dX12_valueAt_86 (by decide) (fun c42 => ?_) (fun c42 => ?_)
  · have hwp := hwp.1 c42
    refine x_iload (pc := 95) dX12_valueAt_95 rfl ?_
    refine x_iadd (pc := 97) dX12_valueAt_97 ?_
    refine x_nmI (fun v43 ev43 => ?_)
    have hwp := hwp v43 ev43
    refine x_istore_n (lv2 := [(3, .int v43), (0, .ref l0), (1, .int l1), (2, .int l2), (4, .int l4), (8, .int l8)]) (pc := 98) dX12_valueAt_98 (by decide) rfl ?_
    refine x_goto (tgt := 247) (pc := 99) dX12_valueAt_99 (by decide) ?_
    refine y_iinc (c := 1) (pc := 247) dX12_valueAt_247 rfl (by decide) (by decide) (fun v44 ev44 => ?_)
    have hwp := hwp v44 ev44
    refine x_lvE (lv2 := [(4, .int v44), (3, .int v43), (0, .ref l0), (1, .int l1), (2, .int l2), (8, .int l8)]) rfl ?_
    refine x_goto (tgt := 5) (pc := 250) dX12_valueAt_250 (by decide) ?_
    refine x_sub [2, 3, 4, 1, 0] rfl ?_
    exact hbk5 _ hwp ⟨hx5, hn5, hz5⟩
  · have hwp := hwp.2 c42
    refine x_iload (pc := 89) dX12_valueAt_89 rfl ?_
    refine x_ineg (pc := 91) dX12_valueAt_91 ?_
    refine x_goto (tgt := 97) (pc := 92) dX12_valueAt_92 (by decide) ?_
    refine x_iadd (pc := 97) dX12_valueAt_97 ?_
    refine x_nmI (fun v45 ev45 => ?_)
    have hwp := hwp v45 ev45
    refine x_istore_n (lv2 := [(3, .int v45), (0, .ref l0), (1, .int l1), (2, .int l2), (4, .int l4), (8, .int l8)]) (pc := 98) dX12_valueAt_98 (by decide) rfl ?_
    refine x_goto (tgt := 247) (pc := 99) dX12_valueAt_99 (by decide) ?_
    refine y_iinc (c := 1) (pc := 247) dX12_valueAt_247 rfl (by decide) (by decide) (fun v46 ev46 => ?_)
    have hwp := hwp v46 ev46
    refine x_lvE (lv2 := [(4, .int v46), (3, .int v45), (0, .ref l0), (1, .int l1), (2, .int l2), (8, .int l8)]) rfl ?_
    refine x_goto (tgt := 5) (pc := 250) dX12_valueAt_250 (by decide) ?_
    refine x_sub [2, 3, 4, 1, 0] rfl ?_
    exact hbk5 _ hwp ⟨hx5, hn5, hz5⟩
def wp_X12_valueAt_55 (l0 : Nat) (l1 : Int32) (l2 : Int32) (l3 : Int32) (l4 : Int32) (bk5 : Int32 × Int32 × PH → Prop) (h : PH) (Q : Int32 → PH → Prop) : Prop := (wp_X12_givesOf l0 l4 l2 0 h (fun r31 h30 => ((¬ l1 = 5 → ((0 ≤ r31 → ∀ v34 : Int32, v34 = l4 + 1 → bk5 (l3, v34, h30)) ∧ (¬ (0 ≤ r31) → (wp_X12_valueAt_83 l0 l1 l2 l3 l4 r31 bk5 h30 Q)))) ∧ (l1 = 5 → ((r31 ≤ 0 → ∀ v36 : Int32, v36 = l4 + 1 → bk5 (l3, v36, h30)) ∧ (¬ (r31 ≤ 0) → (wp_X12_valueAt_83 l0 l1 l2 l3 l4 r31 bk5 h30 Q)))))))
set_option maxHeartbeats 4000000 in
set_option maxRecDepth 100000 in
theorem sg_X12_valueAt_55 (G : GT) (d : Nat) (h0 : PH) (l0 : Nat) (l1 : Int32) (l2 : Int32) (l3 : Int32) (l4 : Int32) (h : PH) (Q : Int32 → PH → Prop) (hb5 : PH) (bk5 : Int32 × Int32 × PH → Prop) (hbk5 : ∀ s2, bk5 s2 → E_X12_valueAt_5 G d h0 hb5 l0 l1 l2 Q s2) (hx5 : qEx hb5 h) (hn5 : qn h = qn hb5) (hz5 : qz h = qz hb5) (hex : qEx h0 h) (hnn : qn h = qn h0 + 0) (hzz : qz h = qz h0 + 0) (okl0 : qOK h 11 l0) (hwp : wp_X12_valueAt_55 l0 l1 l2 l3 l4 bk5 h Q) : Ex G (qrm (5 + d) 0 0) mX12_valueAt (qn h0) (qz h0) (ZN G h0 0 0 (qqi Q)) 55 [(0, .ref l0), (1, .int l1), (2, .int l2), (3, .int l3), (4, .int l4)] [] h := by
  unfold wp_X12_valueAt_55 at hwp
  refine x_aload_n (pc := 55) dX12_valueAt_55 rfl ?_
  refine x_iload (pc := 56) dX12_valueAt_56 rfl ?_
  refine x_iload_n (pc := 58) dX12_valueAt_58 rfl ?_
  refine x_iconst (v := 0) (pc := 59) dX12_valueAt_59 (by decide) ?_
  refine x_invV (As := [.int l4, .int l2, .int 0]) (st := []) (pc := 60) dX12_valueAt_60 lRX12_268 fX12_givesOf vX12_givesOf okl0 rfl (Nat.le_of_ble_eq_true rfl) (q_R (by omega) (by decide)) (q_C hnn hzz (by decide) (by decide)) (sn_X12_givesOf G (d + 0) l0 l4 l2 0 h _ okl0 hwp) (k_i (fun r31 h30 hwp cxh30 => ?_))
  have hex := hex.tr cxh30.1
  have hnn : qn h30 = qn h0 + 0 := by have := cxh30.2.1; omega
  have hzz : qz h30 = qz h0 + 0 := by have := cxh30.2.2; omega
  have hx5 := hx5.tr cxh30.1
  have hn5 : qn h30 = qn hb5 := by have := cxh30.2.1; omega
  have hz5 : qz h30 = qz hb5 := by have := cxh30.2.2; omega
  have okl0 := okl0.ex cxh30.1
  refine x_istore (lv2 := [(8, .int r31), (0, .ref l0), (1, .int l1), (2, .int l2), (3, .int l3), (4, .int l4)]) (pc := 63) dX12_valueAt_63 (by decide) rfl ?_
  refine x_iload_n (pc := 65) dX12_valueAt_65 rfl ?_
  refine x_iconst (v := 5) (pc := 66) dX12_valueAt_66 (by decide) ?_
  refine x_icmp_ne (tgt := 78) (pc := 67) dX12_valueAt_67 (by decide) (fun c32 => ?_) (fun c32 => ?_)
  · have hwp := hwp.1 c32
    refine x_iload (pc := 78) dX12_valueAt_78 rfl ?_
    refine x_if_ge (tgt := 99) (pc := 80) dX12_valueAt_80 (by decide) (fun c33 => ?_) (fun c33 => ?_)
    · have hwp := hwp.1 c33
      refine x_goto (tgt := 247) (pc := 99) dX12_valueAt_99 (by decide) ?_
      refine y_iinc (c := 1) (pc := 247) dX12_valueAt_247 rfl (by decide) (by decide) (fun v34 ev34 => ?_)
      have hwp := hwp v34 ev34
      refine x_lvE (lv2 := [(4, .int v34), (8, .int r31), (0, .ref l0), (1, .int l1), (2, .int l2), (3, .int l3)]) rfl ?_
      refine x_goto (tgt := 5) (pc := 250) dX12_valueAt_250 (by decide) ?_
      refine x_sub [2, 3, 4, 5, 0] rfl ?_
      exact hbk5 _ hwp ⟨hx5, hn5, hz5⟩
    · have hwp := hwp.2 c33
      refine x_sub [1, 2, 3, 4, 5, 0] rfl ?_
      exact sg_X12_valueAt_83 G d h0 l0 l1 l2 l3 l4 r31 h30 Q hb5 bk5 hbk5 hx5 hn5 hz5 hex hnn hzz okl0 hwp
  · have hwp := hwp.2 c32
    refine x_iload (pc := 70) dX12_valueAt_70 rfl ?_
    refine x_if_le (tgt := 99) (pc := 72) dX12_valueAt_72 (by decide) (fun c35 => ?_) (fun c35 => ?_)
    · have hwp := hwp.1 c35
      refine x_goto (tgt := 247) (pc := 99) dX12_valueAt_99 (by decide) ?_
      refine y_iinc (c := 1) (pc := 247) dX12_valueAt_247 rfl (by decide) (by decide) (fun v36 ev36 => ?_)
      have hwp := hwp v36 ev36
      refine x_lvE (lv2 := [(4, .int v36), (8, .int r31), (0, .ref l0), (1, .int l1), (2, .int l2), (3, .int l3)]) rfl ?_
      refine x_goto (tgt := 5) (pc := 250) dX12_valueAt_250 (by decide) ?_
      refine x_sub [2, 3, 4, 5, 0] rfl ?_
      exact hbk5 _ hwp ⟨hx5, hn5, hz5⟩
    · have hwp := hwp.2 c35
      refine x_goto (tgt := 83) (pc := 75) dX12_valueAt_75 (by decide) ?_
      refine x_sub [1, 2, 3, 4, 5, 0] rfl ?_
      exact sg_X12_valueAt_83 G d h0 l0 l1 l2 l3 l4 r31 h30 Q hb5 bk5 hbk5 hx5 hn5 hz5 hex hnn hzz okl0 hwp
def wp_X12_valueAt_217 (l0 : Nat) (l1 : Int32) (l2 : Int32) (l3 : Int32) (l4 : Int32) (l5 : Int32) (l7 : Int32) (bk5 : Int32 × Int32 × PH → Prop) (h : PH) (Q : Int32 → PH → Prop) : Prop := ((2 ≤ l1 → ∀ v58 : Int32, v58 = l3 + 1 → ∀ v59 : Int32, v59 = l4 + 1 → bk5 (v58, v59, h)) ∧ (¬ (2 ≤ l1) → (∃ b60, qR h l0 17 = some b60 ∧ (vp_in (l5 + 2) (qL h b60) ∧ (wp_X12_armOf l0 l4 l7 h (fun r64 h63 => ∀ v65 : Int32, v65 = l3 + ((qI h b60 (l5 + 2).toNatClampNeg) * r64) → ∀ v66 : Int32, v66 = l4 + 1 → bk5 (v65, v66, h63)))))))
set_option maxHeartbeats 4000000 in
set_option maxRecDepth 100000 in
theorem sg_X12_valueAt_217 (G : GT) (d : Nat) (h0 : PH) (l0 : Nat) (l1 : Int32) (l2 : Int32) (l3 : Int32) (l4 : Int32) (l5 : Int32) (l7 : Int32) (h : PH) (Q : Int32 → PH → Prop) (hb5 : PH) (bk5 : Int32 × Int32 × PH → Prop) (hbk5 : ∀ s2, bk5 s2 → E_X12_valueAt_5 G d h0 hb5 l0 l1 l2 Q s2) (hx5 : qEx hb5 h) (hn5 : qn h = qn hb5) (hz5 : qz h = qz hb5) (hex : qEx h0 h) (hnn : qn h = qn h0 + 0) (hzz : qz h = qz h0 + 0) (okl0 : qOK h 11 l0) (hwp : wp_X12_valueAt_217 l0 l1 l2 l3 l4 l5 l7 bk5 h Q) : Ex G (qrm (5 + d) 0 0) mX12_valueAt (qn h0) (qz h0) (ZN G h0 0 0 (qqi Q)) 217 [(0, .ref l0), (1, .int l1), (2, .int l2), (3, .int l3), (4, .int l4), (5, .int l5), (7, .int l7)] [] h := by
  unfold wp_X12_valueAt_217 at hwp
  refine x_iload_n (pc := 217) dX12_valueAt_217 rfl ?_
  refine x_iload_n (pc := 218) dX12_valueAt_218 rfl ?_
  refine x_iconst (v := 2) (pc := 219) dX12_valueAt_219 (by decide) ?_
  refine x_icmp_ge (tgt := 244) (pc := 220) dX12_valueAt_220 (by decide) (fun c57 => ?_) (fun c57 => ?_)
  · have hwp := hwp.1 c57
    refine x_iconst (v := 1) (pc := 244) dX12_valueAt_244 (by decide) ?_
    refine x_iadd (pc := 245) dX12_valueAt_245 ?_
    refine x_nmI (fun v58 ev58 => ?_)
    have hwp := hwp v58 ev58
    refine x_istore_n (lv2 := [(3, .int v58), (0, .ref l0), (1, .int l1), (2, .int l2), (4, .int l4), (5, .int l5), (7, .int l7)]) (pc := 246) dX12_valueAt_246 (by decide) rfl ?_
    refine y_iinc (c := 1) (pc := 247) dX12_valueAt_247 rfl (by decide) (by decide) (fun v59 ev59 => ?_)
    have hwp := hwp v59 ev59
    refine x_lvE (lv2 := [(4, .int v59), (3, .int v58), (0, .ref l0), (1, .int l1), (2, .int l2), (5, .int l5), (7, .int l7)]) rfl ?_
    refine x_goto (tgt := 5) (pc := 250) dX12_valueAt_250 (by decide) ?_
    refine x_sub [2, 3, 4, 1, 0] rfl ?_
    exact hbk5 _ hwp ⟨hx5, hn5, hz5⟩
  · have hwp := hwp.2 c57
    refine x_aload_n (pc := 223) dX12_valueAt_223 rfl ?_
    obtain ⟨b60, e61, hwp⟩ := hwp
    refine x_getR (pc := 224) dX12_valueAt_224 qRX12_22 okl0 e61 (fun okb60 => ?_)
    refine x_iload (pc := 227) dX12_valueAt_227 rfl ?_
    refine x_iconst (v := 2) (pc := 229) dX12_valueAt_229 (by decide) ?_
    refine x_iadd (pc := 230) dX12_valueAt_230 ?_
    obtain ⟨i62, hwp⟩ := hwp
    refine x_iaload (pc := 231) dX12_valueAt_231 okb60 i62 ?_
    refine x_aload_n (pc := 232) dX12_valueAt_232 rfl ?_
    refine x_iload (pc := 233) dX12_valueAt_233 rfl ?_
    refine x_iload (pc := 235) dX12_valueAt_235 rfl ?_
    refine x_invV (As := [.int l4, .int l7]) (st := [.int (qI h b60 (l5 + 2).toNatClampNeg), .int l3]) (pc := 237) dX12_valueAt_237 lRX12_244 fX12_armOf vX12_armOf okl0 rfl (Nat.le_of_ble_eq_true rfl) (q_R (by omega) (by decide)) (q_C hnn hzz (by decide) (by decide)) (sn_X12_armOf G (d + 2) l0 l4 l7 h _ okl0 hwp) (k_i (fun r64 h63 hwp cxh63 => ?_))
    have hex := hex.tr cxh63.1
    have hnn : qn h63 = qn h0 + 0 := by have := cxh63.2.1; omega
    have hzz : qz h63 = qz h0 + 0 := by have := cxh63.2.2; omega
    have hx5 := hx5.tr cxh63.1
    have hn5 : qn h63 = qn hb5 := by have := cxh63.2.1; omega
    have hz5 : qz h63 = qz hb5 := by have := cxh63.2.2; omega
    have okl0 := okl0.ex cxh63.1
    have okb60 := okb60.ex cxh63.1
    refine x_imul (pc := 240) dX12_valueAt_240 ?_
    refine x_goto (tgt := 245) (pc := 241) dX12_valueAt_241 (by decide) ?_
    refine x_iadd (pc := 245) dX12_valueAt_245 ?_
    refine x_nmI (fun v65 ev65 => ?_)
    have hwp := hwp v65 ev65
    refine x_istore_n (lv2 := [(3, .int v65), (0, .ref l0), (1, .int l1), (2, .int l2), (4, .int l4), (5, .int l5), (7, .int l7)]) (pc := 246) dX12_valueAt_246 (by decide) rfl ?_
    refine y_iinc (c := 1) (pc := 247) dX12_valueAt_247 rfl (by decide) (by decide) (fun v66 ev66 => ?_)
    have hwp := hwp v66 ev66
    refine x_lvE (lv2 := [(4, .int v66), (3, .int v65), (0, .ref l0), (1, .int l1), (2, .int l2), (5, .int l5), (7, .int l7)]) rfl ?_
    refine x_goto (tgt := 5) (pc := 250) dX12_valueAt_250 (by decide) ?_
    refine x_sub [2, 3, 4, 1, 0] rfl ?_
    exact hbk5 _ hwp ⟨hx5, hn5, hz5⟩
def wp_X12_valueAt_178 (l0 : Nat) (l1 : Int32) (l2 : Int32) (l3 : Int32) (l4 : Int32) (l5 : Int32) (l7 : Int32) (l8 : Int32) (s0 : Int32) (bk5 : Int32 × Int32 × PH → Prop) (h : PH) (Q : Int32 → PH → Prop) : Prop := ((¬ l1 = 7 → ((¬ (l1 - l1 / 2 * 2) = 0 → ((s0 = 0 → ∀ v50 : Int32, v50 = l4 + 1 → bk5 (l3, v50, h)) ∧ (¬ (s0 = 0) → (wp_X12_valueAt_217 l0 l1 l2 l3 l4 l5 l7 bk5 h Q)))) ∧ ((l1 - l1 / 2 * 2) = 0 → ((l8 = 0 → ∀ v52 : Int32, v52 = l4 + 1 → bk5 (l3, v52, h)) ∧ (¬ (l8 = 0) → (wp_X12_valueAt_217 l0 l1 l2 l3 l4 l5 l7 bk5 h Q)))))) ∧ (l1 = 7 → (wp_X12_high l0 l7 h (fun r54 h53 => ∀ v55 : Int32, v55 = l3 + r54 → ∀ v56 : Int32, v56 = l4 + 1 → bk5 (v55, v56, h53)))))
set_option maxHeartbeats 4000000 in
set_option maxRecDepth 100000 in
theorem sg_X12_valueAt_178 (G : GT) (d : Nat) (h0 : PH) (l0 : Nat) (l1 : Int32) (l2 : Int32) (l3 : Int32) (l4 : Int32) (l5 : Int32) (l7 : Int32) (l8 : Int32) (s0 : Int32) (h : PH) (Q : Int32 → PH → Prop) (hb5 : PH) (bk5 : Int32 × Int32 × PH → Prop) (hbk5 : ∀ s2, bk5 s2 → E_X12_valueAt_5 G d h0 hb5 l0 l1 l2 Q s2) (hx5 : qEx hb5 h) (hn5 : qn h = qn hb5) (hz5 : qz h = qz hb5) (hex : qEx h0 h) (hnn : qn h = qn h0 + 0) (hzz : qz h = qz h0 + 0) (okl0 : qOK h 11 l0) (hwp : wp_X12_valueAt_178 l0 l1 l2 l3 l4 l5 l7 l8 s0 bk5 h Q) : Ex G (qrm (5 + d) 0 0) mX12_valueAt (qn h0) (qz h0) (ZN G h0 0 0 (qqi Q)) 178 [(0, .ref l0), (1, .int l1), (2, .int l2), (3, .int l3), (4, .int l4), (5, .int l5), (7, .int l7), (8, .int l8)] [.int s0] h := by
  unfold wp_X12_valueAt_178 at hwp
  refine x_istore (lv2 := [(9, .int s0), (0, .ref l0), (1, .int l1), (2, .int l2), (3, .int l3), (4, .int l4), (5, .int l5), (7, .int l7), (8, .int l8)]) (pc := 178) dX12_valueAt_178 (by decide) rfl ?_
  refine x_iload_n (pc := 180) dX12_valueAt_180 rfl ?_
  refine x_bipush (v := 7) (pc := 181) dX12_valueAt_181 (by decide) ?_
  refine x_icmp_ne (tgt := 198) (pc := 183) dX12_valueAt_183 (by decide) (fun c47 => ?_) (fun c47 => ?_)
  · have hwp := hwp.1 c47
    refine x_iload_n (pc := 198) dX12_valueAt_198 rfl ?_
    refine x_iconst (v := 2) (pc := 199) dX12_valueAt_199 (by decide) ?_
    refine x_irem (pc := 200) dX12_valueAt_200 (by decide) ?_
    refine x_if_ne (tgt := 212) (pc := 201) dX12_valueAt_201 (by decide) (fun c48 => ?_) (fun c48 => ?_)
    · have hwp := hwp.1 c48
      refine x_iload (pc := 212) dX12_valueAt_212 rfl ?_
      refine x_if_eq (tgt := 247) (pc := 214) dX12_valueAt_214 (by decide) (fun c49 => ?_) (fun c49 => ?_)
      · have hwp := hwp.1 c49
        refine y_iinc (c := 1) (pc := 247) dX12_valueAt_247 rfl (by decide) (by decide) (fun v50 ev50 => ?_)
        have hwp := hwp v50 ev50
        refine x_lvE (lv2 := [(4, .int v50), (9, .int s0), (0, .ref l0), (1, .int l1), (2, .int l2), (3, .int l3), (5, .int l5), (7, .int l7), (8, .int l8)]) rfl ?_
        refine x_goto (tgt := 5) (pc := 250) dX12_valueAt_250 (by decide) ?_
        refine x_sub [2, 3, 4, 5, 0] rfl ?_
        exact hbk5 _ hwp ⟨hx5, hn5, hz5⟩
      · have hwp := hwp.2 c49
        refine x_sub [1, 2, 3, 4, 5, 6, 7] rfl ?_
        exact sg_X12_valueAt_217 G d h0 l0 l1 l2 l3 l4 l5 l7 h Q hb5 bk5 hbk5 hx5 hn5 hz5 hex hnn hzz okl0 hwp
    · have hwp := hwp.2 c48
      refine x_iload (pc := 204) dX12_valueAt_204 rfl ?_
      refine x_if_eq (tgt := 247) (pc := 206) dX12_valueAt_206 (by decide) (fun c51 => ?_) (fun c51 => ?_)
      · have hwp := hwp.1 c51
        refine y_iinc (c := 1) (pc := 247) dX12_valueAt_247 rfl (by decide) (by decide) (fun v52 ev52 => ?_)
        have hwp := hwp v52 ev52
        refine x_lvE (lv2 := [(4, .int v52), (9, .int s0), (0, .ref l0), (1, .int l1), (2, .int l2), (3, .int l3), (5, .int l5), (7, .int l7), (8, .int l8)]) rfl ?_
        refine x_goto (tgt := 5) (pc := 250) dX12_valueAt_250 (by decide) ?_
        refine x_sub [2, 3, 4, 5, 0] rfl ?_
        exact hbk5 _ hwp ⟨hx5, hn5, hz5⟩
      · have hwp := hwp.2 c51
        refine x_goto (tgt := 217) (pc := 209) dX12_valueAt_209 (by decide) ?_
        refine x_sub [1, 2, 3, 4, 5, 6, 7] rfl ?_
        exact sg_X12_valueAt_217 G d h0 l0 l1 l2 l3 l4 l5 l7 h Q hb5 bk5 hbk5 hx5 hn5 hz5 hex hnn hzz okl0 hwp
  · have hwp := hwp.2 c47
    refine x_iload_n (pc := 186) dX12_valueAt_186 rfl ?_
    refine x_aload_n (pc := 187) dX12_valueAt_187 rfl ?_
    refine x_iload (pc := 188) dX12_valueAt_188 rfl ?_
    refine x_invV (As := [.int l7]) (st := [.int l3]) (pc := 190) dX12_valueAt_190 lRX12_247 fX12_high vX12_high okl0 rfl (Nat.le_of_ble_eq_true rfl) (q_R (by omega) (by decide)) (q_C hnn hzz (by decide) (by decide)) (sn_X12_high G (d + 4) l0 l7 h _ okl0 hwp) (k_i (fun r54 h53 hwp cxh53 => ?_))
    have hex := hex.tr cxh53.1
    have hnn : qn h53 = qn h0 + 0 := by have := cxh53.2.1; omega
    have hzz : qz h53 = qz h0 + 0 := by have := cxh53.2.2; omega
    have hx5 := hx5.tr cxh53.1
    have hn5 : qn h53 = qn hb5 := by have := cxh53.2.1; omega
    have hz5 : qz h53 = qz hb5 := by have := cxh53.2.2; omega
    have okl0 := okl0.ex cxh53.1
    refine x_iadd (pc := 193) dX12_valueAt_193 ?_
    refine x_nmI (fun v55 ev55 => ?_)
    have hwp := hwp v55 ev55
    refine x_istore_n (lv2 := [(3, .int v55), (9, .int s0), (0, .ref l0), (1, .int l1), (2, .int l2), (4, .int l4), (5, .int l5), (7, .int l7), (8, .int l8)]) (pc := 194) dX12_valueAt_194 (by decide) rfl ?_
    refine x_goto (tgt := 247) (pc := 195) dX12_valueAt_195 (by decide) ?_
    refine y_iinc (c := 1) (pc := 247) dX12_valueAt_247 rfl (by decide) (by decide) (fun v56 ev56 => ?_)
    have hwp := hwp v56 ev56
    refine x_lvE (lv2 := [(4, .int v56), (3, .int v55), (9, .int s0), (0, .ref l0), (1, .int l1), (2, .int l2), (5, .int l5), (7, .int l7), (8, .int l8)]) rfl ?_
    refine x_goto (tgt := 5) (pc := 250) dX12_valueAt_250 (by decide) ?_
    refine x_sub [3, 4, 5, 1, 0] rfl ?_
    exact hbk5 _ hwp ⟨hx5, hn5, hz5⟩
def wp_X12_valueAt_153 (l0 : Nat) (l1 : Int32) (l2 : Int32) (l3 : Int32) (l4 : Int32) (l5 : Int32) (l7 : Int32) (s0 : Int32) (bk5 : Int32 × Int32 × PH → Prop) (h : PH) (Q : Int32 → PH → Prop) : Prop := ((l7 ≤ 0 → (wp_X12_valueAt_178 l0 l1 l2 l3 l4 l5 l7 s0 0 bk5 h Q)) ∧ (¬ (l7 ≤ 0) → (∃ b38, qR h l0 14 = some b38 ∧ (vp_in 0 (qL h b38) ∧ ((((qI h b38 (0 : Int32).toNatClampNeg) / 2) ≤ l7 → (wp_X12_valueAt_178 l0 l1 l2 l3 l4 l5 l7 s0 0 bk5 h Q)) ∧ (¬ (((qI h b38 (0 : Int32).toNatClampNeg) / 2) ≤ l7) → (wp_X12_valueAt_178 l0 l1 l2 l3 l4 l5 l7 s0 1 bk5 h Q)))))))
set_option maxHeartbeats 4000000 in
set_option maxRecDepth 100000 in
theorem sg_X12_valueAt_153 (G : GT) (d : Nat) (h0 : PH) (l0 : Nat) (l1 : Int32) (l2 : Int32) (l3 : Int32) (l4 : Int32) (l5 : Int32) (l7 : Int32) (s0 : Int32) (h : PH) (Q : Int32 → PH → Prop) (hb5 : PH) (bk5 : Int32 × Int32 × PH → Prop) (hbk5 : ∀ s2, bk5 s2 → E_X12_valueAt_5 G d h0 hb5 l0 l1 l2 Q s2) (hx5 : qEx hb5 h) (hn5 : qn h = qn hb5) (hz5 : qz h = qz hb5) (hex : qEx h0 h) (hnn : qn h = qn h0 + 0) (hzz : qz h = qz h0 + 0) (okl0 : qOK h 11 l0) (hwp : wp_X12_valueAt_153 l0 l1 l2 l3 l4 l5 l7 s0 bk5 h Q) : Ex G (qrm (5 + d) 0 0) mX12_valueAt (qn h0) (qz h0) (ZN G h0 0 0 (qqi Q)) 153 [(0, .ref l0), (1, .int l1), (2, .int l2), (3, .int l3), (4, .int l4), (5, .int l5), (7, .int l7)] [.int s0] h := by
  unfold wp_X12_valueAt_153 at hwp
  refine x_istore (lv2 := [(8, .int s0), (0, .ref l0), (1, .int l1), (2, .int l2), (3, .int l3), (4, .int l4), (5, .int l5), (7, .int l7)]) (pc := 153) dX12_valueAt_153 (by decide) rfl ?_
  refine x_iload (pc := 155) dX12_valueAt_155 rfl ?_
  refine x_if_le (tgt := 177) (pc := 157) dX12_valueAt_157 (by decide) (fun c37 => ?_) (fun c37 => ?_)
  · have hwp := hwp.1 c37
    refine x_iconst (v := 0) (pc := 177) dX12_valueAt_177 (by decide) ?_
    refine x_sub [1, 2, 3, 4, 5, 6, 7, 0] rfl ?_
    exact sg_X12_valueAt_178 G d h0 l0 l1 l2 l3 l4 l5 l7 s0 0 h Q hb5 bk5 hbk5 hx5 hn5 hz5 hex hnn hzz okl0 hwp
  · have hwp := hwp.2 c37
    refine x_iload (pc := 160) dX12_valueAt_160 rfl ?_
    refine x_aload_n (pc := 162) dX12_valueAt_162 rfl ?_
    obtain ⟨b38, e39, hwp⟩ := hwp
    refine x_getR (pc := 163) dX12_valueAt_163 qRX12_13 okl0 e39 (fun okb38 => ?_)
    refine x_iconst (v := 0) (pc := 166) dX12_valueAt_166 (by decide) ?_
    obtain ⟨i40, hwp⟩ := hwp
    refine x_iaload (pc := 167) dX12_valueAt_167 okb38 i40 ?_
    refine x_iconst (v := 2) (pc := 168) dX12_valueAt_168 (by decide) ?_
    refine x_idiv (pc := 169) dX12_valueAt_169 (by decide) ?_
    refine x_icmp_ge (tgt := 177) (pc := 170) dX12_valueAt_170 (by decide) (fun c41 => ?_) (fun c41 => ?_)
    · have hwp := hwp.1 c41
      refine x_iconst (v := 0) (pc := 177) dX12_valueAt_177 (by decide) ?_
      refine x_sub [1, 2, 3, 4, 5, 6, 7, 0] rfl ?_
      exact sg_X12_valueAt_178 G d h0 l0 l1 l2 l3 l4 l5 l7 s0 0 h Q hb5 bk5 hbk5 hx5 hn5 hz5 hex hnn hzz okl0 hwp
    · have hwp := hwp.2 c41
      refine x_iconst (v := 1) (pc := 173) dX12_valueAt_173 (by decide) ?_
      refine x_goto (tgt := 178) (pc := 174) dX12_valueAt_174 (by decide) ?_
      refine x_sub [1, 2, 3, 4, 5, 6, 7, 0] rfl ?_
      exact sg_X12_valueAt_178 G d h0 l0 l1 l2 l3 l4 l5 l7 s0 1 h Q hb5 bk5 hbk5 hx5 hn5 hz5 hex hnn hzz okl0 hwp
def wb_X12_valueAt_5 (l0 : Nat) (l1 : Int32) (l2 : Int32)  (Q : Int32 → PH → Prop) (bk5 : Int32 × Int32 × PH → Prop) (l3 : Int32) (l4 : Int32) (h : PH) : Prop := (∃ b1, qR h l0 16 = some b1 ∧ (vp_in 0 (qL h b1) ∧ (((qI h b1 (0 : Int32).toNatClampNeg) ≤ l4 → Q l3 h) ∧ (¬ ((qI h b1 (0 : Int32).toNatClampNeg) ≤ l4) → (wp_X12_slot 0 l4 h (fun r6 h5 => (∃ b7, qR h5 l0 17 = some b7 ∧ (vp_in (r6 + 0) (qL h5 b7) ∧ ∀ v10 : Int32, v10 = qI h5 b7 (r6 + 0).toNatClampNeg → (wp_X12_placeOf l0 l4 l2 h5 (fun r12 h11 => ((l1 = 5 → (wp_X12_valueAt_55 l0 l1 l2 l3 l4 bk5 h11 Q)) ∧ (¬ (l1 = 5) → ((¬ l1 = 6 → ((¬ l1 = 4 → ((¬ v10 = 0 → ∀ v17 : Int32, v17 = l4 + 1 → bk5 (l3, v17, h11)) ∧ (v10 = 0 → (∃ b18, qR h11 l0 14 = some b18 ∧ (vp_in 0 (qL h11 b18) ∧ ((r12 ≤ ((qI h11 b18 (0 : Int32).toNatClampNeg) / 2) → (wp_X12_valueAt_153 l0 l1 l2 l3 l4 r6 r12 0 bk5 h11 Q)) ∧ (¬ (r12 ≤ ((qI h11 b18 (0 : Int32).toNatClampNeg) / 2)) → (wp_X12_valueAt_153 l0 l1 l2 l3 l4 r6 r12 1 bk5 h11 Q)))))))) ∧ (l1 = 4 → ((¬ v10 = 1 → ∀ v23 : Int32, v23 = l4 + 1 → bk5 (l3, v23, h11)) ∧ (v10 = 1 → (wp_X12_isWithin_ l0 l4 r12 h11 (fun r25 h24 => ((r25 = 0 → ∀ v27 : Int32, v27 = l4 + 1 → bk5 (l3, v27, h24)) ∧ (¬ (r25 = 0) → ∀ v28 : Int32, v28 = l3 + 1 → ∀ v29 : Int32, v29 = l4 + 1 → bk5 (v28, v29, h24)))))))))) ∧ (l1 = 6 → (wp_X12_valueAt_55 l0 l1 l2 l3 l4 bk5 h11 Q)))))))))))))))
def wp_X12_valueAt_5 (l0 : Nat) (l1 : Int32) (l2 : Int32)  (Q : Int32 → PH → Prop) (bk5 : Int32 × Int32 × PH → Prop) (s : Int32 × Int32 × PH) : Prop := wb_X12_valueAt_5 l0 l1 l2 Q bk5 s.1 s.2.1 s.2.2
set_option maxHeartbeats 4000000 in
set_option maxRecDepth 100000 in
theorem bd_X12_valueAt_5 (G : GT) (d : Nat) (h0 hb : PH) (l0 : Nat) (l1 : Int32) (l2 : Int32) (Q : Int32 → PH → Prop)  (hex : qEx h0 hb) (hnn : qn hb = qn h0 + 0) (hzz : qz hb = qz h0 + 0) (okl0 : qOK hb 11 l0) (bk5 : Int32 × Int32 × PH → Prop) (hbk5 : ∀ s2, bk5 s2 → E_X12_valueAt_5 G d h0 hb l0 l1 l2 Q s2) (l3 : Int32) (l4 : Int32) (h : PH) (hwp : wb_X12_valueAt_5 l0 l1 l2 Q bk5 l3 l4 h) (hx5 : qEx hb h) (hn5 : qn h = qn hb) (hz5 : qz h = qz hb) : Ex G (qrm (5 + d) 0 0) mX12_valueAt (qn h0) (qz h0) (ZN G h0 0 0 (qqi Q)) 5 [(0, .ref l0), (1, .int l1), (2, .int l2), (3, .int l3), (4, .int l4)] [] h := by
  unfold wb_X12_valueAt_5 at hwp
  have hex := hex.tr hx5
  have hnn := hn5.trans hnn
  have hzz := hz5.trans hzz
  have okl0 := okl0.ex hx5
  refine x_iload (pc := 5) dX12_valueAt_5 rfl ?_
  refine x_aload_n (pc := 7) dX12_valueAt_7 rfl ?_
  obtain ⟨b1, e2, hwp⟩ := hwp
  refine x_getR (pc := 8) dX12_valueAt_8 qRX12_19 okl0 e2 (fun okb1 => ?_)
  refine x_iconst (v := 0) (pc := 11) dX12_valueAt_11 (by decide) ?_
  obtain ⟨i3, hwp⟩ := hwp
  refine x_iaload (pc := 12) dX12_valueAt_12 okb1 i3 ?_
  refine x_icmp_ge (tgt := 253) (pc := 13) dX12_valueAt_13 (by decide) (fun c4 => ?_) (fun c4 => ?_)
  · have hwp := hwp.1 c4
    refine x_iload_n (pc := 253) dX12_valueAt_253 rfl ?_
    exact x_iret (pc := 254) dX12_valueAt_254 rfl hex hnn hzz ⟨_, rfl, hwp⟩
  · have hwp := hwp.2 c4
    refine x_iconst (v := 0) (pc := 16) dX12_valueAt_16 (by decide) ?_
    refine x_iload (pc := 17) dX12_valueAt_17 rfl ?_
    refine x_invS (As := [.int 0, .int l4]) (st := []) (pc := 19) dX12_valueAt_19 lRX12_194 fX12_slot sX12_slot rfl (Nat.le_of_ble_eq_true rfl) (q_R (by omega) (by decide)) (q_C hnn hzz (by decide) (by decide)) (sn_X12_slot G (d + 4) 0 l4 h _  hwp) (k_i (fun r6 h5 hwp cxh5 => ?_))
    have hex := hex.tr cxh5.1
    have hnn : qn h5 = qn h0 + 0 := by have := cxh5.2.1; omega
    have hzz : qz h5 = qz h0 + 0 := by have := cxh5.2.2; omega
    have hx5 := hx5.tr cxh5.1
    have hn5 : qn h5 = qn hb := by have := cxh5.2.1; omega
    have hz5 : qz h5 = qz hb := by have := cxh5.2.2; omega
    have okl0 := okl0.ex cxh5.1
    have okb1 := okb1.ex cxh5.1
    refine x_istore (lv2 := [(5, .int r6), (0, .ref l0), (1, .int l1), (2, .int l2), (3, .int l3), (4, .int l4)]) (pc := 22) dX12_valueAt_22 (by decide) rfl ?_
    refine x_aload_n (pc := 24) dX12_valueAt_24 rfl ?_
    obtain ⟨b7, e8, hwp⟩ := hwp
    refine x_getR (pc := 25) dX12_valueAt_25 qRX12_22 okl0 e8 (fun okb7 => ?_)
    refine x_iload (pc := 28) dX12_valueAt_28 rfl ?_
    refine x_iconst (v := 0) (pc := 30) dX12_valueAt_30 (by decide) ?_
    refine x_iadd (pc := 31) dX12_valueAt_31 ?_
    obtain ⟨i9, hwp⟩ := hwp
    refine x_iaload (pc := 32) dX12_valueAt_32 okb7 i9 ?_
    refine x_nmI (fun v10 ev10 => ?_)
    have hwp := hwp v10 ev10
    refine x_istore (lv2 := [(6, .int v10), (5, .int r6), (0, .ref l0), (1, .int l1), (2, .int l2), (3, .int l3), (4, .int l4)]) (pc := 33) dX12_valueAt_33 (by decide) rfl ?_
    refine x_aload_n (pc := 35) dX12_valueAt_35 rfl ?_
    refine x_iload (pc := 36) dX12_valueAt_36 rfl ?_
    refine x_iload_n (pc := 38) dX12_valueAt_38 rfl ?_
    refine x_invV (As := [.int l4, .int l2]) (st := []) (pc := 39) dX12_valueAt_39 lRX12_250 fX12_placeOf vX12_placeOf okl0 rfl (Nat.le_of_ble_eq_true rfl) (q_R (by omega) (by decide)) (q_C hnn hzz (by decide) (by decide)) (sn_X12_placeOf G (d + 3) l0 l4 l2 h5 _ okl0 hwp) (k_i (fun r12 h11 hwp cxh11 => ?_))
    have hex := hex.tr cxh11.1
    have hnn : qn h11 = qn h0 + 0 := by have := cxh11.2.1; omega
    have hzz : qz h11 = qz h0 + 0 := by have := cxh11.2.2; omega
    have hx5 := hx5.tr cxh11.1
    have hn5 : qn h11 = qn hb := by have := cxh11.2.1; omega
    have hz5 : qz h11 = qz hb := by have := cxh11.2.2; omega
    have okl0 := okl0.ex cxh11.1
    have okb1 := okb1.ex cxh11.1
    have okb7 := okb7.ex cxh11.1
    refine x_istore (lv2 := [(7, .int r12), (6, .int v10), (5, .int r6), (0, .ref l0), (1, .int l1), (2, .int l2), (3, .int l3), (4, .int l4)]) (pc := 42) dX12_valueAt_42 (by decide) rfl ?_
    refine x_iload_n (pc := 44) dX12_valueAt_44 rfl ?_
    refine x_iconst (v := 5) (pc := 45) dX12_valueAt_45 (by decide) ?_
    refine x_icmp_eq (tgt := 55) (pc := 46) dX12_valueAt_46 (by decide) (fun c13 => ?_) (fun c13 => ?_)
    · have hwp := hwp.1 c13
      refine x_sub [3, 4, 5, 6, 7] rfl ?_
      exact sg_X12_valueAt_55 G d h0 l0 l1 l2 l3 l4 h11 Q hb bk5 hbk5 hx5 hn5 hz5 hex hnn hzz okl0 hwp
    · have hwp := hwp.2 c13
      refine x_iload_n (pc := 49) dX12_valueAt_49 rfl ?_
      refine x_bipush (v := 6) (pc := 50) dX12_valueAt_50 (by decide) ?_
      refine x_icmp_ne (tgt := 102) (pc := 52) dX12_valueAt_52 (by decide) (fun c14 => ?_) (fun c14 => ?_)
      · have hwp := hwp.1 c14
        refine x_iload_n (pc := 102) dX12_valueAt_102 rfl ?_
        refine x_iconst (v := 4) (pc := 103) dX12_valueAt_103 (by decide) ?_
        refine x_icmp_ne (tgt := 130) (pc := 104) dX12_valueAt_104 (by decide) (fun c15 => ?_) (fun c15 => ?_)
        · have hwp := hwp.1 c15
          refine x_iload (pc := 130) dX12_valueAt_130 rfl ?_
          refine x_if_ne (tgt := 247) (pc := 132) dX12_valueAt_132 (by decide) (fun c16 => ?_) (fun c16 => ?_)
          · have hwp := hwp.1 c16
            refine y_iinc (c := 1) (pc := 247) dX12_valueAt_247 rfl (by decide) (by decide) (fun v17 ev17 => ?_)
            have hwp := hwp v17 ev17
            refine x_lvE (lv2 := [(4, .int v17), (7, .int r12), (6, .int v10), (5, .int r6), (0, .ref l0), (1, .int l1), (2, .int l2), (3, .int l3)]) rfl ?_
            refine x_goto (tgt := 5) (pc := 250) dX12_valueAt_250 (by decide) ?_
            refine x_sub [4, 5, 6, 7, 0] rfl ?_
            exact hbk5 _ hwp ⟨hx5, hn5, hz5⟩
          · have hwp := hwp.2 c16
            refine x_iload (pc := 135) dX12_valueAt_135 rfl ?_
            refine x_aload_n (pc := 137) dX12_valueAt_137 rfl ?_
            obtain ⟨b18, e19, hwp⟩ := hwp
            refine x_getR (pc := 138) dX12_valueAt_138 qRX12_13 okl0 e19 (fun okb18 => ?_)
            refine x_iconst (v := 0) (pc := 141) dX12_valueAt_141 (by decide) ?_
            obtain ⟨i20, hwp⟩ := hwp
            refine x_iaload (pc := 142) dX12_valueAt_142 okb18 i20 ?_
            refine x_iconst (v := 2) (pc := 143) dX12_valueAt_143 (by decide) ?_
            refine x_idiv (pc := 144) dX12_valueAt_144 (by decide) ?_
            refine x_icmp_le (tgt := 152) (pc := 145) dX12_valueAt_145 (by decide) (fun c21 => ?_) (fun c21 => ?_)
            · have hwp := hwp.1 c21
              refine x_iconst (v := 0) (pc := 152) dX12_valueAt_152 (by decide) ?_
              refine x_sub [3, 4, 5, 6, 7, 2, 0] rfl ?_
              exact sg_X12_valueAt_153 G d h0 l0 l1 l2 l3 l4 r6 r12 0 h11 Q hb bk5 hbk5 hx5 hn5 hz5 hex hnn hzz okl0 hwp
            · have hwp := hwp.2 c21
              refine x_iconst (v := 1) (pc := 148) dX12_valueAt_148 (by decide) ?_
              refine x_goto (tgt := 153) (pc := 149) dX12_valueAt_149 (by decide) ?_
              refine x_sub [3, 4, 5, 6, 7, 2, 0] rfl ?_
              exact sg_X12_valueAt_153 G d h0 l0 l1 l2 l3 l4 r6 r12 1 h11 Q hb bk5 hbk5 hx5 hn5 hz5 hex hnn hzz okl0 hwp
        · have hwp := hwp.2 c15
          refine x_iload (pc := 107) dX12_valueAt_107 rfl ?_
          refine x_iconst (v := 1) (pc := 109) dX12_valueAt_109 (by decide) ?_
          refine x_icmp_ne (tgt := 247) (pc := 110) dX12_valueAt_110 (by decide) (fun c22 => ?_) (fun c22 => ?_)
          · have hwp := hwp.1 c22
            refine y_iinc (c := 1) (pc := 247) dX12_valueAt_247 rfl (by decide) (by decide) (fun v23 ev23 => ?_)
            have hwp := hwp v23 ev23
            refine x_lvE (lv2 := [(4, .int v23), (7, .int r12), (6, .int v10), (5, .int r6), (0, .ref l0), (1, .int l1), (2, .int l2), (3, .int l3)]) rfl ?_
            refine x_goto (tgt := 5) (pc := 250) dX12_valueAt_250 (by decide) ?_
            refine x_sub [4, 5, 6, 7, 0] rfl ?_
            exact hbk5 _ hwp ⟨hx5, hn5, hz5⟩
          · have hwp := hwp.2 c22
            refine x_aload_n (pc := 113) dX12_valueAt_113 rfl ?_
            refine x_iload (pc := 114) dX12_valueAt_114 rfl ?_
            refine x_iload (pc := 116) dX12_valueAt_116 rfl ?_
            refine x_invV (As := [.int l4, .int r12]) (st := []) (pc := 118) dX12_valueAt_118 lRX12_242 fX12_isWithin_ vX12_isWithin_ okl0 rfl (Nat.le_of_ble_eq_true rfl) (q_R (by omega) (by decide)) (q_C hnn hzz (by decide) (by decide)) (sn_X12_isWithin_ G (d + 3) l0 l4 r12 h11 _ okl0 hwp) (k_b (fun r25 h24 hwp zbr25 cxh24 => ?_))
            have hex := hex.tr cxh24.1
            have hnn : qn h24 = qn h0 + 0 := by have := cxh24.2.1; omega
            have hzz : qz h24 = qz h0 + 0 := by have := cxh24.2.2; omega
            have hx5 := hx5.tr cxh24.1
            have hn5 : qn h24 = qn hb := by have := cxh24.2.1; omega
            have hz5 : qz h24 = qz hb := by have := cxh24.2.2; omega
            have okl0 := okl0.ex cxh24.1
            have okb1 := okb1.ex cxh24.1
            have okb7 := okb7.ex cxh24.1
            refine x_if_eq (tgt := 247) (pc := 121) dX12_valueAt_121 (by decide) (fun c26 => ?_) (fun c26 => ?_)
            · have hwp := hwp.1 c26
              refine y_iinc (c := 1) (pc := 247) dX12_valueAt_247 rfl (by decide) (by decide) (fun v27 ev27 => ?_)
              have hwp := hwp v27 ev27
              refine x_lvE (lv2 := [(4, .int v27), (7, .int r12), (6, .int v10), (5, .int r6), (0, .ref l0), (1, .int l1), (2, .int l2), (3, .int l3)]) rfl ?_
              refine x_goto (tgt := 5) (pc := 250) dX12_valueAt_250 (by decide) ?_
              refine x_sub [4, 5, 6, 7, 0] rfl ?_
              exact hbk5 _ hwp ⟨hx5, hn5, hz5⟩
            · have hwp := hwp.2 c26
              refine y_iinc (c := 1) (pc := 124) dX12_valueAt_124 rfl (by decide) (by decide) (fun v28 ev28 => ?_)
              have hwp := hwp v28 ev28
              refine x_lvE (lv2 := [(3, .int v28), (7, .int r12), (6, .int v10), (5, .int r6), (0, .ref l0), (1, .int l1), (2, .int l2), (4, .int l4)]) rfl ?_
              refine x_goto (tgt := 247) (pc := 127) dX12_valueAt_127 (by decide) ?_
              refine y_iinc (c := 1) (pc := 247) dX12_valueAt_247 rfl (by decide) (by decide) (fun v29 ev29 => ?_)
              have hwp := hwp v29 ev29
              refine x_lvE (lv2 := [(4, .int v29), (3, .int v28), (7, .int r12), (6, .int v10), (5, .int r6), (0, .ref l0), (1, .int l1), (2, .int l2)]) rfl ?_
              refine x_goto (tgt := 5) (pc := 250) dX12_valueAt_250 (by decide) ?_
              refine x_sub [5, 6, 7, 1, 0] rfl ?_
              exact hbk5 _ hwp ⟨hx5, hn5, hz5⟩
      · have hwp := hwp.2 c14
        refine x_sub [3, 4, 5, 6, 7] rfl ?_
        exact sg_X12_valueAt_55 G d h0 l0 l1 l2 l3 l4 h11 Q hb bk5 hbk5 hx5 hn5 hz5 hex hnn hzz okl0 hwp
theorem lp_X12_valueAt_5 (G : GT) (d : Nat) (h0 hb : PH) (l0 : Nat) (l1 : Int32) (l2 : Int32) (Q : Int32 → PH → Prop)  (hex : qEx h0 hb) (hnn : qn hb = qn h0 + 0) (hzz : qz hb = qz h0 + 0) (okl0 : qOK hb 11 l0) {s : Int32 × Int32 × PH} (hwp : qLoop (wp_X12_valueAt_5 l0 l1 l2 Q) s) : E_X12_valueAt_5 G d h0 hb l0 l1 l2 Q s :=
  qLoop.use (E := E_X12_valueAt_5 G d h0 hb l0 l1 l2 Q) (fun back s hbk hw hx => bd_X12_valueAt_5 G d h0 hb l0 l1 l2 Q hex hnn hzz okl0 back hbk s.1 s.2.1 s.2.2 hw hx.1 hx.2.1 hx.2.2) hwp
def wp_X12_valueAt (l0 : Nat) (l1 : Int32) (l2 : Int32) (h : PH) (Q : Int32 → PH → Prop) : Prop := (qLoop (wp_X12_valueAt_5 l0 l1 l2 Q) (0, 0, h))
set_option maxHeartbeats 4000000 in
set_option maxRecDepth 100000 in
theorem sn_X12_valueAt (G : GT) (d : Nat) (l0 : Nat) (l1 : Int32) (l2 : Int32) (h : PH) (Q : Int32 → PH → Prop) (okl0 : qOK h 11 l0) (hwp : wp_X12_valueAt l0 l1 l2 h Q) : Mt G (5 + d) 0 0 mX12_valueAt [.ref l0, .int l1, .int l2] h (qqi Q) := by
  unfold wp_X12_valueAt at hwp
  refine Mt.of (by decide) rfl (Nat.le_of_ble_eq_true rfl) ?_
  have hex := qEx.rf h
  have hnn : qn h = qn h + 0 := rfl
  have hzz : qz h = qz h + 0 := rfl
  refine x_lvE (lv2 := [(0, .ref l0), (1, .int l1), (2, .int l2)]) rfl ?_
  refine x_iconst (v := 0) (pc := 0) dX12_valueAt_0 (by decide) ?_
  refine x_istore_n (lv2 := [(3, .int 0), (0, .ref l0), (1, .int l1), (2, .int l2)]) (pc := 1) dX12_valueAt_1 (by decide) rfl ?_
  refine x_iconst (v := 0) (pc := 2) dX12_valueAt_2 (by decide) ?_
  refine x_istore (lv2 := [(4, .int 0), (3, .int 0), (0, .ref l0), (1, .int l1), (2, .int l2)]) (pc := 3) dX12_valueAt_3 (by decide) rfl ?_
  refine x_sub [2, 3, 4, 1, 0] rfl ?_
  exact lp_X12_valueAt_5 G d h h l0 l1 l2 Q hex hnn hzz okl0 hwp ⟨qEx.rf _, rfl, rfl⟩

theorem dX12_valued_0 : decode cX12_valued 0 = .ok (.iload_n 1, 1) := by decide +kernel
theorem dX12_valued_1 : decode cX12_valued 1 = .ok (.bipush 100, 2) := by decide +kernel
theorem dX12_valued_3 : decode cX12_valued 3 = .ok (.if_icmp .lt 8, 3) := by decide +kernel
theorem dX12_valued_6 : decode cX12_valued 6 = .ok (.iload_n 1, 1) := by decide +kernel
theorem dX12_valued_7 : decode cX12_valued 7 = .ok (.bipush 100, 2) := by decide +kernel
theorem dX12_valued_9 : decode cX12_valued 9 = .ok (.isub, 1) := by decide +kernel
theorem dX12_valued_10 : decode cX12_valued 10 = .ok (.ireturn, 1) := by decide +kernel
theorem dX12_valued_11 : decode cX12_valued 11 = .ok (.iload_n 2, 1) := by decide +kernel
theorem dX12_valued_12 : decode cX12_valued 12 = .ok (.iconst (-1), 1) := by decide +kernel
theorem dX12_valued_13 : decode cX12_valued 13 = .ok (.if_icmp .eq 10, 3) := by decide +kernel
theorem dX12_valued_16 : decode cX12_valued 16 = .ok (.aload_n 0, 1) := by decide +kernel
theorem dX12_valued_17 : decode cX12_valued 17 = .ok (.iload_n 1, 1) := by decide +kernel
theorem dX12_valued_18 : decode cX12_valued 18 = .ok (.iload_n 2, 1) := by decide +kernel
theorem dX12_valued_19 : decode cX12_valued 19 = .ok (.invokevirtual 366, 3) := by decide +kernel
theorem dX12_valued_22 : decode cX12_valued 22 = .ok (.ireturn, 1) := by decide +kernel
theorem dX12_valued_23 : decode cX12_valued 23 = .ok (.iconst 0, 1) := by decide +kernel
theorem dX12_valued_24 : decode cX12_valued 24 = .ok (.istore_n 3, 1) := by decide +kernel
theorem dX12_valued_25 : decode cX12_valued 25 = .ok (.iconst 0, 1) := by decide +kernel
theorem dX12_valued_26 : decode cX12_valued 26 = .ok (.istore 4, 2) := by decide +kernel
theorem dX12_valued_28 : decode cX12_valued 28 = .ok (.iload 4, 2) := by decide +kernel
theorem dX12_valued_30 : decode cX12_valued 30 = .ok (.aload_n 0, 1) := by decide +kernel
theorem dX12_valued_31 : decode cX12_valued 31 = .ok (.getfield 13, 3) := by decide +kernel
theorem dX12_valued_34 : decode cX12_valued 34 = .ok (.iconst 0, 1) := by decide +kernel
theorem dX12_valued_35 : decode cX12_valued 35 = .ok (.iaload, 1) := by decide +kernel
theorem dX12_valued_36 : decode cX12_valued 36 = .ok (.if_icmp .ge 19, 3) := by decide +kernel
theorem dX12_valued_39 : decode cX12_valued 39 = .ok (.iload_n 3, 1) := by decide +kernel
theorem dX12_valued_40 : decode cX12_valued 40 = .ok (.aload_n 0, 1) := by decide +kernel
theorem dX12_valued_41 : decode cX12_valued 41 = .ok (.iload_n 1, 1) := by decide +kernel
theorem dX12_valued_42 : decode cX12_valued 42 = .ok (.iload 4, 2) := by decide +kernel
theorem dX12_valued_44 : decode cX12_valued 44 = .ok (.invokevirtual 366, 3) := by decide +kernel
theorem dX12_valued_47 : decode cX12_valued 47 = .ok (.iadd, 1) := by decide +kernel
theorem dX12_valued_48 : decode cX12_valued 48 = .ok (.istore_n 3, 1) := by decide +kernel
theorem dX12_valued_49 : decode cX12_valued 49 = .ok (.iinc 4 1, 3) := by decide +kernel
theorem dX12_valued_52 : decode cX12_valued 52 = .ok (.goto (-24), 3) := by decide +kernel
theorem dX12_valued_55 : decode cX12_valued 55 = .ok (.iload_n 3, 1) := by decide +kernel
theorem dX12_valued_56 : decode cX12_valued 56 = .ok (.ireturn, 1) := by decide +kernel
def E_X12_valued_28 (G : GT) (d : Nat) (h0 hb : PH) (l0 : Nat) (l1 : Int32) (Q : Int32 → PH → Prop) (s : Int32 × Int32 × PH) : Prop := qEx hb s.2.2 ∧ qn s.2.2 = qn hb ∧ qz s.2.2 = qz hb → Ex G (qrm (6 + d) 0 0) mX12_valued (qn h0) (qz h0) (ZN G h0 0 0 (qqi Q)) 28 [(0, .ref l0), (1, .int l1), (3, .int s.1), (4, .int s.2.1)] [] s.2.2
def wb_X12_valued_28 (l0 : Nat) (l1 : Int32)  (Q : Int32 → PH → Prop) (bk28 : Int32 × Int32 × PH → Prop) (l3 : Int32) (l4 : Int32) (h : PH) : Prop := (∃ b5, qR h l0 14 = some b5 ∧ (vp_in 0 (qL h b5) ∧ (((qI h b5 (0 : Int32).toNatClampNeg) ≤ l4 → Q l3 h) ∧ (¬ ((qI h b5 (0 : Int32).toNatClampNeg) ≤ l4) → (wp_X12_valueAt l0 l1 l4 h (fun r10 h9 => ∀ v11 : Int32, v11 = l3 + r10 → ∀ v12 : Int32, v12 = l4 + 1 → bk28 (v11, v12, h9)))))))
def wp_X12_valued_28 (l0 : Nat) (l1 : Int32)  (Q : Int32 → PH → Prop) (bk28 : Int32 × Int32 × PH → Prop) (s : Int32 × Int32 × PH) : Prop := wb_X12_valued_28 l0 l1 Q bk28 s.1 s.2.1 s.2.2
set_option maxHeartbeats 4000000 in
set_option maxRecDepth 100000 in
theorem bd_X12_valued_28 (G : GT) (d : Nat) (h0 hb : PH) (l0 : Nat) (l1 : Int32) (Q : Int32 → PH → Prop)  (hex : qEx h0 hb) (hnn : qn hb = qn h0 + 0) (hzz : qz hb = qz h0 + 0) (okl0 : qOK hb 11 l0) (bk28 : Int32 × Int32 × PH → Prop) (hbk28 : ∀ s2, bk28 s2 → E_X12_valued_28 G d h0 hb l0 l1 Q s2) (l3 : Int32) (l4 : Int32) (h : PH) (hwp : wb_X12_valued_28 l0 l1 Q bk28 l3 l4 h) (hx28 : qEx hb h) (hn28 : qn h = qn hb) (hz28 : qz h = qz hb) : Ex G (qrm (6 + d) 0 0) mX12_valued (qn h0) (qz h0) (ZN G h0 0 0 (qqi Q)) 28 [(0, .ref l0), (1, .int l1), (3, .int l3), (4, .int l4)] [] h := by
  unfold wb_X12_valued_28 at hwp
  have hex := hex.tr hx28
  have hnn := hn28.trans hnn
  have hzz := hz28.trans hzz
  have okl0 := okl0.ex hx28
  refine x_iload (pc := 28) dX12_valued_28 rfl ?_
  refine x_aload_n (pc := 30) dX12_valued_30 rfl ?_
  obtain ⟨b5, e6, hwp⟩ := hwp
  refine x_getR (pc := 31) dX12_valued_31 qRX12_13 okl0 e6 (fun okb5 => ?_)
  refine x_iconst (v := 0) (pc := 34) dX12_valued_34 (by decide) ?_
  obtain ⟨i7, hwp⟩ := hwp
  refine x_iaload (pc := 35) dX12_valued_35 okb5 i7 ?_
  refine x_icmp_ge (tgt := 55) (pc := 36) dX12_valued_36 (by decide) (fun c8 => ?_) (fun c8 => ?_)
  · have hwp := hwp.1 c8
    refine x_iload_n (pc := 55) dX12_valued_55 rfl ?_
    exact x_iret (pc := 56) dX12_valued_56 rfl hex hnn hzz ⟨_, rfl, hwp⟩
  · have hwp := hwp.2 c8
    refine x_iload_n (pc := 39) dX12_valued_39 rfl ?_
    refine x_aload_n (pc := 40) dX12_valued_40 rfl ?_
    refine x_iload_n (pc := 41) dX12_valued_41 rfl ?_
    refine x_iload (pc := 42) dX12_valued_42 rfl ?_
    refine x_invV (As := [.int l1, .int l4]) (st := [.int l3]) (pc := 44) dX12_valued_44 lRX12_366 fX12_valueAt vX12_valueAt okl0 rfl (Nat.le_of_ble_eq_true rfl) (q_R (by omega) (by decide)) (q_C hnn hzz (by decide) (by decide)) (sn_X12_valueAt G (d + 0) l0 l1 l4 h _ okl0 hwp) (k_i (fun r10 h9 hwp cxh9 => ?_))
    have hex := hex.tr cxh9.1
    have hnn : qn h9 = qn h0 + 0 := by have := cxh9.2.1; omega
    have hzz : qz h9 = qz h0 + 0 := by have := cxh9.2.2; omega
    have hx28 := hx28.tr cxh9.1
    have hn28 : qn h9 = qn hb := by have := cxh9.2.1; omega
    have hz28 : qz h9 = qz hb := by have := cxh9.2.2; omega
    have okl0 := okl0.ex cxh9.1
    have okb5 := okb5.ex cxh9.1
    refine x_iadd (pc := 47) dX12_valued_47 ?_
    refine x_nmI (fun v11 ev11 => ?_)
    have hwp := hwp v11 ev11
    refine x_istore_n (lv2 := [(3, .int v11), (0, .ref l0), (1, .int l1), (4, .int l4)]) (pc := 48) dX12_valued_48 (by decide) rfl ?_
    refine y_iinc (c := 1) (pc := 49) dX12_valued_49 rfl (by decide) (by decide) (fun v12 ev12 => ?_)
    have hwp := hwp v12 ev12
    refine x_lvE (lv2 := [(4, .int v12), (3, .int v11), (0, .ref l0), (1, .int l1)]) rfl ?_
    refine x_goto (tgt := 28) (pc := 52) dX12_valued_52 (by decide) ?_
    refine x_sub [2, 3, 1, 0] rfl ?_
    exact hbk28 _ hwp ⟨hx28, hn28, hz28⟩
theorem lp_X12_valued_28 (G : GT) (d : Nat) (h0 hb : PH) (l0 : Nat) (l1 : Int32) (Q : Int32 → PH → Prop)  (hex : qEx h0 hb) (hnn : qn hb = qn h0 + 0) (hzz : qz hb = qz h0 + 0) (okl0 : qOK hb 11 l0) {s : Int32 × Int32 × PH} (hwp : qLoop (wp_X12_valued_28 l0 l1 Q) s) : E_X12_valued_28 G d h0 hb l0 l1 Q s :=
  qLoop.use (E := E_X12_valued_28 G d h0 hb l0 l1 Q) (fun back s hbk hw hx => bd_X12_valued_28 G d h0 hb l0 l1 Q hex hnn hzz okl0 back hbk s.1 s.2.1 s.2.2 hw hx.1 hx.2.1 hx.2.2) hwp
def wp_X12_valued (l0 : Nat) (l1 : Int32) (l2 : Int32) (h : PH) (Q : Int32 → PH → Prop) : Prop := ((l1 < 100 → ((l2 = (-1) → (qLoop (wp_X12_valued_28 l0 l1 Q) (0, 0, h))) ∧ (¬ (l2 = (-1)) → (wp_X12_valueAt l0 l1 l2 h (fun r4 h3 => Q r4 h3))))) ∧ (¬ (l1 < 100) → Q (l1 - 100) h))
set_option maxHeartbeats 4000000 in
set_option maxRecDepth 100000 in
theorem sn_X12_valued (G : GT) (d : Nat) (l0 : Nat) (l1 : Int32) (l2 : Int32) (h : PH) (Q : Int32 → PH → Prop) (okl0 : qOK h 11 l0) (hwp : wp_X12_valued l0 l1 l2 h Q) : Mt G (6 + d) 0 0 mX12_valued [.ref l0, .int l1, .int l2] h (qqi Q) := by
  unfold wp_X12_valued at hwp
  refine Mt.of (by decide) rfl (Nat.le_of_ble_eq_true rfl) ?_
  have hex := qEx.rf h
  have hnn : qn h = qn h + 0 := rfl
  have hzz : qz h = qz h + 0 := rfl
  refine x_lvE (lv2 := [(0, .ref l0), (1, .int l1), (2, .int l2)]) rfl ?_
  refine x_iload_n (pc := 0) dX12_valued_0 rfl ?_
  refine x_bipush (v := 100) (pc := 1) dX12_valued_1 (by decide) ?_
  refine x_icmp_lt (tgt := 11) (pc := 3) dX12_valued_3 (by decide) (fun c1 => ?_) (fun c1 => ?_)
  · have hwp := hwp.1 c1
    refine x_iload_n (pc := 11) dX12_valued_11 rfl ?_
    refine x_iconst (v := (-1)) (pc := 12) dX12_valued_12 (by decide) ?_
    refine x_icmp_eq (tgt := 23) (pc := 13) dX12_valued_13 (by decide) (fun c2 => ?_) (fun c2 => ?_)
    · have hwp := hwp.1 c2
      refine x_iconst (v := 0) (pc := 23) dX12_valued_23 (by decide) ?_
      refine x_istore_n (lv2 := [(3, .int 0), (0, .ref l0), (1, .int l1), (2, .int l2)]) (pc := 24) dX12_valued_24 (by decide) rfl ?_
      refine x_iconst (v := 0) (pc := 25) dX12_valued_25 (by decide) ?_
      refine x_istore (lv2 := [(4, .int 0), (3, .int 0), (0, .ref l0), (1, .int l1), (2, .int l2)]) (pc := 26) dX12_valued_26 (by decide) rfl ?_
      refine x_sub [2, 3, 1, 0] rfl ?_
      exact lp_X12_valued_28 G d h h l0 l1 Q hex hnn hzz okl0 hwp ⟨qEx.rf _, rfl, rfl⟩
    · have hwp := hwp.2 c2
      refine x_aload_n (pc := 16) dX12_valued_16 rfl ?_
      refine x_iload_n (pc := 17) dX12_valued_17 rfl ?_
      refine x_iload_n (pc := 18) dX12_valued_18 rfl ?_
      refine x_invV (As := [.int l1, .int l2]) (st := []) (pc := 19) dX12_valued_19 lRX12_366 fX12_valueAt vX12_valueAt okl0 rfl (Nat.le_of_ble_eq_true rfl) (q_R (by omega) (by decide)) (q_C hnn hzz (by decide) (by decide)) (sn_X12_valueAt G (d + 0) l0 l1 l2 h _ okl0 hwp) (k_i (fun r4 h3 hwp cxh3 => ?_))
      have hex := hex.tr cxh3.1
      have hnn : qn h3 = qn h + 0 := by have := cxh3.2.1; omega
      have hzz : qz h3 = qz h + 0 := by have := cxh3.2.2; omega
      have okl0 := okl0.ex cxh3.1
      exact x_iret (pc := 22) dX12_valued_22 rfl hex hnn hzz ⟨_, rfl, hwp⟩
  · have hwp := hwp.2 c1
    refine x_iload_n (pc := 6) dX12_valued_6 rfl ?_
    refine x_bipush (v := 100) (pc := 7) dX12_valued_7 (by decide) ?_
    refine x_isub (pc := 9) dX12_valued_9 ?_
    exact x_iret (pc := 10) dX12_valued_10 rfl hex hnn hzz ⟨_, rfl, hwp⟩

theorem dX12_isSo_0 : decode cX12_isSo 0 = .ok (.aload_n 0, 1) := by decide +kernel
theorem dX12_isSo_1 : decode cX12_isSo 1 = .ok (.getfield 42, 3) := by decide +kernel
theorem dX12_isSo_4 : decode cX12_isSo 4 = .ok (.iload_n 1, 1) := by decide +kernel
theorem dX12_isSo_5 : decode cX12_isSo 5 = .ok (.iaload, 1) := by decide +kernel
theorem dX12_isSo_6 : decode cX12_isSo 6 = .ok (.iconst 4, 1) := by decide +kernel
theorem dX12_isSo_7 : decode cX12_isSo 7 = .ok (.if_icmp .ne 90, 3) := by decide +kernel
theorem dX12_isSo_10 : decode cX12_isSo 10 = .ok (.aload_n 0, 1) := by decide +kernel
theorem dX12_isSo_11 : decode cX12_isSo 11 = .ok (.aload_n 0, 1) := by decide +kernel
theorem dX12_isSo_12 : decode cX12_isSo 12 = .ok (.getfield 45, 3) := by decide +kernel
theorem dX12_isSo_15 : decode cX12_isSo 15 = .ok (.iload_n 1, 1) := by decide +kernel
theorem dX12_isSo_16 : decode cX12_isSo 16 = .ok (.iaload, 1) := by decide +kernel
theorem dX12_isSo_17 : decode cX12_isSo 17 = .ok (.iload_n 2, 1) := by decide +kernel
theorem dX12_isSo_18 : decode cX12_isSo 18 = .ok (.invokevirtual 369, 3) := by decide +kernel
theorem dX12_isSo_21 : decode cX12_isSo 21 = .ok (.istore_n 3, 1) := by decide +kernel
theorem dX12_isSo_22 : decode cX12_isSo 22 = .ok (.aload_n 0, 1) := by decide +kernel
theorem dX12_isSo_23 : decode cX12_isSo 23 = .ok (.aload_n 0, 1) := by decide +kernel
theorem dX12_isSo_24 : decode cX12_isSo 24 = .ok (.getfield 48, 3) := by decide +kernel
theorem dX12_isSo_27 : decode cX12_isSo 27 = .ok (.iload_n 1, 1) := by decide +kernel
theorem dX12_isSo_28 : decode cX12_isSo 28 = .ok (.iaload, 1) := by decide +kernel
theorem dX12_isSo_29 : decode cX12_isSo 29 = .ok (.iload_n 2, 1) := by decide +kernel
theorem dX12_isSo_30 : decode cX12_isSo 30 = .ok (.invokevirtual 369, 3) := by decide +kernel
theorem dX12_isSo_33 : decode cX12_isSo 33 = .ok (.istore 4, 2) := by decide +kernel
theorem dX12_isSo_35 : decode cX12_isSo 35 = .ok (.aload_n 0, 1) := by decide +kernel
theorem dX12_isSo_36 : decode cX12_isSo 36 = .ok (.getfield 51, 3) := by decide +kernel
theorem dX12_isSo_39 : decode cX12_isSo 39 = .ok (.iload_n 1, 1) := by decide +kernel
theorem dX12_isSo_40 : decode cX12_isSo 40 = .ok (.iaload, 1) := by decide +kernel
theorem dX12_isSo_41 : decode cX12_isSo 41 = .ok (.bipush 60, 2) := by decide +kernel
theorem dX12_isSo_43 : decode cX12_isSo 43 = .ok (.if_icmp .ne 17, 3) := by decide +kernel
theorem dX12_isSo_46 : decode cX12_isSo 46 = .ok (.iload_n 3, 1) := by decide +kernel
theorem dX12_isSo_47 : decode cX12_isSo 47 = .ok (.iload 4, 2) := by decide +kernel
theorem dX12_isSo_49 : decode cX12_isSo 49 = .ok (.if_icmp .ge 7, 3) := by decide +kernel
theorem dX12_isSo_52 : decode cX12_isSo 52 = .ok (.iconst 1, 1) := by decide +kernel
theorem dX12_isSo_53 : decode cX12_isSo 53 = .ok (.goto 43, 3) := by decide +kernel
theorem dX12_isSo_56 : decode cX12_isSo 56 = .ok (.iconst 0, 1) := by decide +kernel
theorem dX12_isSo_57 : decode cX12_isSo 57 = .ok (.goto 39, 3) := by decide +kernel
theorem dX12_isSo_60 : decode cX12_isSo 60 = .ok (.aload_n 0, 1) := by decide +kernel
theorem dX12_isSo_61 : decode cX12_isSo 61 = .ok (.getfield 51, 3) := by decide +kernel
theorem dX12_isSo_64 : decode cX12_isSo 64 = .ok (.iload_n 1, 1) := by decide +kernel
theorem dX12_isSo_65 : decode cX12_isSo 65 = .ok (.iaload, 1) := by decide +kernel
theorem dX12_isSo_66 : decode cX12_isSo 66 = .ok (.bipush 61, 2) := by decide +kernel
theorem dX12_isSo_68 : decode cX12_isSo 68 = .ok (.if_icmp .ne 17, 3) := by decide +kernel
theorem dX12_isSo_71 : decode cX12_isSo 71 = .ok (.iload_n 3, 1) := by decide +kernel
theorem dX12_isSo_72 : decode cX12_isSo 72 = .ok (.iload 4, 2) := by decide +kernel
theorem dX12_isSo_74 : decode cX12_isSo 74 = .ok (.if_icmp .ne 7, 3) := by decide +kernel
theorem dX12_isSo_77 : decode cX12_isSo 77 = .ok (.iconst 1, 1) := by decide +kernel
theorem dX12_isSo_78 : decode cX12_isSo 78 = .ok (.goto 18, 3) := by decide +kernel
theorem dX12_isSo_81 : decode cX12_isSo 81 = .ok (.iconst 0, 1) := by decide +kernel
theorem dX12_isSo_82 : decode cX12_isSo 82 = .ok (.goto 14, 3) := by decide +kernel
theorem dX12_isSo_85 : decode cX12_isSo 85 = .ok (.iload_n 3, 1) := by decide +kernel
theorem dX12_isSo_86 : decode cX12_isSo 86 = .ok (.iload 4, 2) := by decide +kernel
theorem dX12_isSo_88 : decode cX12_isSo 88 = .ok (.if_icmp .le 7, 3) := by decide +kernel
theorem dX12_isSo_91 : decode cX12_isSo 91 = .ok (.iconst 1, 1) := by decide +kernel
theorem dX12_isSo_92 : decode cX12_isSo 92 = .ok (.goto 4, 3) := by decide +kernel
theorem dX12_isSo_95 : decode cX12_isSo 95 = .ok (.iconst 0, 1) := by decide +kernel
theorem dX12_isSo_96 : decode cX12_isSo 96 = .ok (.ireturn, 1) := by decide +kernel
theorem dX12_isSo_97 : decode cX12_isSo 97 = .ok (.aload_n 0, 1) := by decide +kernel
theorem dX12_isSo_98 : decode cX12_isSo 98 = .ok (.getfield 42, 3) := by decide +kernel
theorem dX12_isSo_101 : decode cX12_isSo 101 = .ok (.iload_n 1, 1) := by decide +kernel
theorem dX12_isSo_102 : decode cX12_isSo 102 = .ok (.iaload, 1) := by decide +kernel
theorem dX12_isSo_103 : decode cX12_isSo 103 = .ok (.iconst 1, 1) := by decide +kernel
theorem dX12_isSo_104 : decode cX12_isSo 104 = .ok (.if_icmp .ne 23, 3) := by decide +kernel
theorem dX12_isSo_107 : decode cX12_isSo 107 = .ok (.aload_n 0, 1) := by decide +kernel
theorem dX12_isSo_108 : decode cX12_isSo 108 = .ok (.aload_n 0, 1) := by decide +kernel
theorem dX12_isSo_109 : decode cX12_isSo 109 = .ok (.getfield 45, 3) := by decide +kernel
theorem dX12_isSo_112 : decode cX12_isSo 112 = .ok (.iload_n 1, 1) := by decide +kernel
theorem dX12_isSo_113 : decode cX12_isSo 113 = .ok (.iaload, 1) := by decide +kernel
theorem dX12_isSo_114 : decode cX12_isSo 114 = .ok (.iload_n 2, 1) := by decide +kernel
theorem dX12_isSo_115 : decode cX12_isSo 115 = .ok (.invokevirtual 372, 3) := by decide +kernel
theorem dX12_isSo_118 : decode cX12_isSo 118 = .ok (.ifCond .ne 7, 3) := by decide +kernel
theorem dX12_isSo_121 : decode cX12_isSo 121 = .ok (.iconst 1, 1) := by decide +kernel
theorem dX12_isSo_122 : decode cX12_isSo 122 = .ok (.goto 4, 3) := by decide +kernel
theorem dX12_isSo_125 : decode cX12_isSo 125 = .ok (.iconst 0, 1) := by decide +kernel
theorem dX12_isSo_126 : decode cX12_isSo 126 = .ok (.ireturn, 1) := by decide +kernel
theorem dX12_isSo_127 : decode cX12_isSo 127 = .ok (.aload_n 0, 1) := by decide +kernel
theorem dX12_isSo_128 : decode cX12_isSo 128 = .ok (.aload_n 0, 1) := by decide +kernel
theorem dX12_isSo_129 : decode cX12_isSo 129 = .ok (.getfield 45, 3) := by decide +kernel
theorem dX12_isSo_132 : decode cX12_isSo 132 = .ok (.iload_n 1, 1) := by decide +kernel
theorem dX12_isSo_133 : decode cX12_isSo 133 = .ok (.iaload, 1) := by decide +kernel
theorem dX12_isSo_134 : decode cX12_isSo 134 = .ok (.iload_n 2, 1) := by decide +kernel
theorem dX12_isSo_135 : decode cX12_isSo 135 = .ok (.invokevirtual 372, 3) := by decide +kernel
theorem dX12_isSo_138 : decode cX12_isSo 138 = .ok (.istore_n 3, 1) := by decide +kernel
theorem dX12_isSo_139 : decode cX12_isSo 139 = .ok (.aload_n 0, 1) := by decide +kernel
theorem dX12_isSo_140 : decode cX12_isSo 140 = .ok (.getfield 42, 3) := by decide +kernel
theorem dX12_isSo_143 : decode cX12_isSo 143 = .ok (.iload_n 1, 1) := by decide +kernel
theorem dX12_isSo_144 : decode cX12_isSo 144 = .ok (.iaload, 1) := by decide +kernel
theorem dX12_isSo_145 : decode cX12_isSo 145 = .ok (.iconst 2, 1) := by decide +kernel
theorem dX12_isSo_146 : decode cX12_isSo 146 = .ok (.if_icmp .ne 29, 3) := by decide +kernel
theorem dX12_isSo_149 : decode cX12_isSo 149 = .ok (.iload_n 3, 1) := by decide +kernel
theorem dX12_isSo_150 : decode cX12_isSo 150 = .ok (.ifCond .eq 21, 3) := by decide +kernel
theorem dX12_isSo_153 : decode cX12_isSo 153 = .ok (.aload_n 0, 1) := by decide +kernel
theorem dX12_isSo_154 : decode cX12_isSo 154 = .ok (.aload_n 0, 1) := by decide +kernel
theorem dX12_isSo_155 : decode cX12_isSo 155 = .ok (.getfield 48, 3) := by decide +kernel
theorem dX12_isSo_158 : decode cX12_isSo 158 = .ok (.iload_n 1, 1) := by decide +kernel
theorem dX12_isSo_159 : decode cX12_isSo 159 = .ok (.iaload, 1) := by decide +kernel
theorem dX12_isSo_160 : decode cX12_isSo 160 = .ok (.iload_n 2, 1) := by decide +kernel
theorem dX12_isSo_161 : decode cX12_isSo 161 = .ok (.invokevirtual 372, 3) := by decide +kernel
theorem dX12_isSo_164 : decode cX12_isSo 164 = .ok (.ifCond .eq 7, 3) := by decide +kernel
theorem dX12_isSo_167 : decode cX12_isSo 167 = .ok (.iconst 1, 1) := by decide +kernel
theorem dX12_isSo_168 : decode cX12_isSo 168 = .ok (.goto 30, 3) := by decide +kernel
theorem dX12_isSo_171 : decode cX12_isSo 171 = .ok (.iconst 0, 1) := by decide +kernel
theorem dX12_isSo_172 : decode cX12_isSo 172 = .ok (.goto 26, 3) := by decide +kernel
theorem dX12_isSo_175 : decode cX12_isSo 175 = .ok (.iload_n 3, 1) := by decide +kernel
theorem dX12_isSo_176 : decode cX12_isSo 176 = .ok (.ifCond .ne 17, 3) := by decide +kernel
theorem dX12_isSo_179 : decode cX12_isSo 179 = .ok (.aload_n 0, 1) := by decide +kernel
theorem dX12_isSo_180 : decode cX12_isSo 180 = .ok (.aload_n 0, 1) := by decide +kernel
theorem dX12_isSo_181 : decode cX12_isSo 181 = .ok (.getfield 48, 3) := by decide +kernel
theorem dX12_isSo_184 : decode cX12_isSo 184 = .ok (.iload_n 1, 1) := by decide +kernel
theorem dX12_isSo_185 : decode cX12_isSo 185 = .ok (.iaload, 1) := by decide +kernel
theorem dX12_isSo_186 : decode cX12_isSo 186 = .ok (.iload_n 2, 1) := by decide +kernel
theorem dX12_isSo_187 : decode cX12_isSo 187 = .ok (.invokevirtual 372, 3) := by decide +kernel
theorem dX12_isSo_190 : decode cX12_isSo 190 = .ok (.ifCond .eq 7, 3) := by decide +kernel
theorem dX12_isSo_193 : decode cX12_isSo 193 = .ok (.iconst 1, 1) := by decide +kernel
theorem dX12_isSo_194 : decode cX12_isSo 194 = .ok (.goto 4, 3) := by decide +kernel
theorem dX12_isSo_197 : decode cX12_isSo 197 = .ok (.iconst 0, 1) := by decide +kernel
theorem dX12_isSo_198 : decode cX12_isSo 198 = .ok (.ireturn, 1) := by decide +kernel
def wp_X12_isSo (rc_X12_isSo : Nat → Int32 → Int32 → PH → (Int32 → PH → Prop) → Prop) (l0 : Nat) (l1 : Int32) (l2 : Int32) (h : PH) (Q : Int32 → PH → Prop) : Prop := (∃ b1, qR h l0 37 = some b1 ∧ (vp_in l1 (qL h b1) ∧ ((¬ (qI h b1 l1.toNatClampNeg) = 4 → (∃ b5, qR h l0 37 = some b5 ∧ (vp_in l1 (qL h b5) ∧ ((¬ (qI h b5 l1.toNatClampNeg) = 1 → (∃ b9, qR h l0 38 = some b9 ∧ (vp_in l1 (qL h b9) ∧ (rc_X12_isSo l0 (qI h b9 l1.toNatClampNeg) l2 h (fun r13 h12 => (∃ b14, qR h12 l0 37 = some b14 ∧ (vp_in l1 (qL h12 b14) ∧ ((¬ (qI h12 b14 l1.toNatClampNeg) = 2 → ((¬ r13 = 0 → Q 1 h12) ∧ (r13 = 0 → (∃ b19, qR h12 l0 39 = some b19 ∧ (vp_in l1 (qL h12 b19) ∧ (rc_X12_isSo l0 (qI h12 b19 l1.toNatClampNeg) l2 h12 (fun r23 h22 => ((r23 = 0 → Q 0 h22) ∧ (¬ (r23 = 0) → Q 1 h22))))))))) ∧ ((qI h12 b14 l1.toNatClampNeg) = 2 → ((r13 = 0 → Q 0 h12) ∧ (¬ (r13 = 0) → (∃ b26, qR h12 l0 39 = some b26 ∧ (vp_in l1 (qL h12 b26) ∧ (rc_X12_isSo l0 (qI h12 b26 l1.toNatClampNeg) l2 h12 (fun r30 h29 => ((r30 = 0 → Q 0 h29) ∧ (¬ (r30 = 0) → Q 1 h29))))))))))))))))) ∧ ((qI h b5 l1.toNatClampNeg) = 1 → (∃ b32, qR h l0 38 = some b32 ∧ (vp_in l1 (qL h b32) ∧ (rc_X12_isSo l0 (qI h b32 l1.toNatClampNeg) l2 h (fun r36 h35 => ((¬ r36 = 0 → Q 0 h35) ∧ (r36 = 0 → Q 1 h35))))))))))) ∧ ((qI h b1 l1.toNatClampNeg) = 4 → (∃ b38, qR h l0 38 = some b38 ∧ (vp_in l1 (qL h b38) ∧ (wp_X12_valued l0 (qI h b38 l1.toNatClampNeg) l2 h (fun r42 h41 => (∃ b43, qR h41 l0 39 = some b43 ∧ (vp_in l1 (qL h41 b43) ∧ (wp_X12_valued l0 (qI h41 b43 l1.toNatClampNeg) l2 h41 (fun r47 h46 => (∃ b48, qR h46 l0 40 = some b48 ∧ (vp_in l1 (qL h46 b48) ∧ ((¬ (qI h46 b48 l1.toNatClampNeg) = 60 → (∃ b52, qR h46 l0 40 = some b52 ∧ (vp_in l1 (qL h46 b52) ∧ ((¬ (qI h46 b52 l1.toNatClampNeg) = 61 → ((r42 ≤ r47 → Q 0 h46) ∧ (¬ (r42 ≤ r47) → Q 1 h46))) ∧ ((qI h46 b52 l1.toNatClampNeg) = 61 → ((¬ r42 = r47 → Q 0 h46) ∧ (r42 = r47 → Q 1 h46))))))) ∧ ((qI h46 b48 l1.toNatClampNeg) = 60 → ((r47 ≤ r42 → Q 0 h46) ∧ (¬ (r47 ≤ r42) → Q 1 h46))))))))))))))))))
set_option maxHeartbeats 4000000 in
set_option maxRecDepth 100000 in
theorem sn_X12_isSo (G : GT) (d : Nat) (rc_X12_isSo : Nat → Int32 → Int32 → PH → (Int32 → PH → Prop) → Prop) (hrc_X12_isSo : ∀ (a0 : Nat) (a1 : Int32) (a2 : Int32) (h : PH) (Q : Int32 → PH → Prop), qOK h 11 a0 → rc_X12_isSo a0 a1 a2 h Q → Mt G (6 + d) 0 0 mX12_isSo [.ref a0, .int a1, .int a2] h (qqb Q)) (l0 : Nat) (l1 : Int32) (l2 : Int32) (h : PH) (Q : Int32 → PH → Prop) (okl0 : qOK h 11 l0) (hwp : wp_X12_isSo rc_X12_isSo l0 l1 l2 h Q) : Mt G (7 + d) 0 0 mX12_isSo [.ref l0, .int l1, .int l2] h (qqb Q) := by
  unfold wp_X12_isSo at hwp
  refine Mt.of (by decide) rfl (Nat.le_of_ble_eq_true rfl) ?_
  have hex := qEx.rf h
  have hnn : qn h = qn h + 0 := rfl
  have hzz : qz h = qz h + 0 := rfl
  refine x_lvE (lv2 := [(0, .ref l0), (1, .int l1), (2, .int l2)]) rfl ?_
  refine x_aload_n (pc := 0) dX12_isSo_0 rfl ?_
  obtain ⟨b1, e2, hwp⟩ := hwp
  refine x_getR (pc := 1) dX12_isSo_1 qRX12_42 okl0 e2 (fun okb1 => ?_)
  refine x_iload_n (pc := 4) dX12_isSo_4 rfl ?_
  obtain ⟨i3, hwp⟩ := hwp
  refine x_iaload (pc := 5) dX12_isSo_5 okb1 i3 ?_
  refine x_iconst (v := 4) (pc := 6) dX12_isSo_6 (by decide) ?_
  refine x_icmp_ne (tgt := 97) (pc := 7) dX12_isSo_7 (by decide) (fun c4 => ?_) (fun c4 => ?_)
  · have hwp := hwp.1 c4
    refine x_aload_n (pc := 97) dX12_isSo_97 rfl ?_
    obtain ⟨b5, e6, hwp⟩ := hwp
    refine x_getR (pc := 98) dX12_isSo_98 qRX12_42 okl0 e6 (fun okb5 => ?_)
    refine x_iload_n (pc := 101) dX12_isSo_101 rfl ?_
    obtain ⟨i7, hwp⟩ := hwp
    refine x_iaload (pc := 102) dX12_isSo_102 okb5 i7 ?_
    refine x_iconst (v := 1) (pc := 103) dX12_isSo_103 (by decide) ?_
    refine x_icmp_ne (tgt := 127) (pc := 104) dX12_isSo_104 (by decide) (fun c8 => ?_) (fun c8 => ?_)
    · have hwp := hwp.1 c8
      refine x_aload_n (pc := 127) dX12_isSo_127 rfl ?_
      refine x_aload_n (pc := 128) dX12_isSo_128 rfl ?_
      obtain ⟨b9, e10, hwp⟩ := hwp
      refine x_getR (pc := 129) dX12_isSo_129 qRX12_45 okl0 e10 (fun okb9 => ?_)
      refine x_iload_n (pc := 132) dX12_isSo_132 rfl ?_
      obtain ⟨i11, hwp⟩ := hwp
      refine x_iaload (pc := 133) dX12_isSo_133 okb9 i11 ?_
      refine x_iload_n (pc := 134) dX12_isSo_134 rfl ?_
      refine x_invV (As := [.int (qI h b9 l1.toNatClampNeg), .int l2]) (st := []) (pc := 135) dX12_isSo_135 lRX12_372 fX12_isSo vX12_isSo okl0 rfl (Nat.le_of_ble_eq_true rfl) (q_R (by omega) (by decide)) (q_C hnn hzz (by decide) (by decide)) (hrc_X12_isSo l0 (qI h b9 l1.toNatClampNeg) l2 h _ okl0 hwp) (k_b (fun r13 h12 hwp zbr13 cxh12 => ?_))
      have hex := hex.tr cxh12.1
      have hnn : qn h12 = qn h + 0 := by have := cxh12.2.1; omega
      have hzz : qz h12 = qz h + 0 := by have := cxh12.2.2; omega
      have okl0 := okl0.ex cxh12.1
      have okb1 := okb1.ex cxh12.1
      have okb5 := okb5.ex cxh12.1
      have okb9 := okb9.ex cxh12.1
      refine x_istore_n (lv2 := [(3, .int r13), (0, .ref l0), (1, .int l1), (2, .int l2)]) (pc := 138) dX12_isSo_138 (by decide) rfl ?_
      refine x_aload_n (pc := 139) dX12_isSo_139 rfl ?_
      obtain ⟨b14, e15, hwp⟩ := hwp
      refine x_getR (pc := 140) dX12_isSo_140 qRX12_42 okl0 e15 (fun okb14 => ?_)
      refine x_iload_n (pc := 143) dX12_isSo_143 rfl ?_
      obtain ⟨i16, hwp⟩ := hwp
      refine x_iaload (pc := 144) dX12_isSo_144 okb14 i16 ?_
      refine x_iconst (v := 2) (pc := 145) dX12_isSo_145 (by decide) ?_
      refine x_icmp_ne (tgt := 175) (pc := 146) dX12_isSo_146 (by decide) (fun c17 => ?_) (fun c17 => ?_)
      · have hwp := hwp.1 c17
        refine x_iload_n (pc := 175) dX12_isSo_175 rfl ?_
        refine x_if_ne (tgt := 193) (pc := 176) dX12_isSo_176 (by decide) (fun c18 => ?_) (fun c18 => ?_)
        · have hwp := hwp.1 c18
          refine x_iconst (v := 1) (pc := 193) dX12_isSo_193 (by decide) ?_
          refine x_goto (tgt := 198) (pc := 194) dX12_isSo_194 (by decide) ?_
          exact x_zret (pc := 198) dX12_isSo_198 rfl hex hnn hzz (by decide) ⟨_, rfl, by decide, hwp⟩
        · have hwp := hwp.2 c18
          refine x_aload_n (pc := 179) dX12_isSo_179 rfl ?_
          refine x_aload_n (pc := 180) dX12_isSo_180 rfl ?_
          obtain ⟨b19, e20, hwp⟩ := hwp
          refine x_getR (pc := 181) dX12_isSo_181 qRX12_48 okl0 e20 (fun okb19 => ?_)
          refine x_iload_n (pc := 184) dX12_isSo_184 rfl ?_
          obtain ⟨i21, hwp⟩ := hwp
          refine x_iaload (pc := 185) dX12_isSo_185 okb19 i21 ?_
          refine x_iload_n (pc := 186) dX12_isSo_186 rfl ?_
          refine x_invV (As := [.int (qI h12 b19 l1.toNatClampNeg), .int l2]) (st := []) (pc := 187) dX12_isSo_187 lRX12_372 fX12_isSo vX12_isSo okl0 rfl (Nat.le_of_ble_eq_true rfl) (q_R (by omega) (by decide)) (q_C hnn hzz (by decide) (by decide)) (hrc_X12_isSo l0 (qI h12 b19 l1.toNatClampNeg) l2 h12 _ okl0 hwp) (k_b (fun r23 h22 hwp zbr23 cxh22 => ?_))
          have hex := hex.tr cxh22.1
          have hnn : qn h22 = qn h + 0 := by have := cxh22.2.1; omega
          have hzz : qz h22 = qz h + 0 := by have := cxh22.2.2; omega
          have okl0 := okl0.ex cxh22.1
          have okb1 := okb1.ex cxh22.1
          have okb5 := okb5.ex cxh22.1
          have okb9 := okb9.ex cxh22.1
          have okb14 := okb14.ex cxh22.1
          have okb19 := okb19.ex cxh22.1
          refine x_if_eq (tgt := 197) (pc := 190) dX12_isSo_190 (by decide) (fun c24 => ?_) (fun c24 => ?_)
          · have hwp := hwp.1 c24
            refine x_iconst (v := 0) (pc := 197) dX12_isSo_197 (by decide) ?_
            exact x_zret (pc := 198) dX12_isSo_198 rfl hex hnn hzz (by decide) ⟨_, rfl, by decide, hwp⟩
          · have hwp := hwp.2 c24
            refine x_iconst (v := 1) (pc := 193) dX12_isSo_193 (by decide) ?_
            refine x_goto (tgt := 198) (pc := 194) dX12_isSo_194 (by decide) ?_
            exact x_zret (pc := 198) dX12_isSo_198 rfl hex hnn hzz (by decide) ⟨_, rfl, by decide, hwp⟩
      · have hwp := hwp.2 c17
        refine x_iload_n (pc := 149) dX12_isSo_149 rfl ?_
        refine x_if_eq (tgt := 171) (pc := 150) dX12_isSo_150 (by decide) (fun c25 => ?_) (fun c25 => ?_)
        · have hwp := hwp.1 c25
          refine x_iconst (v := 0) (pc := 171) dX12_isSo_171 (by decide) ?_
          refine x_goto (tgt := 198) (pc := 172) dX12_isSo_172 (by decide) ?_
          exact x_zret (pc := 198) dX12_isSo_198 rfl hex hnn hzz (by decide) ⟨_, rfl, by decide, hwp⟩
        · have hwp := hwp.2 c25
          refine x_aload_n (pc := 153) dX12_isSo_153 rfl ?_
          refine x_aload_n (pc := 154) dX12_isSo_154 rfl ?_
          obtain ⟨b26, e27, hwp⟩ := hwp
          refine x_getR (pc := 155) dX12_isSo_155 qRX12_48 okl0 e27 (fun okb26 => ?_)
          refine x_iload_n (pc := 158) dX12_isSo_158 rfl ?_
          obtain ⟨i28, hwp⟩ := hwp
          refine x_iaload (pc := 159) dX12_isSo_159 okb26 i28 ?_
          refine x_iload_n (pc := 160) dX12_isSo_160 rfl ?_
          refine x_invV (As := [.int (qI h12 b26 l1.toNatClampNeg), .int l2]) (st := []) (pc := 161) dX12_isSo_161 lRX12_372 fX12_isSo vX12_isSo okl0 rfl (Nat.le_of_ble_eq_true rfl) (q_R (by omega) (by decide)) (q_C hnn hzz (by decide) (by decide)) (hrc_X12_isSo l0 (qI h12 b26 l1.toNatClampNeg) l2 h12 _ okl0 hwp) (k_b (fun r30 h29 hwp zbr30 cxh29 => ?_))
          have hex := hex.tr cxh29.1
          have hnn : qn h29 = qn h + 0 := by have := cxh29.2.1; omega
          have hzz : qz h29 = qz h + 0 := by have := cxh29.2.2; omega
          have okl0 := okl0.ex cxh29.1
          have okb1 := okb1.ex cxh29.1
          have okb5 := okb5.ex cxh29.1
          have okb9 := okb9.ex cxh29.1
          have okb14 := okb14.ex cxh29.1
          have okb26 := okb26.ex cxh29.1
          refine x_if_eq (tgt := 171) (pc := 164) dX12_isSo_164 (by decide) (fun c31 => ?_) (fun c31 => ?_)
          · have hwp := hwp.1 c31
            refine x_iconst (v := 0) (pc := 171) dX12_isSo_171 (by decide) ?_
            refine x_goto (tgt := 198) (pc := 172) dX12_isSo_172 (by decide) ?_
            exact x_zret (pc := 198) dX12_isSo_198 rfl hex hnn hzz (by decide) ⟨_, rfl, by decide, hwp⟩
          · have hwp := hwp.2 c31
            refine x_iconst (v := 1) (pc := 167) dX12_isSo_167 (by decide) ?_
            refine x_goto (tgt := 198) (pc := 168) dX12_isSo_168 (by decide) ?_
            exact x_zret (pc := 198) dX12_isSo_198 rfl hex hnn hzz (by decide) ⟨_, rfl, by decide, hwp⟩
    · have hwp := hwp.2 c8
      refine x_aload_n (pc := 107) dX12_isSo_107 rfl ?_
      refine x_aload_n (pc := 108) dX12_isSo_108 rfl ?_
      obtain ⟨b32, e33, hwp⟩ := hwp
      refine x_getR (pc := 109) dX12_isSo_109 qRX12_45 okl0 e33 (fun okb32 => ?_)
      refine x_iload_n (pc := 112) dX12_isSo_112 rfl ?_
      obtain ⟨i34, hwp⟩ := hwp
      refine x_iaload (pc := 113) dX12_isSo_113 okb32 i34 ?_
      refine x_iload_n (pc := 114) dX12_isSo_114 rfl ?_
      refine x_invV (As := [.int (qI h b32 l1.toNatClampNeg), .int l2]) (st := []) (pc := 115) dX12_isSo_115 lRX12_372 fX12_isSo vX12_isSo okl0 rfl (Nat.le_of_ble_eq_true rfl) (q_R (by omega) (by decide)) (q_C hnn hzz (by decide) (by decide)) (hrc_X12_isSo l0 (qI h b32 l1.toNatClampNeg) l2 h _ okl0 hwp) (k_b (fun r36 h35 hwp zbr36 cxh35 => ?_))
      have hex := hex.tr cxh35.1
      have hnn : qn h35 = qn h + 0 := by have := cxh35.2.1; omega
      have hzz : qz h35 = qz h + 0 := by have := cxh35.2.2; omega
      have okl0 := okl0.ex cxh35.1
      have okb1 := okb1.ex cxh35.1
      have okb5 := okb5.ex cxh35.1
      have okb32 := okb32.ex cxh35.1
      refine x_if_ne (tgt := 125) (pc := 118) dX12_isSo_118 (by decide) (fun c37 => ?_) (fun c37 => ?_)
      · have hwp := hwp.1 c37
        refine x_iconst (v := 0) (pc := 125) dX12_isSo_125 (by decide) ?_
        exact x_zret (pc := 126) dX12_isSo_126 rfl hex hnn hzz (by decide) ⟨_, rfl, by decide, hwp⟩
      · have hwp := hwp.2 c37
        refine x_iconst (v := 1) (pc := 121) dX12_isSo_121 (by decide) ?_
        refine x_goto (tgt := 126) (pc := 122) dX12_isSo_122 (by decide) ?_
        exact x_zret (pc := 126) dX12_isSo_126 rfl hex hnn hzz (by decide) ⟨_, rfl, by decide, hwp⟩
  · have hwp := hwp.2 c4
    refine x_aload_n (pc := 10) dX12_isSo_10 rfl ?_
    refine x_aload_n (pc := 11) dX12_isSo_11 rfl ?_
    obtain ⟨b38, e39, hwp⟩ := hwp
    refine x_getR (pc := 12) dX12_isSo_12 qRX12_45 okl0 e39 (fun okb38 => ?_)
    refine x_iload_n (pc := 15) dX12_isSo_15 rfl ?_
    obtain ⟨i40, hwp⟩ := hwp
    refine x_iaload (pc := 16) dX12_isSo_16 okb38 i40 ?_
    refine x_iload_n (pc := 17) dX12_isSo_17 rfl ?_
    refine x_invV (As := [.int (qI h b38 l1.toNatClampNeg), .int l2]) (st := []) (pc := 18) dX12_isSo_18 lRX12_369 fX12_valued vX12_valued okl0 rfl (Nat.le_of_ble_eq_true rfl) (q_R (by omega) (by decide)) (q_C hnn hzz (by decide) (by decide)) (sn_X12_valued G (d + 0) l0 (qI h b38 l1.toNatClampNeg) l2 h _ okl0 hwp) (k_i (fun r42 h41 hwp cxh41 => ?_))
    have hex := hex.tr cxh41.1
    have hnn : qn h41 = qn h + 0 := by have := cxh41.2.1; omega
    have hzz : qz h41 = qz h + 0 := by have := cxh41.2.2; omega
    have okl0 := okl0.ex cxh41.1
    have okb1 := okb1.ex cxh41.1
    have okb38 := okb38.ex cxh41.1
    refine x_istore_n (lv2 := [(3, .int r42), (0, .ref l0), (1, .int l1), (2, .int l2)]) (pc := 21) dX12_isSo_21 (by decide) rfl ?_
    refine x_aload_n (pc := 22) dX12_isSo_22 rfl ?_
    refine x_aload_n (pc := 23) dX12_isSo_23 rfl ?_
    obtain ⟨b43, e44, hwp⟩ := hwp
    refine x_getR (pc := 24) dX12_isSo_24 qRX12_48 okl0 e44 (fun okb43 => ?_)
    refine x_iload_n (pc := 27) dX12_isSo_27 rfl ?_
    obtain ⟨i45, hwp⟩ := hwp
    refine x_iaload (pc := 28) dX12_isSo_28 okb43 i45 ?_
    refine x_iload_n (pc := 29) dX12_isSo_29 rfl ?_
    refine x_invV (As := [.int (qI h41 b43 l1.toNatClampNeg), .int l2]) (st := []) (pc := 30) dX12_isSo_30 lRX12_369 fX12_valued vX12_valued okl0 rfl (Nat.le_of_ble_eq_true rfl) (q_R (by omega) (by decide)) (q_C hnn hzz (by decide) (by decide)) (sn_X12_valued G (d + 0) l0 (qI h41 b43 l1.toNatClampNeg) l2 h41 _ okl0 hwp) (k_i (fun r47 h46 hwp cxh46 => ?_))
    have hex := hex.tr cxh46.1
    have hnn : qn h46 = qn h + 0 := by have := cxh46.2.1; omega
    have hzz : qz h46 = qz h + 0 := by have := cxh46.2.2; omega
    have okl0 := okl0.ex cxh46.1
    have okb1 := okb1.ex cxh46.1
    have okb38 := okb38.ex cxh46.1
    have okb43 := okb43.ex cxh46.1
    refine x_istore (lv2 := [(4, .int r47), (3, .int r42), (0, .ref l0), (1, .int l1), (2, .int l2)]) (pc := 33) dX12_isSo_33 (by decide) rfl ?_
    refine x_aload_n (pc := 35) dX12_isSo_35 rfl ?_
    obtain ⟨b48, e49, hwp⟩ := hwp
    refine x_getR (pc := 36) dX12_isSo_36 qRX12_51 okl0 e49 (fun okb48 => ?_)
    refine x_iload_n (pc := 39) dX12_isSo_39 rfl ?_
    obtain ⟨i50, hwp⟩ := hwp
    refine x_iaload (pc := 40) dX12_isSo_40 okb48 i50 ?_
    refine x_bipush (v := 60) (pc := 41) dX12_isSo_41 (by decide) ?_
    refine x_icmp_ne (tgt := 60) (pc := 43) dX12_isSo_43 (by decide) (fun c51 => ?_) (fun c51 => ?_)
    · have hwp := hwp.1 c51
      refine x_aload_n (pc := 60) dX12_isSo_60 rfl ?_
      obtain ⟨b52, e53, hwp⟩ := hwp
      refine x_getR (pc := 61) dX12_isSo_61 qRX12_51 okl0 e53 (fun okb52 => ?_)
      refine x_iload_n (pc := 64) dX12_isSo_64 rfl ?_
      obtain ⟨i54, hwp⟩ := hwp
      refine x_iaload (pc := 65) dX12_isSo_65 okb52 i54 ?_
      refine x_bipush (v := 61) (pc := 66) dX12_isSo_66 (by decide) ?_
      refine x_icmp_ne (tgt := 85) (pc := 68) dX12_isSo_68 (by decide) (fun c55 => ?_) (fun c55 => ?_)
      · have hwp := hwp.1 c55
        refine x_iload_n (pc := 85) dX12_isSo_85 rfl ?_
        refine x_iload (pc := 86) dX12_isSo_86 rfl ?_
        refine x_icmp_le (tgt := 95) (pc := 88) dX12_isSo_88 (by decide) (fun c56 => ?_) (fun c56 => ?_)
        · have hwp := hwp.1 c56
          refine x_iconst (v := 0) (pc := 95) dX12_isSo_95 (by decide) ?_
          exact x_zret (pc := 96) dX12_isSo_96 rfl hex hnn hzz (by decide) ⟨_, rfl, by decide, hwp⟩
        · have hwp := hwp.2 c56
          refine x_iconst (v := 1) (pc := 91) dX12_isSo_91 (by decide) ?_
          refine x_goto (tgt := 96) (pc := 92) dX12_isSo_92 (by decide) ?_
          exact x_zret (pc := 96) dX12_isSo_96 rfl hex hnn hzz (by decide) ⟨_, rfl, by decide, hwp⟩
      · have hwp := hwp.2 c55
        refine x_iload_n (pc := 71) dX12_isSo_71 rfl ?_
        refine x_iload (pc := 72) dX12_isSo_72 rfl ?_
        refine x_icmp_ne (tgt := 81) (pc := 74) dX12_isSo_74 (by decide) (fun c57 => ?_) (fun c57 => ?_)
        · have hwp := hwp.1 c57
          refine x_iconst (v := 0) (pc := 81) dX12_isSo_81 (by decide) ?_
          refine x_goto (tgt := 96) (pc := 82) dX12_isSo_82 (by decide) ?_
          exact x_zret (pc := 96) dX12_isSo_96 rfl hex hnn hzz (by decide) ⟨_, rfl, by decide, hwp⟩
        · have hwp := hwp.2 c57
          refine x_iconst (v := 1) (pc := 77) dX12_isSo_77 (by decide) ?_
          refine x_goto (tgt := 96) (pc := 78) dX12_isSo_78 (by decide) ?_
          exact x_zret (pc := 96) dX12_isSo_96 rfl hex hnn hzz (by decide) ⟨_, rfl, by decide, hwp⟩
    · have hwp := hwp.2 c51
      refine x_iload_n (pc := 46) dX12_isSo_46 rfl ?_
      refine x_iload (pc := 47) dX12_isSo_47 rfl ?_
      refine x_icmp_ge (tgt := 56) (pc := 49) dX12_isSo_49 (by decide) (fun c58 => ?_) (fun c58 => ?_)
      · have hwp := hwp.1 c58
        refine x_iconst (v := 0) (pc := 56) dX12_isSo_56 (by decide) ?_
        refine x_goto (tgt := 96) (pc := 57) dX12_isSo_57 (by decide) ?_
        exact x_zret (pc := 96) dX12_isSo_96 rfl hex hnn hzz (by decide) ⟨_, rfl, by decide, hwp⟩
      · have hwp := hwp.2 c58
        refine x_iconst (v := 1) (pc := 52) dX12_isSo_52 (by decide) ?_
        refine x_goto (tgt := 96) (pc := 53) dX12_isSo_53 (by decide) ?_
        exact x_zret (pc := 96) dX12_isSo_96 rfl hex hnn hzz (by decide) ⟨_, rfl, by decide, hwp⟩

def rg_X12s : Nat → (Nat → Int32 → Int32 → PH → (Int32 → PH → Prop) → Prop)
  | 0 => (fun _ _ _ _ _ => False)
  | n + 1 => wp_X12_isSo ((rg_X12s n))
theorem rs_X12s (G : GT) : ∀ (n d : Nat), (∀ (a0 : Nat) (a1 : Int32) (a2 : Int32) (h : PH) (Q : Int32 → PH → Prop), qOK h 11 a0 → (rg_X12s n) a0 a1 a2 h Q → Mt G (7 + n + d) 0 0 mX12_isSo [.ref a0, .int a1, .int a2] h (qqb Q))
  | 0, d => fun _ _ _ _ _ _ hwp => absurd hwp (fun w => w)
  | n + 1, d => by
    have ih := rs_X12s G n d
    rw [show 7 + n + d = 6 + (n + 1 + d) by omega] at ih
    rw [show 7 + (n + 1) + d = 7 + (n + 1 + d) by omega]
    exact fun a0 a1 a2 h Q ok0 hwp => sn_X12_isSo G (n + 1 + d) ((rg_X12s n)) (ih) a0 a1 a2 h Q ok0 hwp
def wp_X12_isSoR (a0 : Nat) (a1 : Int32) (a2 : Int32) (h : PH) (Q : Int32 → PH → Prop) : Prop := (rg_X12s 64) a0 a1 a2 h Q
theorem sn_X12_isSoR (G : GT) (d : Nat) (a0 : Nat) (a1 : Int32) (a2 : Int32) (h : PH) (Q : Int32 → PH → Prop) (ok0 : qOK h 11 a0) (hwp : wp_X12_isSoR a0 a1 a2 h Q) : Mt G (71 + d) 0 0 mX12_isSo [.ref a0, .int a1, .int a2] h (qqb Q) := by
  have k := (rs_X12s G 64 d) a0 a1 a2 h Q ok0 hwp
  rw [show 7 + 64 + d = 71 + d by omega] at k
  exact k

theorem dX12_holds_0 : decode cX12_holds 0 = .ok (.aload_n 0, 1) := by decide +kernel
theorem dX12_holds_1 : decode cX12_holds 1 = .ok (.iconst 0, 1) := by decide +kernel
theorem dX12_holds_2 : decode cX12_holds 2 = .ok (.putfield 75, 3) := by decide +kernel
theorem dX12_holds_5 : decode cX12_holds 5 = .ok (.aload_n 0, 1) := by decide +kernel
theorem dX12_holds_6 : decode cX12_holds 6 = .ok (.invokevirtual 217, 3) := by decide +kernel
theorem dX12_holds_9 : decode cX12_holds 9 = .ok (.aload_n 0, 1) := by decide +kernel
theorem dX12_holds_10 : decode cX12_holds 10 = .ok (.getfield 360, 3) := by decide +kernel
theorem dX12_holds_13 : decode cX12_holds 13 = .ok (.ifCond .ne 5, 3) := by decide +kernel
theorem dX12_holds_16 : decode cX12_holds 16 = .ok (.iconst (-1), 1) := by decide +kernel
theorem dX12_holds_17 : decode cX12_holds 17 = .ok (.ireturn, 1) := by decide +kernel
theorem dX12_holds_18 : decode cX12_holds 18 = .ok (.aload_n 0, 1) := by decide +kernel
theorem dX12_holds_19 : decode cX12_holds 19 = .ok (.getfield 360, 3) := by decide +kernel
theorem dX12_holds_22 : decode cX12_holds 22 = .ok (.iconst 3, 1) := by decide +kernel
theorem dX12_holds_23 : decode cX12_holds 23 = .ok (.if_icmp .ne 21, 3) := by decide +kernel
theorem dX12_holds_26 : decode cX12_holds 26 = .ok (.aload_n 0, 1) := by decide +kernel
theorem dX12_holds_27 : decode cX12_holds 27 = .ok (.aload_n 0, 1) := by decide +kernel
theorem dX12_holds_28 : decode cX12_holds 28 = .ok (.getfield 363, 3) := by decide +kernel
theorem dX12_holds_31 : decode cX12_holds 31 = .ok (.iconst (-1), 1) := by decide +kernel
theorem dX12_holds_32 : decode cX12_holds 32 = .ok (.invokevirtual 372, 3) := by decide +kernel
theorem dX12_holds_35 : decode cX12_holds 35 = .ok (.ifCond .eq 7, 3) := by decide +kernel
theorem dX12_holds_38 : decode cX12_holds 38 = .ok (.iconst 1, 1) := by decide +kernel
theorem dX12_holds_39 : decode cX12_holds 39 = .ok (.goto 4, 3) := by decide +kernel
theorem dX12_holds_42 : decode cX12_holds 42 = .ok (.iconst 0, 1) := by decide +kernel
theorem dX12_holds_43 : decode cX12_holds 43 = .ok (.ireturn, 1) := by decide +kernel
theorem dX12_holds_44 : decode cX12_holds 44 = .ok (.iconst 0, 1) := by decide +kernel
theorem dX12_holds_45 : decode cX12_holds 45 = .ok (.istore_n 1, 1) := by decide +kernel
theorem dX12_holds_46 : decode cX12_holds 46 = .ok (.iload_n 1, 1) := by decide +kernel
theorem dX12_holds_47 : decode cX12_holds 47 = .ok (.aload_n 0, 1) := by decide +kernel
theorem dX12_holds_48 : decode cX12_holds 48 = .ok (.getfield 13, 3) := by decide +kernel
theorem dX12_holds_51 : decode cX12_holds 51 = .ok (.iconst 0, 1) := by decide +kernel
theorem dX12_holds_52 : decode cX12_holds 52 = .ok (.iaload, 1) := by decide +kernel
theorem dX12_holds_53 : decode cX12_holds 53 = .ok (.if_icmp .ge 48, 3) := by decide +kernel
theorem dX12_holds_56 : decode cX12_holds 56 = .ok (.aload_n 0, 1) := by decide +kernel
theorem dX12_holds_57 : decode cX12_holds 57 = .ok (.aload_n 0, 1) := by decide +kernel
theorem dX12_holds_58 : decode cX12_holds 58 = .ok (.getfield 363, 3) := by decide +kernel
theorem dX12_holds_61 : decode cX12_holds 61 = .ok (.iload_n 1, 1) := by decide +kernel
theorem dX12_holds_62 : decode cX12_holds 62 = .ok (.invokevirtual 372, 3) := by decide +kernel
theorem dX12_holds_65 : decode cX12_holds 65 = .ok (.aload_n 0, 1) := by decide +kernel
theorem dX12_holds_66 : decode cX12_holds 66 = .ok (.getfield 360, 3) := by decide +kernel
theorem dX12_holds_69 : decode cX12_holds 69 = .ok (.iconst 2, 1) := by decide +kernel
theorem dX12_holds_70 : decode cX12_holds 70 = .ok (.if_icmp .ne 7, 3) := by decide +kernel
theorem dX12_holds_73 : decode cX12_holds 73 = .ok (.iconst 1, 1) := by decide +kernel
theorem dX12_holds_74 : decode cX12_holds 74 = .ok (.goto 4, 3) := by decide +kernel
theorem dX12_holds_77 : decode cX12_holds 77 = .ok (.iconst 0, 1) := by decide +kernel
theorem dX12_holds_78 : decode cX12_holds 78 = .ok (.if_icmp .ne 17, 3) := by decide +kernel
theorem dX12_holds_81 : decode cX12_holds 81 = .ok (.aload_n 0, 1) := by decide +kernel
theorem dX12_holds_82 : decode cX12_holds 82 = .ok (.getfield 360, 3) := by decide +kernel
theorem dX12_holds_85 : decode cX12_holds 85 = .ok (.iconst 2, 1) := by decide +kernel
theorem dX12_holds_86 : decode cX12_holds 86 = .ok (.if_icmp .ne 7, 3) := by decide +kernel
theorem dX12_holds_89 : decode cX12_holds 89 = .ok (.iconst 1, 1) := by decide +kernel
theorem dX12_holds_90 : decode cX12_holds 90 = .ok (.goto 4, 3) := by decide +kernel
theorem dX12_holds_93 : decode cX12_holds 93 = .ok (.iconst 0, 1) := by decide +kernel
theorem dX12_holds_94 : decode cX12_holds 94 = .ok (.ireturn, 1) := by decide +kernel
theorem dX12_holds_95 : decode cX12_holds 95 = .ok (.iinc 1 1, 3) := by decide +kernel
theorem dX12_holds_98 : decode cX12_holds 98 = .ok (.goto (-52), 3) := by decide +kernel
theorem dX12_holds_101 : decode cX12_holds 101 = .ok (.aload_n 0, 1) := by decide +kernel
theorem dX12_holds_102 : decode cX12_holds 102 = .ok (.getfield 360, 3) := by decide +kernel
theorem dX12_holds_105 : decode cX12_holds 105 = .ok (.iconst 2, 1) := by decide +kernel
theorem dX12_holds_106 : decode cX12_holds 106 = .ok (.if_icmp .ne 7, 3) := by decide +kernel
theorem dX12_holds_109 : decode cX12_holds 109 = .ok (.iconst 0, 1) := by decide +kernel
theorem dX12_holds_110 : decode cX12_holds 110 = .ok (.goto 4, 3) := by decide +kernel
theorem dX12_holds_113 : decode cX12_holds 113 = .ok (.iconst 1, 1) := by decide +kernel
theorem dX12_holds_114 : decode cX12_holds 114 = .ok (.ireturn, 1) := by decide +kernel
def E_X12_holds_46 (G : GT) (d : Nat) (h0 hb : PH) (l0 : Nat) (Q : Int32 → PH → Prop) (s : Int32 × PH) : Prop := qEx hb s.2 ∧ qn s.2 = qn hb ∧ qz s.2 = qz hb → Ex G (qrm (72 + d) 0 0) mX12_holds (qn h0) (qz h0) (ZN G h0 0 0 (qqi Q)) 46 [(0, .ref l0), (1, .int s.1)] [] s.2
def wp_X12_holds_78 (l0 : Nat) (l1 : Int32) (s0 : Int32) (s1 : Int32) (bk46 : Int32 × PH → Prop) (h : PH) (Q : Int32 → PH → Prop) : Prop := ((¬ s1 = s0 → ∀ v18 : Int32, v18 = l1 + 1 → bk46 (v18, h)) ∧ (s1 = s0 → ((¬ (qI h l0 44) = 2 → Q 0 h) ∧ ((qI h l0 44) = 2 → Q 1 h))))
set_option maxHeartbeats 4000000 in
set_option maxRecDepth 100000 in
theorem sg_X12_holds_78 (G : GT) (d : Nat) (h0 : PH) (l0 : Nat) (l1 : Int32) (s0 : Int32) (s1 : Int32) (h : PH) (Q : Int32 → PH → Prop) (hb46 : PH) (bk46 : Int32 × PH → Prop) (hbk46 : ∀ s2, bk46 s2 → E_X12_holds_46 G d h0 hb46 l0 Q s2) (hx46 : qEx hb46 h) (hn46 : qn h = qn hb46) (hz46 : qz h = qz hb46) (hex : qEx h0 h) (hnn : qn h = qn h0 + 0) (hzz : qz h = qz h0 + 0) (okl0 : qOK h 11 l0) (hwp : wp_X12_holds_78 l0 l1 s0 s1 bk46 h Q) : Ex G (qrm (72 + d) 0 0) mX12_holds (qn h0) (qz h0) (ZN G h0 0 0 (qqi Q)) 78 [(0, .ref l0), (1, .int l1)] [.int s0, .int s1] h := by
  unfold wp_X12_holds_78 at hwp
  refine x_icmp_ne (tgt := 95) (pc := 78) dX12_holds_78 (by decide) (fun c17 => ?_) (fun c17 => ?_)
  · have hwp := hwp.1 c17
    refine y_iinc (c := 1) (pc := 95) dX12_holds_95 rfl (by decide) (by decide) (fun v18 ev18 => ?_)
    have hwp := hwp v18 ev18
    refine x_lvE (lv2 := [(1, .int v18), (0, .ref l0)]) rfl ?_
    refine x_goto (tgt := 46) (pc := 98) dX12_holds_98 (by decide) ?_
    refine x_sub [1, 0] rfl ?_
    exact hbk46 _ hwp ⟨hx46, hn46, hz46⟩
  · have hwp := hwp.2 c17
    refine x_aload_n (pc := 81) dX12_holds_81 rfl ?_
    refine x_getI (pc := 82) dX12_holds_82 qRX12_360 okl0 (by decide) ?_
    refine x_iconst (v := 2) (pc := 85) dX12_holds_85 (by decide) ?_
    refine x_icmp_ne (tgt := 93) (pc := 86) dX12_holds_86 (by decide) (fun c19 => ?_) (fun c19 => ?_)
    · have hwp := hwp.1 c19
      refine x_iconst (v := 0) (pc := 93) dX12_holds_93 (by decide) ?_
      exact x_iret (pc := 94) dX12_holds_94 rfl hex hnn hzz ⟨_, rfl, hwp⟩
    · have hwp := hwp.2 c19
      refine x_iconst (v := 1) (pc := 89) dX12_holds_89 (by decide) ?_
      refine x_goto (tgt := 94) (pc := 90) dX12_holds_90 (by decide) ?_
      exact x_iret (pc := 94) dX12_holds_94 rfl hex hnn hzz ⟨_, rfl, hwp⟩
def wb_X12_holds_46 (l0 : Nat)  (Q : Int32 → PH → Prop) (bk46 : Int32 × PH → Prop) (l1 : Int32) (h : PH) : Prop := (∃ b9, qR h l0 14 = some b9 ∧ (vp_in 0 (qL h b9) ∧ (((qI h b9 (0 : Int32).toNatClampNeg) ≤ l1 → ((¬ (qI h l0 44) = 2 → Q 1 h) ∧ ((qI h l0 44) = 2 → Q 0 h))) ∧ (¬ ((qI h b9 (0 : Int32).toNatClampNeg) ≤ l1) → (wp_X12_isSoR l0 (qI h l0 45) l1 h (fun r15 h14 => ((¬ (qI h14 l0 44) = 2 → (wp_X12_holds_78 l0 l1 0 r15 bk46 h14 Q)) ∧ ((qI h14 l0 44) = 2 → (wp_X12_holds_78 l0 l1 1 r15 bk46 h14 Q)))))))))
def wp_X12_holds_46 (l0 : Nat)  (Q : Int32 → PH → Prop) (bk46 : Int32 × PH → Prop) (s : Int32 × PH) : Prop := wb_X12_holds_46 l0 Q bk46 s.1 s.2
set_option maxHeartbeats 4000000 in
set_option maxRecDepth 100000 in
theorem bd_X12_holds_46 (G : GT) (d : Nat) (h0 hb : PH) (l0 : Nat) (Q : Int32 → PH → Prop)  (hex : qEx h0 hb) (hnn : qn hb = qn h0 + 0) (hzz : qz hb = qz h0 + 0) (okl0 : qOK hb 11 l0) (bk46 : Int32 × PH → Prop) (hbk46 : ∀ s2, bk46 s2 → E_X12_holds_46 G d h0 hb l0 Q s2) (l1 : Int32) (h : PH) (hwp : wb_X12_holds_46 l0 Q bk46 l1 h) (hx46 : qEx hb h) (hn46 : qn h = qn hb) (hz46 : qz h = qz hb) : Ex G (qrm (72 + d) 0 0) mX12_holds (qn h0) (qz h0) (ZN G h0 0 0 (qqi Q)) 46 [(0, .ref l0), (1, .int l1)] [] h := by
  unfold wb_X12_holds_46 at hwp
  have hex := hex.tr hx46
  have hnn := hn46.trans hnn
  have hzz := hz46.trans hzz
  have okl0 := okl0.ex hx46
  refine x_iload_n (pc := 46) dX12_holds_46 rfl ?_
  refine x_aload_n (pc := 47) dX12_holds_47 rfl ?_
  obtain ⟨b9, e10, hwp⟩ := hwp
  refine x_getR (pc := 48) dX12_holds_48 qRX12_13 okl0 e10 (fun okb9 => ?_)
  refine x_iconst (v := 0) (pc := 51) dX12_holds_51 (by decide) ?_
  obtain ⟨i11, hwp⟩ := hwp
  refine x_iaload (pc := 52) dX12_holds_52 okb9 i11 ?_
  refine x_icmp_ge (tgt := 101) (pc := 53) dX12_holds_53 (by decide) (fun c12 => ?_) (fun c12 => ?_)
  · have hwp := hwp.1 c12
    refine x_aload_n (pc := 101) dX12_holds_101 rfl ?_
    refine x_getI (pc := 102) dX12_holds_102 qRX12_360 okl0 (by decide) ?_
    refine x_iconst (v := 2) (pc := 105) dX12_holds_105 (by decide) ?_
    refine x_icmp_ne (tgt := 113) (pc := 106) dX12_holds_106 (by decide) (fun c13 => ?_) (fun c13 => ?_)
    · have hwp := hwp.1 c13
      refine x_iconst (v := 1) (pc := 113) dX12_holds_113 (by decide) ?_
      exact x_iret (pc := 114) dX12_holds_114 rfl hex hnn hzz ⟨_, rfl, hwp⟩
    · have hwp := hwp.2 c13
      refine x_iconst (v := 0) (pc := 109) dX12_holds_109 (by decide) ?_
      refine x_goto (tgt := 114) (pc := 110) dX12_holds_110 (by decide) ?_
      exact x_iret (pc := 114) dX12_holds_114 rfl hex hnn hzz ⟨_, rfl, hwp⟩
  · have hwp := hwp.2 c12
    refine x_aload_n (pc := 56) dX12_holds_56 rfl ?_
    refine x_aload_n (pc := 57) dX12_holds_57 rfl ?_
    refine x_getI (pc := 58) dX12_holds_58 qRX12_363 okl0 (by decide) ?_
    refine x_iload_n (pc := 61) dX12_holds_61 rfl ?_
    refine x_invV (As := [.int (qI h l0 45), .int l1]) (st := []) (pc := 62) dX12_holds_62 lRX12_372 fX12_isSo vX12_isSo okl0 rfl (Nat.le_of_ble_eq_true rfl) (q_R (by omega) (by decide)) (q_C hnn hzz (by decide) (by decide)) (sn_X12_isSoR G (d + 0) l0 (qI h l0 45) l1 h _ okl0 hwp) (k_b (fun r15 h14 hwp zbr15 cxh14 => ?_))
    have hex := hex.tr cxh14.1
    have hnn : qn h14 = qn h0 + 0 := by have := cxh14.2.1; omega
    have hzz : qz h14 = qz h0 + 0 := by have := cxh14.2.2; omega
    have hx46 := hx46.tr cxh14.1
    have hn46 : qn h14 = qn hb := by have := cxh14.2.1; omega
    have hz46 : qz h14 = qz hb := by have := cxh14.2.2; omega
    have okl0 := okl0.ex cxh14.1
    have okb9 := okb9.ex cxh14.1
    refine x_aload_n (pc := 65) dX12_holds_65 rfl ?_
    refine x_getI (pc := 66) dX12_holds_66 qRX12_360 okl0 (by decide) ?_
    refine x_iconst (v := 2) (pc := 69) dX12_holds_69 (by decide) ?_
    refine x_icmp_ne (tgt := 77) (pc := 70) dX12_holds_70 (by decide) (fun c16 => ?_) (fun c16 => ?_)
    · have hwp := hwp.1 c16
      refine x_iconst (v := 0) (pc := 77) dX12_holds_77 (by decide) ?_
      refine x_sub [0, 1] rfl ?_
      exact sg_X12_holds_78 G d h0 l0 l1 0 r15 h14 Q hb bk46 hbk46 hx46 hn46 hz46 hex hnn hzz okl0 hwp
    · have hwp := hwp.2 c16
      refine x_iconst (v := 1) (pc := 73) dX12_holds_73 (by decide) ?_
      refine x_goto (tgt := 78) (pc := 74) dX12_holds_74 (by decide) ?_
      refine x_sub [0, 1] rfl ?_
      exact sg_X12_holds_78 G d h0 l0 l1 1 r15 h14 Q hb bk46 hbk46 hx46 hn46 hz46 hex hnn hzz okl0 hwp
theorem lp_X12_holds_46 (G : GT) (d : Nat) (h0 hb : PH) (l0 : Nat) (Q : Int32 → PH → Prop)  (hex : qEx h0 hb) (hnn : qn hb = qn h0 + 0) (hzz : qz hb = qz h0 + 0) (okl0 : qOK hb 11 l0) {s : Int32 × PH} (hwp : qLoop (wp_X12_holds_46 l0 Q) s) : E_X12_holds_46 G d h0 hb l0 Q s :=
  qLoop.use (E := E_X12_holds_46 G d h0 hb l0 Q) (fun back s hbk hw hx => bd_X12_holds_46 G d h0 hb l0 Q hex hnn hzz okl0 back hbk s.1 s.2 hw hx.1 hx.2.1 hx.2.2) hwp
def wp_X12_holds (l0 : Nat) (h : PH) (Q : Int32 → PH → Prop) : Prop := (∀ h1, h1 = qsI h l0 0 0 → (wp_X12_lay l0 h1 (fun h2 => ((¬ (qI h2 l0 44) = 0 → ((¬ (qI h2 l0 44) = 3 → (qLoop (wp_X12_holds_46 l0 Q) (0, h2))) ∧ ((qI h2 l0 44) = 3 → (wp_X12_isSoR l0 (qI h2 l0 45) (-1) h2 (fun r7 h6 => ((r7 = 0 → Q 0 h6) ∧ (¬ (r7 = 0) → Q 1 h6))))))) ∧ ((qI h2 l0 44) = 0 → Q (-1) h2)))))
set_option maxHeartbeats 4000000 in
set_option maxRecDepth 100000 in
theorem sn_X12_holds (G : GT) (d : Nat) (l0 : Nat) (h : PH) (Q : Int32 → PH → Prop) (okl0 : qOK h 11 l0) (hwp : wp_X12_holds l0 h Q) : Mt G (72 + d) 0 0 mX12_holds [.ref l0] h (qqi Q) := by
  unfold wp_X12_holds at hwp
  refine Mt.of (by decide) rfl (Nat.le_of_ble_eq_true rfl) ?_
  have hex := qEx.rf h
  have hnn : qn h = qn h + 0 := rfl
  have hzz : qz h = qz h + 0 := rfl
  refine x_lvE (lv2 := [(0, .ref l0)]) rfl ?_
  refine x_aload_n (pc := 0) dX12_holds_0 rfl ?_
  refine x_iconst (v := 0) (pc := 1) dX12_holds_1 (by decide) ?_
  refine y_putI (pc := 2) dX12_holds_2 qRX12_75 okl0 (fun h1 eh1 nxh1 => ?_)
  have hwp := hwp h1 eh1
  have hex := hex.tr nxh1.1
  have hnn := nxh1.2.1.trans hnn
  have hzz := nxh1.2.2.trans hzz
  have okl0 := okl0.ex nxh1.1
  refine x_aload_n (pc := 5) dX12_holds_5 rfl ?_
  refine x_invV (As := []) (st := []) (pc := 6) dX12_holds_6 lRX12_217 fX12_lay vX12_lay okl0 rfl (Nat.le_of_ble_eq_true rfl) (q_R (by omega) (by decide)) (q_C hnn hzz (by decide) (by decide)) (sn_X12_lay G (d + 71) l0 h1 _ okl0 hwp) (k_v (fun h2 hwp cxh2 => ?_))
  have hex := hex.tr cxh2.1
  have hnn : qn h2 = qn h + 0 := by have := cxh2.2.1; omega
  have hzz : qz h2 = qz h + 0 := by have := cxh2.2.2; omega
  have okl0 := okl0.ex cxh2.1
  refine x_aload_n (pc := 9) dX12_holds_9 rfl ?_
  refine x_getI (pc := 10) dX12_holds_10 qRX12_360 okl0 (by decide) ?_
  refine x_if_ne (tgt := 18) (pc := 13) dX12_holds_13 (by decide) (fun c4 => ?_) (fun c4 => ?_)
  · have hwp := hwp.1 c4
    refine x_aload_n (pc := 18) dX12_holds_18 rfl ?_
    refine x_getI (pc := 19) dX12_holds_19 qRX12_360 okl0 (by decide) ?_
    refine x_iconst (v := 3) (pc := 22) dX12_holds_22 (by decide) ?_
    refine x_icmp_ne (tgt := 44) (pc := 23) dX12_holds_23 (by decide) (fun c5 => ?_) (fun c5 => ?_)
    · have hwp := hwp.1 c5
      refine x_iconst (v := 0) (pc := 44) dX12_holds_44 (by decide) ?_
      refine x_istore_n (lv2 := [(1, .int 0), (0, .ref l0)]) (pc := 45) dX12_holds_45 (by decide) rfl ?_
      refine x_sub [1, 0] rfl ?_
      exact lp_X12_holds_46 G d h h2 l0 Q hex hnn hzz okl0 hwp ⟨qEx.rf _, rfl, rfl⟩
    · have hwp := hwp.2 c5
      refine x_aload_n (pc := 26) dX12_holds_26 rfl ?_
      refine x_aload_n (pc := 27) dX12_holds_27 rfl ?_
      refine x_getI (pc := 28) dX12_holds_28 qRX12_363 okl0 (by decide) ?_
      refine x_iconst (v := (-1)) (pc := 31) dX12_holds_31 (by decide) ?_
      refine x_invV (As := [.int (qI h2 l0 45), .int (-1)]) (st := []) (pc := 32) dX12_holds_32 lRX12_372 fX12_isSo vX12_isSo okl0 rfl (Nat.le_of_ble_eq_true rfl) (q_R (by omega) (by decide)) (q_C hnn hzz (by decide) (by decide)) (sn_X12_isSoR G (d + 0) l0 (qI h2 l0 45) (-1) h2 _ okl0 hwp) (k_b (fun r7 h6 hwp zbr7 cxh6 => ?_))
      have hex := hex.tr cxh6.1
      have hnn : qn h6 = qn h + 0 := by have := cxh6.2.1; omega
      have hzz : qz h6 = qz h + 0 := by have := cxh6.2.2; omega
      have okl0 := okl0.ex cxh6.1
      refine x_if_eq (tgt := 42) (pc := 35) dX12_holds_35 (by decide) (fun c8 => ?_) (fun c8 => ?_)
      · have hwp := hwp.1 c8
        refine x_iconst (v := 0) (pc := 42) dX12_holds_42 (by decide) ?_
        exact x_iret (pc := 43) dX12_holds_43 rfl hex hnn hzz ⟨_, rfl, hwp⟩
      · have hwp := hwp.2 c8
        refine x_iconst (v := 1) (pc := 38) dX12_holds_38 (by decide) ?_
        refine x_goto (tgt := 43) (pc := 39) dX12_holds_39 (by decide) ?_
        exact x_iret (pc := 43) dX12_holds_43 rfl hex hnn hzz ⟨_, rfl, hwp⟩
  · have hwp := hwp.2 c4
    refine x_iconst (v := (-1)) (pc := 16) dX12_holds_16 (by decide) ?_
    exact x_iret (pc := 17) dX12_holds_17 rfl hex hnn hzz ⟨_, rfl, hwp⟩

theorem dX12_where_0 : decode cX12_where 0 = .ok (.aload_n 0, 1) := by decide +kernel
theorem dX12_where_1 : decode cX12_where 1 = .ok (.iconst 0, 1) := by decide +kernel
theorem dX12_where_2 : decode cX12_where 2 = .ok (.putfield 75, 3) := by decide +kernel
theorem dX12_where_5 : decode cX12_where 5 = .ok (.aload_n 0, 1) := by decide +kernel
theorem dX12_where_6 : decode cX12_where 6 = .ok (.invokevirtual 217, 3) := by decide +kernel
theorem dX12_where_9 : decode cX12_where 9 = .ok (.aload_n 0, 1) := by decide +kernel
theorem dX12_where_10 : decode cX12_where 10 = .ok (.getfield 360, 3) := by decide +kernel
theorem dX12_where_13 : decode cX12_where 13 = .ok (.iconst 1, 1) := by decide +kernel
theorem dX12_where_14 : decode cX12_where 14 = .ok (.if_icmp .eq 5, 3) := by decide +kernel
theorem dX12_where_17 : decode cX12_where 17 = .ok (.iconst (-1), 1) := by decide +kernel
theorem dX12_where_18 : decode cX12_where 18 = .ok (.ireturn, 1) := by decide +kernel
theorem dX12_where_19 : decode cX12_where 19 = .ok (.iconst 0, 1) := by decide +kernel
theorem dX12_where_20 : decode cX12_where 20 = .ok (.istore_n 1, 1) := by decide +kernel
theorem dX12_where_21 : decode cX12_where 21 = .ok (.iload_n 1, 1) := by decide +kernel
theorem dX12_where_22 : decode cX12_where 22 = .ok (.aload_n 0, 1) := by decide +kernel
theorem dX12_where_23 : decode cX12_where 23 = .ok (.getfield 13, 3) := by decide +kernel
theorem dX12_where_26 : decode cX12_where 26 = .ok (.iconst 0, 1) := by decide +kernel
theorem dX12_where_27 : decode cX12_where 27 = .ok (.iaload, 1) := by decide +kernel
theorem dX12_where_28 : decode cX12_where 28 = .ok (.if_icmp .ge 23, 3) := by decide +kernel
theorem dX12_where_31 : decode cX12_where 31 = .ok (.aload_n 0, 1) := by decide +kernel
theorem dX12_where_32 : decode cX12_where 32 = .ok (.aload_n 0, 1) := by decide +kernel
theorem dX12_where_33 : decode cX12_where 33 = .ok (.getfield 363, 3) := by decide +kernel
theorem dX12_where_36 : decode cX12_where 36 = .ok (.iload_n 1, 1) := by decide +kernel
theorem dX12_where_37 : decode cX12_where 37 = .ok (.invokevirtual 372, 3) := by decide +kernel
theorem dX12_where_40 : decode cX12_where 40 = .ok (.ifCond .ne 5, 3) := by decide +kernel
theorem dX12_where_43 : decode cX12_where 43 = .ok (.iload_n 1, 1) := by decide +kernel
theorem dX12_where_44 : decode cX12_where 44 = .ok (.ireturn, 1) := by decide +kernel
theorem dX12_where_45 : decode cX12_where 45 = .ok (.iinc 1 1, 3) := by decide +kernel
theorem dX12_where_48 : decode cX12_where 48 = .ok (.goto (-27), 3) := by decide +kernel
theorem dX12_where_51 : decode cX12_where 51 = .ok (.iconst (-1), 1) := by decide +kernel
theorem dX12_where_52 : decode cX12_where 52 = .ok (.ireturn, 1) := by decide +kernel
def E_X12_where_21 (G : GT) (d : Nat) (h0 hb : PH) (l0 : Nat) (Q : Int32 → PH → Prop) (s : Int32 × PH) : Prop := qEx hb s.2 ∧ qn s.2 = qn hb ∧ qz s.2 = qz hb → Ex G (qrm (72 + d) 0 0) mX12_where (qn h0) (qz h0) (ZN G h0 0 0 (qqi Q)) 21 [(0, .ref l0), (1, .int s.1)] [] s.2
def wb_X12_where_21 (l0 : Nat)  (Q : Int32 → PH → Prop) (bk21 : Int32 × PH → Prop) (l1 : Int32) (h : PH) : Prop := (∃ b5, qR h l0 14 = some b5 ∧ (vp_in 0 (qL h b5) ∧ (((qI h b5 (0 : Int32).toNatClampNeg) ≤ l1 → Q (-1) h) ∧ (¬ ((qI h b5 (0 : Int32).toNatClampNeg) ≤ l1) → (wp_X12_isSoR l0 (qI h l0 45) l1 h (fun r10 h9 => ((¬ r10 = 0 → ∀ v12 : Int32, v12 = l1 + 1 → bk21 (v12, h9)) ∧ (r10 = 0 → Q l1 h9))))))))
def wp_X12_where_21 (l0 : Nat)  (Q : Int32 → PH → Prop) (bk21 : Int32 × PH → Prop) (s : Int32 × PH) : Prop := wb_X12_where_21 l0 Q bk21 s.1 s.2
set_option maxHeartbeats 4000000 in
set_option maxRecDepth 100000 in
theorem bd_X12_where_21 (G : GT) (d : Nat) (h0 hb : PH) (l0 : Nat) (Q : Int32 → PH → Prop)  (hex : qEx h0 hb) (hnn : qn hb = qn h0 + 0) (hzz : qz hb = qz h0 + 0) (okl0 : qOK hb 11 l0) (bk21 : Int32 × PH → Prop) (hbk21 : ∀ s2, bk21 s2 → E_X12_where_21 G d h0 hb l0 Q s2) (l1 : Int32) (h : PH) (hwp : wb_X12_where_21 l0 Q bk21 l1 h) (hx21 : qEx hb h) (hn21 : qn h = qn hb) (hz21 : qz h = qz hb) : Ex G (qrm (72 + d) 0 0) mX12_where (qn h0) (qz h0) (ZN G h0 0 0 (qqi Q)) 21 [(0, .ref l0), (1, .int l1)] [] h := by
  unfold wb_X12_where_21 at hwp
  have hex := hex.tr hx21
  have hnn := hn21.trans hnn
  have hzz := hz21.trans hzz
  have okl0 := okl0.ex hx21
  refine x_iload_n (pc := 21) dX12_where_21 rfl ?_
  refine x_aload_n (pc := 22) dX12_where_22 rfl ?_
  obtain ⟨b5, e6, hwp⟩ := hwp
  refine x_getR (pc := 23) dX12_where_23 qRX12_13 okl0 e6 (fun okb5 => ?_)
  refine x_iconst (v := 0) (pc := 26) dX12_where_26 (by decide) ?_
  obtain ⟨i7, hwp⟩ := hwp
  refine x_iaload (pc := 27) dX12_where_27 okb5 i7 ?_
  refine x_icmp_ge (tgt := 51) (pc := 28) dX12_where_28 (by decide) (fun c8 => ?_) (fun c8 => ?_)
  · have hwp := hwp.1 c8
    refine x_iconst (v := (-1)) (pc := 51) dX12_where_51 (by decide) ?_
    exact x_iret (pc := 52) dX12_where_52 rfl hex hnn hzz ⟨_, rfl, hwp⟩
  · have hwp := hwp.2 c8
    refine x_aload_n (pc := 31) dX12_where_31 rfl ?_
    refine x_aload_n (pc := 32) dX12_where_32 rfl ?_
    refine x_getI (pc := 33) dX12_where_33 qRX12_363 okl0 (by decide) ?_
    refine x_iload_n (pc := 36) dX12_where_36 rfl ?_
    refine x_invV (As := [.int (qI h l0 45), .int l1]) (st := []) (pc := 37) dX12_where_37 lRX12_372 fX12_isSo vX12_isSo okl0 rfl (Nat.le_of_ble_eq_true rfl) (q_R (by omega) (by decide)) (q_C hnn hzz (by decide) (by decide)) (sn_X12_isSoR G (d + 0) l0 (qI h l0 45) l1 h _ okl0 hwp) (k_b (fun r10 h9 hwp zbr10 cxh9 => ?_))
    have hex := hex.tr cxh9.1
    have hnn : qn h9 = qn h0 + 0 := by have := cxh9.2.1; omega
    have hzz : qz h9 = qz h0 + 0 := by have := cxh9.2.2; omega
    have hx21 := hx21.tr cxh9.1
    have hn21 : qn h9 = qn hb := by have := cxh9.2.1; omega
    have hz21 : qz h9 = qz hb := by have := cxh9.2.2; omega
    have okl0 := okl0.ex cxh9.1
    have okb5 := okb5.ex cxh9.1
    refine x_if_ne (tgt := 45) (pc := 40) dX12_where_40 (by decide) (fun c11 => ?_) (fun c11 => ?_)
    · have hwp := hwp.1 c11
      refine y_iinc (c := 1) (pc := 45) dX12_where_45 rfl (by decide) (by decide) (fun v12 ev12 => ?_)
      have hwp := hwp v12 ev12
      refine x_lvE (lv2 := [(1, .int v12), (0, .ref l0)]) rfl ?_
      refine x_goto (tgt := 21) (pc := 48) dX12_where_48 (by decide) ?_
      refine x_sub [1, 0] rfl ?_
      exact hbk21 _ hwp ⟨hx21, hn21, hz21⟩
    · have hwp := hwp.2 c11
      refine x_iload_n (pc := 43) dX12_where_43 rfl ?_
      exact x_iret (pc := 44) dX12_where_44 rfl hex hnn hzz ⟨_, rfl, hwp⟩
theorem lp_X12_where_21 (G : GT) (d : Nat) (h0 hb : PH) (l0 : Nat) (Q : Int32 → PH → Prop)  (hex : qEx h0 hb) (hnn : qn hb = qn h0 + 0) (hzz : qz hb = qz h0 + 0) (okl0 : qOK hb 11 l0) {s : Int32 × PH} (hwp : qLoop (wp_X12_where_21 l0 Q) s) : E_X12_where_21 G d h0 hb l0 Q s :=
  qLoop.use (E := E_X12_where_21 G d h0 hb l0 Q) (fun back s hbk hw hx => bd_X12_where_21 G d h0 hb l0 Q hex hnn hzz okl0 back hbk s.1 s.2 hw hx.1 hx.2.1 hx.2.2) hwp
def wp_X12_where (l0 : Nat) (h : PH) (Q : Int32 → PH → Prop) : Prop := (∀ h1, h1 = qsI h l0 0 0 → (wp_X12_lay l0 h1 (fun h2 => (((qI h2 l0 44) = 1 → (qLoop (wp_X12_where_21 l0 Q) (0, h2))) ∧ (¬ ((qI h2 l0 44) = 1) → Q (-1) h2)))))
set_option maxHeartbeats 4000000 in
set_option maxRecDepth 100000 in
theorem sn_X12_where (G : GT) (d : Nat) (l0 : Nat) (h : PH) (Q : Int32 → PH → Prop) (okl0 : qOK h 11 l0) (hwp : wp_X12_where l0 h Q) : Mt G (72 + d) 0 0 mX12_where [.ref l0] h (qqi Q) := by
  unfold wp_X12_where at hwp
  refine Mt.of (by decide) rfl (Nat.le_of_ble_eq_true rfl) ?_
  have hex := qEx.rf h
  have hnn : qn h = qn h + 0 := rfl
  have hzz : qz h = qz h + 0 := rfl
  refine x_lvE (lv2 := [(0, .ref l0)]) rfl ?_
  refine x_aload_n (pc := 0) dX12_where_0 rfl ?_
  refine x_iconst (v := 0) (pc := 1) dX12_where_1 (by decide) ?_
  refine y_putI (pc := 2) dX12_where_2 qRX12_75 okl0 (fun h1 eh1 nxh1 => ?_)
  have hwp := hwp h1 eh1
  have hex := hex.tr nxh1.1
  have hnn := nxh1.2.1.trans hnn
  have hzz := nxh1.2.2.trans hzz
  have okl0 := okl0.ex nxh1.1
  refine x_aload_n (pc := 5) dX12_where_5 rfl ?_
  refine x_invV (As := []) (st := []) (pc := 6) dX12_where_6 lRX12_217 fX12_lay vX12_lay okl0 rfl (Nat.le_of_ble_eq_true rfl) (q_R (by omega) (by decide)) (q_C hnn hzz (by decide) (by decide)) (sn_X12_lay G (d + 71) l0 h1 _ okl0 hwp) (k_v (fun h2 hwp cxh2 => ?_))
  have hex := hex.tr cxh2.1
  have hnn : qn h2 = qn h + 0 := by have := cxh2.2.1; omega
  have hzz : qz h2 = qz h + 0 := by have := cxh2.2.2; omega
  have okl0 := okl0.ex cxh2.1
  refine x_aload_n (pc := 9) dX12_where_9 rfl ?_
  refine x_getI (pc := 10) dX12_where_10 qRX12_360 okl0 (by decide) ?_
  refine x_iconst (v := 1) (pc := 13) dX12_where_13 (by decide) ?_
  refine x_icmp_eq (tgt := 19) (pc := 14) dX12_where_14 (by decide) (fun c4 => ?_) (fun c4 => ?_)
  · have hwp := hwp.1 c4
    refine x_iconst (v := 0) (pc := 19) dX12_where_19 (by decide) ?_
    refine x_istore_n (lv2 := [(1, .int 0), (0, .ref l0)]) (pc := 20) dX12_where_20 (by decide) rfl ?_
    refine x_sub [1, 0] rfl ?_
    exact lp_X12_where_21 G d h h2 l0 Q hex hnn hzz okl0 hwp ⟨qEx.rf _, rfl, rfl⟩
  · have hwp := hwp.2 c4
    refine x_iconst (v := (-1)) (pc := 17) dX12_where_17 (by decide) ?_
    exact x_iret (pc := 18) dX12_where_18 rfl hex hnn hzz ⟨_, rfl, hwp⟩

theorem dX12_value_0 : decode cX12_value 0 = .ok (.iload_n 1, 1) := by decide +kernel
theorem dX12_value_1 : decode cX12_value 1 = .ok (.iconst 0, 1) := by decide +kernel
theorem dX12_value_2 : decode cX12_value 2 = .ok (.bipush 7, 2) := by decide +kernel
theorem dX12_value_4 : decode cX12_value 4 = .ok (.invokestatic 139, 3) := by decide +kernel
theorem dX12_value_7 : decode cX12_value 7 = .ok (.ifCond .eq 16, 3) := by decide +kernel
theorem dX12_value_10 : decode cX12_value 10 = .ok (.iload_n 2, 1) := by decide +kernel
theorem dX12_value_11 : decode cX12_value 11 = .ok (.iconst (-1), 1) := by decide +kernel
theorem dX12_value_12 : decode cX12_value 12 = .ok (.if_icmp .eq 16, 3) := by decide +kernel
theorem dX12_value_15 : decode cX12_value 15 = .ok (.aload_n 0, 1) := by decide +kernel
theorem dX12_value_16 : decode cX12_value 16 = .ok (.iload_n 2, 1) := by decide +kernel
theorem dX12_value_17 : decode cX12_value 17 = .ok (.invokevirtual 259, 3) := by decide +kernel
theorem dX12_value_20 : decode cX12_value 20 = .ok (.ifCond .ne 8, 3) := by decide +kernel
theorem dX12_value_23 : decode cX12_value 23 = .ok (.aload_n 0, 1) := by decide +kernel
theorem dX12_value_24 : decode cX12_value 24 = .ok (.invokevirtual 262, 3) := by decide +kernel
theorem dX12_value_27 : decode cX12_value 27 = .ok (.ireturn, 1) := by decide +kernel
theorem dX12_value_28 : decode cX12_value 28 = .ok (.aload_n 0, 1) := by decide +kernel
theorem dX12_value_29 : decode cX12_value 29 = .ok (.iconst 0, 1) := by decide +kernel
theorem dX12_value_30 : decode cX12_value 30 = .ok (.putfield 75, 3) := by decide +kernel
theorem dX12_value_33 : decode cX12_value 33 = .ok (.aload_n 0, 1) := by decide +kernel
theorem dX12_value_34 : decode cX12_value 34 = .ok (.invokevirtual 217, 3) := by decide +kernel
theorem dX12_value_37 : decode cX12_value 37 = .ok (.aload_n 0, 1) := by decide +kernel
theorem dX12_value_38 : decode cX12_value 38 = .ok (.iload_n 1, 1) := by decide +kernel
theorem dX12_value_39 : decode cX12_value 39 = .ok (.iload_n 2, 1) := by decide +kernel
theorem dX12_value_40 : decode cX12_value 40 = .ok (.invokevirtual 369, 3) := by decide +kernel
theorem dX12_value_43 : decode cX12_value 43 = .ok (.ireturn, 1) := by decide +kernel
def wp_X12_value (l0 : Nat) (l1 : Int32) (l2 : Int32) (h : PH) (Q : Int32 → PH → Prop) : Prop := (wp_X12_isIn l1 0 7 h (fun r2 h1 => ((r2 = 0 → (wp_X12_refuse l0 h1 (fun r5 h4 => Q r5 h4))) ∧ (¬ (r2 = 0) → ((l2 = (-1) → (∀ h7, h7 = qsI h1 l0 0 0 → (wp_X12_lay l0 h7 (fun h8 => (wp_X12_valued l0 l1 l2 h8 (fun r11 h10 => Q r11 h10)))))) ∧ (¬ (l2 = (-1)) → (wp_X12_isTime l0 l2 h1 (fun r13 h12 => ((¬ r13 = 0 → (∀ h15, h15 = qsI h12 l0 0 0 → (wp_X12_lay l0 h15 (fun h16 => (wp_X12_valued l0 l1 l2 h16 (fun r19 h18 => Q r19 h18)))))) ∧ (r13 = 0 → (wp_X12_refuse l0 h12 (fun r21 h20 => Q r21 h20))))))))))))
set_option maxHeartbeats 4000000 in
set_option maxRecDepth 100000 in
theorem sn_X12_value (G : GT) (d : Nat) (l0 : Nat) (l1 : Int32) (l2 : Int32) (h : PH) (Q : Int32 → PH → Prop) (okl0 : qOK h 11 l0) (hwp : wp_X12_value l0 l1 l2 h Q) : Mt G (7 + d) 0 0 mX12_value [.ref l0, .int l1, .int l2] h (qqi Q) := by
  unfold wp_X12_value at hwp
  refine Mt.of (by decide) rfl (Nat.le_of_ble_eq_true rfl) ?_
  have hex := qEx.rf h
  have hnn : qn h = qn h + 0 := rfl
  have hzz : qz h = qz h + 0 := rfl
  refine x_lvE (lv2 := [(0, .ref l0), (1, .int l1), (2, .int l2)]) rfl ?_
  refine x_iload_n (pc := 0) dX12_value_0 rfl ?_
  refine x_iconst (v := 0) (pc := 1) dX12_value_1 (by decide) ?_
  refine x_bipush (v := 7) (pc := 2) dX12_value_2 (by decide) ?_
  refine x_invS (As := [.int l1, .int 0, .int 7]) (st := []) (pc := 4) dX12_value_4 lRX12_139 fX12_isIn sX12_isIn rfl (Nat.le_of_ble_eq_true rfl) (q_R (by omega) (by decide)) (q_C hnn hzz (by decide) (by decide)) (sn_X12_isIn G (d + 6) l1 0 7 h _  hwp) (k_b (fun r2 h1 hwp zbr2 cxh1 => ?_))
  have hex := hex.tr cxh1.1
  have hnn : qn h1 = qn h + 0 := by have := cxh1.2.1; omega
  have hzz : qz h1 = qz h + 0 := by have := cxh1.2.2; omega
  have okl0 := okl0.ex cxh1.1
  refine x_if_eq (tgt := 23) (pc := 7) dX12_value_7 (by decide) (fun c3 => ?_) (fun c3 => ?_)
  · have hwp := hwp.1 c3
    refine x_aload_n (pc := 23) dX12_value_23 rfl ?_
    refine x_invV (As := []) (st := []) (pc := 24) dX12_value_24 lRX12_262 fX12_refuse vX12_refuse okl0 rfl (Nat.le_of_ble_eq_true rfl) (q_R (by omega) (by decide)) (q_C hnn hzz (by decide) (by decide)) (sn_X12_refuse G (d + 6) l0 h1 _ okl0 hwp) (k_i (fun r5 h4 hwp cxh4 => ?_))
    have hex := hex.tr cxh4.1
    have hnn : qn h4 = qn h + 0 := by have := cxh4.2.1; omega
    have hzz : qz h4 = qz h + 0 := by have := cxh4.2.2; omega
    have okl0 := okl0.ex cxh4.1
    exact x_iret (pc := 27) dX12_value_27 rfl hex hnn hzz ⟨_, rfl, hwp⟩
  · have hwp := hwp.2 c3
    refine x_iload_n (pc := 10) dX12_value_10 rfl ?_
    refine x_iconst (v := (-1)) (pc := 11) dX12_value_11 (by decide) ?_
    refine x_icmp_eq (tgt := 28) (pc := 12) dX12_value_12 (by decide) (fun c6 => ?_) (fun c6 => ?_)
    · have hwp := hwp.1 c6
      refine x_aload_n (pc := 28) dX12_value_28 rfl ?_
      refine x_iconst (v := 0) (pc := 29) dX12_value_29 (by decide) ?_
      refine y_putI (pc := 30) dX12_value_30 qRX12_75 okl0 (fun h7 eh7 nxh7 => ?_)
      have hwp := hwp h7 eh7
      have hex := hex.tr nxh7.1
      have hnn := nxh7.2.1.trans hnn
      have hzz := nxh7.2.2.trans hzz
      have okl0 := okl0.ex nxh7.1
      refine x_aload_n (pc := 33) dX12_value_33 rfl ?_
      refine x_invV (As := []) (st := []) (pc := 34) dX12_value_34 lRX12_217 fX12_lay vX12_lay okl0 rfl (Nat.le_of_ble_eq_true rfl) (q_R (by omega) (by decide)) (q_C hnn hzz (by decide) (by decide)) (sn_X12_lay G (d + 6) l0 h7 _ okl0 hwp) (k_v (fun h8 hwp cxh8 => ?_))
      have hex := hex.tr cxh8.1
      have hnn : qn h8 = qn h + 0 := by have := cxh8.2.1; omega
      have hzz : qz h8 = qz h + 0 := by have := cxh8.2.2; omega
      have okl0 := okl0.ex cxh8.1
      refine x_aload_n (pc := 37) dX12_value_37 rfl ?_
      refine x_iload_n (pc := 38) dX12_value_38 rfl ?_
      refine x_iload_n (pc := 39) dX12_value_39 rfl ?_
      refine x_invV (As := [.int l1, .int l2]) (st := []) (pc := 40) dX12_value_40 lRX12_369 fX12_valued vX12_valued okl0 rfl (Nat.le_of_ble_eq_true rfl) (q_R (by omega) (by decide)) (q_C hnn hzz (by decide) (by decide)) (sn_X12_valued G (d + 0) l0 l1 l2 h8 _ okl0 hwp) (k_i (fun r11 h10 hwp cxh10 => ?_))
      have hex := hex.tr cxh10.1
      have hnn : qn h10 = qn h + 0 := by have := cxh10.2.1; omega
      have hzz : qz h10 = qz h + 0 := by have := cxh10.2.2; omega
      have okl0 := okl0.ex cxh10.1
      exact x_iret (pc := 43) dX12_value_43 rfl hex hnn hzz ⟨_, rfl, hwp⟩
    · have hwp := hwp.2 c6
      refine x_aload_n (pc := 15) dX12_value_15 rfl ?_
      refine x_iload_n (pc := 16) dX12_value_16 rfl ?_
      refine x_invV (As := [.int l2]) (st := []) (pc := 17) dX12_value_17 lRX12_259 fX12_isTime vX12_isTime okl0 rfl (Nat.le_of_ble_eq_true rfl) (q_R (by omega) (by decide)) (q_C hnn hzz (by decide) (by decide)) (sn_X12_isTime G (d + 5) l0 l2 h1 _ okl0 hwp) (k_b (fun r13 h12 hwp zbr13 cxh12 => ?_))
      have hex := hex.tr cxh12.1
      have hnn : qn h12 = qn h + 0 := by have := cxh12.2.1; omega
      have hzz : qz h12 = qz h + 0 := by have := cxh12.2.2; omega
      have okl0 := okl0.ex cxh12.1
      refine x_if_ne (tgt := 28) (pc := 20) dX12_value_20 (by decide) (fun c14 => ?_) (fun c14 => ?_)
      · have hwp := hwp.1 c14
        refine x_aload_n (pc := 28) dX12_value_28 rfl ?_
        refine x_iconst (v := 0) (pc := 29) dX12_value_29 (by decide) ?_
        refine y_putI (pc := 30) dX12_value_30 qRX12_75 okl0 (fun h15 eh15 nxh15 => ?_)
        have hwp := hwp h15 eh15
        have hex := hex.tr nxh15.1
        have hnn := nxh15.2.1.trans hnn
        have hzz := nxh15.2.2.trans hzz
        have okl0 := okl0.ex nxh15.1
        refine x_aload_n (pc := 33) dX12_value_33 rfl ?_
        refine x_invV (As := []) (st := []) (pc := 34) dX12_value_34 lRX12_217 fX12_lay vX12_lay okl0 rfl (Nat.le_of_ble_eq_true rfl) (q_R (by omega) (by decide)) (q_C hnn hzz (by decide) (by decide)) (sn_X12_lay G (d + 6) l0 h15 _ okl0 hwp) (k_v (fun h16 hwp cxh16 => ?_))
        have hex := hex.tr cxh16.1
        have hnn : qn h16 = qn h + 0 := by have := cxh16.2.1; omega
        have hzz : qz h16 = qz h + 0 := by have := cxh16.2.2; omega
        have okl0 := okl0.ex cxh16.1
        refine x_aload_n (pc := 37) dX12_value_37 rfl ?_
        refine x_iload_n (pc := 38) dX12_value_38 rfl ?_
        refine x_iload_n (pc := 39) dX12_value_39 rfl ?_
        refine x_invV (As := [.int l1, .int l2]) (st := []) (pc := 40) dX12_value_40 lRX12_369 fX12_valued vX12_valued okl0 rfl (Nat.le_of_ble_eq_true rfl) (q_R (by omega) (by decide)) (q_C hnn hzz (by decide) (by decide)) (sn_X12_valued G (d + 0) l0 l1 l2 h16 _ okl0 hwp) (k_i (fun r19 h18 hwp cxh18 => ?_))
        have hex := hex.tr cxh18.1
        have hnn : qn h18 = qn h + 0 := by have := cxh18.2.1; omega
        have hzz : qz h18 = qz h + 0 := by have := cxh18.2.2; omega
        have okl0 := okl0.ex cxh18.1
        exact x_iret (pc := 43) dX12_value_43 rfl hex hnn hzz ⟨_, rfl, hwp⟩
      · have hwp := hwp.2 c14
        refine x_aload_n (pc := 23) dX12_value_23 rfl ?_
        refine x_invV (As := []) (st := []) (pc := 24) dX12_value_24 lRX12_262 fX12_refuse vX12_refuse okl0 rfl (Nat.le_of_ble_eq_true rfl) (q_R (by omega) (by decide)) (q_C hnn hzz (by decide) (by decide)) (sn_X12_refuse G (d + 6) l0 h12 _ okl0 hwp) (k_i (fun r21 h20 hwp cxh20 => ?_))
        have hex := hex.tr cxh20.1
        have hnn : qn h20 = qn h + 0 := by have := cxh20.2.1; omega
        have hzz : qz h20 = qz h + 0 := by have := cxh20.2.2; omega
        have okl0 := okl0.ex cxh20.1
        exact x_iret (pc := 27) dX12_value_27 rfl hex hnn hzz ⟨_, rfl, hwp⟩

theorem dX12_goes_0 : decode cX12_goes 0 = .ok (.aload_n 0, 1) := by decide +kernel
theorem dX12_goes_1 : decode cX12_goes 1 = .ok (.iconst 0, 1) := by decide +kernel
theorem dX12_goes_2 : decode cX12_goes 2 = .ok (.putfield 75, 3) := by decide +kernel
theorem dX12_goes_5 : decode cX12_goes 5 = .ok (.aload_n 0, 1) := by decide +kernel
theorem dX12_goes_6 : decode cX12_goes 6 = .ok (.invokevirtual 217, 3) := by decide +kernel
theorem dX12_goes_9 : decode cX12_goes 9 = .ok (.iload_n 1, 1) := by decide +kernel
theorem dX12_goes_10 : decode cX12_goes 10 = .ok (.iconst (-1), 1) := by decide +kernel
theorem dX12_goes_11 : decode cX12_goes 11 = .ok (.if_icmp .lt 9, 3) := by decide +kernel
theorem dX12_goes_14 : decode cX12_goes 14 = .ok (.iload_n 1, 1) := by decide +kernel
theorem dX12_goes_15 : decode cX12_goes 15 = .ok (.bipush 32, 2) := by decide +kernel
theorem dX12_goes_17 : decode cX12_goes 17 = .ok (.if_icmp .lt 6, 3) := by decide +kernel
theorem dX12_goes_20 : decode cX12_goes 20 = .ok (.bipush (-2), 2) := by decide +kernel
theorem dX12_goes_22 : decode cX12_goes 22 = .ok (.ireturn, 1) := by decide +kernel
theorem dX12_goes_23 : decode cX12_goes 23 = .ok (.iload_n 1, 1) := by decide +kernel
theorem dX12_goes_24 : decode cX12_goes 24 = .ok (.iconst (-1), 1) := by decide +kernel
theorem dX12_goes_25 : decode cX12_goes 25 = .ok (.if_icmp .eq 17, 3) := by decide +kernel
theorem dX12_goes_28 : decode cX12_goes 28 = .ok (.aload_n 0, 1) := by decide +kernel
theorem dX12_goes_29 : decode cX12_goes 29 = .ok (.iload_n 1, 1) := by decide +kernel
theorem dX12_goes_30 : decode cX12_goes 30 = .ok (.invokevirtual 278, 3) := by decide +kernel
theorem dX12_goes_33 : decode cX12_goes 33 = .ok (.ifCond .le 7, 3) := by decide +kernel
theorem dX12_goes_36 : decode cX12_goes 36 = .ok (.iconst 1, 1) := by decide +kernel
theorem dX12_goes_37 : decode cX12_goes 37 = .ok (.goto 4, 3) := by decide +kernel
theorem dX12_goes_40 : decode cX12_goes 40 = .ok (.iconst 0, 1) := by decide +kernel
theorem dX12_goes_41 : decode cX12_goes 41 = .ok (.ireturn, 1) := by decide +kernel
theorem dX12_goes_42 : decode cX12_goes 42 = .ok (.iconst 0, 1) := by decide +kernel
theorem dX12_goes_43 : decode cX12_goes 43 = .ok (.istore_n 2, 1) := by decide +kernel
theorem dX12_goes_44 : decode cX12_goes 44 = .ok (.iconst 0, 1) := by decide +kernel
theorem dX12_goes_45 : decode cX12_goes 45 = .ok (.istore_n 3, 1) := by decide +kernel
theorem dX12_goes_46 : decode cX12_goes 46 = .ok (.iload_n 3, 1) := by decide +kernel
theorem dX12_goes_47 : decode cX12_goes 47 = .ok (.bipush 32, 2) := by decide +kernel
theorem dX12_goes_49 : decode cX12_goes 49 = .ok (.if_icmp .ge 20, 3) := by decide +kernel
theorem dX12_goes_52 : decode cX12_goes 52 = .ok (.aload_n 0, 1) := by decide +kernel
theorem dX12_goes_53 : decode cX12_goes 53 = .ok (.iload_n 3, 1) := by decide +kernel
theorem dX12_goes_54 : decode cX12_goes 54 = .ok (.invokevirtual 278, 3) := by decide +kernel
theorem dX12_goes_57 : decode cX12_goes 57 = .ok (.ifCond .le 6, 3) := by decide +kernel
theorem dX12_goes_60 : decode cX12_goes 60 = .ok (.iinc 2 1, 3) := by decide +kernel
theorem dX12_goes_63 : decode cX12_goes 63 = .ok (.iinc 3 1, 3) := by decide +kernel
theorem dX12_goes_66 : decode cX12_goes 66 = .ok (.goto (-20), 3) := by decide +kernel
theorem dX12_goes_69 : decode cX12_goes 69 = .ok (.iload_n 2, 1) := by decide +kernel
theorem dX12_goes_70 : decode cX12_goes 70 = .ok (.ireturn, 1) := by decide +kernel
def E_X12_goes_46 (G : GT) (d : Nat) (h0 hb : PH) (l0 : Nat) (Q : Int32 → PH → Prop) (s : Int32 × Int32 × PH) : Prop := qEx hb s.2.2 ∧ qn s.2.2 = qn hb ∧ qz s.2.2 = qz hb → Ex G (qrm (7 + d) 0 0) mX12_goes (qn h0) (qz h0) (ZN G h0 0 0 (qqi Q)) 46 [(0, .ref l0), (2, .int s.1), (3, .int s.2.1)] [] s.2.2
def wb_X12_goes_46 (l0 : Nat)  (Q : Int32 → PH → Prop) (bk46 : Int32 × Int32 × PH → Prop) (l2 : Int32) (l3 : Int32) (h : PH) : Prop := ((32 ≤ l3 → Q l2 h) ∧ (¬ (32 ≤ l3) → (wp_X12_whole l0 l3 h (fun r12 h11 => ((r12 ≤ 0 → ∀ v14 : Int32, v14 = l3 + 1 → bk46 (l2, v14, h11)) ∧ (¬ (r12 ≤ 0) → ∀ v15 : Int32, v15 = l2 + 1 → ∀ v16 : Int32, v16 = l3 + 1 → bk46 (v15, v16, h11)))))))
def wp_X12_goes_46 (l0 : Nat)  (Q : Int32 → PH → Prop) (bk46 : Int32 × Int32 × PH → Prop) (s : Int32 × Int32 × PH) : Prop := wb_X12_goes_46 l0 Q bk46 s.1 s.2.1 s.2.2
set_option maxHeartbeats 4000000 in
set_option maxRecDepth 100000 in
theorem bd_X12_goes_46 (G : GT) (d : Nat) (h0 hb : PH) (l0 : Nat) (Q : Int32 → PH → Prop)  (hex : qEx h0 hb) (hnn : qn hb = qn h0 + 0) (hzz : qz hb = qz h0 + 0) (okl0 : qOK hb 11 l0) (bk46 : Int32 × Int32 × PH → Prop) (hbk46 : ∀ s2, bk46 s2 → E_X12_goes_46 G d h0 hb l0 Q s2) (l2 : Int32) (l3 : Int32) (h : PH) (hwp : wb_X12_goes_46 l0 Q bk46 l2 l3 h) (hx46 : qEx hb h) (hn46 : qn h = qn hb) (hz46 : qz h = qz hb) : Ex G (qrm (7 + d) 0 0) mX12_goes (qn h0) (qz h0) (ZN G h0 0 0 (qqi Q)) 46 [(0, .ref l0), (2, .int l2), (3, .int l3)] [] h := by
  unfold wb_X12_goes_46 at hwp
  have hex := hex.tr hx46
  have hnn := hn46.trans hnn
  have hzz := hz46.trans hzz
  have okl0 := okl0.ex hx46
  refine x_iload_n (pc := 46) dX12_goes_46 rfl ?_
  refine x_bipush (v := 32) (pc := 47) dX12_goes_47 (by decide) ?_
  refine x_icmp_ge (tgt := 69) (pc := 49) dX12_goes_49 (by decide) (fun c10 => ?_) (fun c10 => ?_)
  · have hwp := hwp.1 c10
    refine x_iload_n (pc := 69) dX12_goes_69 rfl ?_
    exact x_iret (pc := 70) dX12_goes_70 rfl hex hnn hzz ⟨_, rfl, hwp⟩
  · have hwp := hwp.2 c10
    refine x_aload_n (pc := 52) dX12_goes_52 rfl ?_
    refine x_iload_n (pc := 53) dX12_goes_53 rfl ?_
    refine x_invV (As := [.int l3]) (st := []) (pc := 54) dX12_goes_54 lRX12_278 fX12_whole vX12_whole okl0 rfl (Nat.le_of_ble_eq_true rfl) (q_R (by omega) (by decide)) (q_C hnn hzz (by decide) (by decide)) (sn_X12_whole G (d + 0) l0 l3 h _ okl0 hwp) (k_i (fun r12 h11 hwp cxh11 => ?_))
    have hex := hex.tr cxh11.1
    have hnn : qn h11 = qn h0 + 0 := by have := cxh11.2.1; omega
    have hzz : qz h11 = qz h0 + 0 := by have := cxh11.2.2; omega
    have hx46 := hx46.tr cxh11.1
    have hn46 : qn h11 = qn hb := by have := cxh11.2.1; omega
    have hz46 : qz h11 = qz hb := by have := cxh11.2.2; omega
    have okl0 := okl0.ex cxh11.1
    refine x_if_le (tgt := 63) (pc := 57) dX12_goes_57 (by decide) (fun c13 => ?_) (fun c13 => ?_)
    · have hwp := hwp.1 c13
      refine y_iinc (c := 1) (pc := 63) dX12_goes_63 rfl (by decide) (by decide) (fun v14 ev14 => ?_)
      have hwp := hwp v14 ev14
      refine x_lvE (lv2 := [(3, .int v14), (0, .ref l0), (2, .int l2)]) rfl ?_
      refine x_goto (tgt := 46) (pc := 66) dX12_goes_66 (by decide) ?_
      refine x_sub [1, 2, 0] rfl ?_
      exact hbk46 _ hwp ⟨hx46, hn46, hz46⟩
    · have hwp := hwp.2 c13
      refine y_iinc (c := 1) (pc := 60) dX12_goes_60 rfl (by decide) (by decide) (fun v15 ev15 => ?_)
      have hwp := hwp v15 ev15
      refine x_lvE (lv2 := [(2, .int v15), (0, .ref l0), (3, .int l3)]) rfl ?_
      refine y_iinc (c := 1) (pc := 63) dX12_goes_63 rfl (by decide) (by decide) (fun v16 ev16 => ?_)
      have hwp := hwp v16 ev16
      refine x_lvE (lv2 := [(3, .int v16), (2, .int v15), (0, .ref l0)]) rfl ?_
      refine x_goto (tgt := 46) (pc := 66) dX12_goes_66 (by decide) ?_
      refine x_sub [2, 1, 0] rfl ?_
      exact hbk46 _ hwp ⟨hx46, hn46, hz46⟩
theorem lp_X12_goes_46 (G : GT) (d : Nat) (h0 hb : PH) (l0 : Nat) (Q : Int32 → PH → Prop)  (hex : qEx h0 hb) (hnn : qn hb = qn h0 + 0) (hzz : qz hb = qz h0 + 0) (okl0 : qOK hb 11 l0) {s : Int32 × Int32 × PH} (hwp : qLoop (wp_X12_goes_46 l0 Q) s) : E_X12_goes_46 G d h0 hb l0 Q s :=
  qLoop.use (E := E_X12_goes_46 G d h0 hb l0 Q) (fun back s hbk hw hx => bd_X12_goes_46 G d h0 hb l0 Q hex hnn hzz okl0 back hbk s.1 s.2.1 s.2.2 hw hx.1 hx.2.1 hx.2.2) hwp
def wp_X12_goes (l0 : Nat) (l1 : Int32) (h : PH) (Q : Int32 → PH → Prop) : Prop := (∀ h1, h1 = qsI h l0 0 0 → (wp_X12_lay l0 h1 (fun h2 => ((l1 < (-1) → Q (-2) h2) ∧ (¬ (l1 < (-1)) → ((l1 < 32 → ((l1 = (-1) → (qLoop (wp_X12_goes_46 l0 Q) (0, 0, h2))) ∧ (¬ (l1 = (-1)) → (wp_X12_whole l0 l1 h2 (fun r8 h7 => ((r8 ≤ 0 → Q 0 h7) ∧ (¬ (r8 ≤ 0) → Q 1 h7))))))) ∧ (¬ (l1 < 32) → Q (-2) h2)))))))
set_option maxHeartbeats 4000000 in
set_option maxRecDepth 100000 in
theorem sn_X12_goes (G : GT) (d : Nat) (l0 : Nat) (l1 : Int32) (h : PH) (Q : Int32 → PH → Prop) (okl0 : qOK h 11 l0) (hwp : wp_X12_goes l0 l1 h Q) : Mt G (7 + d) 0 0 mX12_goes [.ref l0, .int l1] h (qqi Q) := by
  unfold wp_X12_goes at hwp
  refine Mt.of (by decide) rfl (Nat.le_of_ble_eq_true rfl) ?_
  have hex := qEx.rf h
  have hnn : qn h = qn h + 0 := rfl
  have hzz : qz h = qz h + 0 := rfl
  refine x_lvE (lv2 := [(0, .ref l0), (1, .int l1)]) rfl ?_
  refine x_aload_n (pc := 0) dX12_goes_0 rfl ?_
  refine x_iconst (v := 0) (pc := 1) dX12_goes_1 (by decide) ?_
  refine y_putI (pc := 2) dX12_goes_2 qRX12_75 okl0 (fun h1 eh1 nxh1 => ?_)
  have hwp := hwp h1 eh1
  have hex := hex.tr nxh1.1
  have hnn := nxh1.2.1.trans hnn
  have hzz := nxh1.2.2.trans hzz
  have okl0 := okl0.ex nxh1.1
  refine x_aload_n (pc := 5) dX12_goes_5 rfl ?_
  refine x_invV (As := []) (st := []) (pc := 6) dX12_goes_6 lRX12_217 fX12_lay vX12_lay okl0 rfl (Nat.le_of_ble_eq_true rfl) (q_R (by omega) (by decide)) (q_C hnn hzz (by decide) (by decide)) (sn_X12_lay G (d + 6) l0 h1 _ okl0 hwp) (k_v (fun h2 hwp cxh2 => ?_))
  have hex := hex.tr cxh2.1
  have hnn : qn h2 = qn h + 0 := by have := cxh2.2.1; omega
  have hzz : qz h2 = qz h + 0 := by have := cxh2.2.2; omega
  have okl0 := okl0.ex cxh2.1
  refine x_iload_n (pc := 9) dX12_goes_9 rfl ?_
  refine x_iconst (v := (-1)) (pc := 10) dX12_goes_10 (by decide) ?_
  refine x_icmp_lt (tgt := 20) (pc := 11) dX12_goes_11 (by decide) (fun c4 => ?_) (fun c4 => ?_)
  · have hwp := hwp.1 c4
    refine x_bipush (v := (-2)) (pc := 20) dX12_goes_20 (by decide) ?_
    exact x_iret (pc := 22) dX12_goes_22 rfl hex hnn hzz ⟨_, rfl, hwp⟩
  · have hwp := hwp.2 c4
    refine x_iload_n (pc := 14) dX12_goes_14 rfl ?_
    refine x_bipush (v := 32) (pc := 15) dX12_goes_15 (by decide) ?_
    refine x_icmp_lt (tgt := 23) (pc := 17) dX12_goes_17 (by decide) (fun c5 => ?_) (fun c5 => ?_)
    · have hwp := hwp.1 c5
      refine x_iload_n (pc := 23) dX12_goes_23 rfl ?_
      refine x_iconst (v := (-1)) (pc := 24) dX12_goes_24 (by decide) ?_
      refine x_icmp_eq (tgt := 42) (pc := 25) dX12_goes_25 (by decide) (fun c6 => ?_) (fun c6 => ?_)
      · have hwp := hwp.1 c6
        refine x_iconst (v := 0) (pc := 42) dX12_goes_42 (by decide) ?_
        refine x_istore_n (lv2 := [(2, .int 0), (0, .ref l0), (1, .int l1)]) (pc := 43) dX12_goes_43 (by decide) rfl ?_
        refine x_iconst (v := 0) (pc := 44) dX12_goes_44 (by decide) ?_
        refine x_istore_n (lv2 := [(3, .int 0), (2, .int 0), (0, .ref l0), (1, .int l1)]) (pc := 45) dX12_goes_45 (by decide) rfl ?_
        refine x_sub [2, 1, 0] rfl ?_
        exact lp_X12_goes_46 G d h h2 l0 Q hex hnn hzz okl0 hwp ⟨qEx.rf _, rfl, rfl⟩
      · have hwp := hwp.2 c6
        refine x_aload_n (pc := 28) dX12_goes_28 rfl ?_
        refine x_iload_n (pc := 29) dX12_goes_29 rfl ?_
        refine x_invV (As := [.int l1]) (st := []) (pc := 30) dX12_goes_30 lRX12_278 fX12_whole vX12_whole okl0 rfl (Nat.le_of_ble_eq_true rfl) (q_R (by omega) (by decide)) (q_C hnn hzz (by decide) (by decide)) (sn_X12_whole G (d + 0) l0 l1 h2 _ okl0 hwp) (k_i (fun r8 h7 hwp cxh7 => ?_))
        have hex := hex.tr cxh7.1
        have hnn : qn h7 = qn h + 0 := by have := cxh7.2.1; omega
        have hzz : qz h7 = qz h + 0 := by have := cxh7.2.2; omega
        have okl0 := okl0.ex cxh7.1
        refine x_if_le (tgt := 40) (pc := 33) dX12_goes_33 (by decide) (fun c9 => ?_) (fun c9 => ?_)
        · have hwp := hwp.1 c9
          refine x_iconst (v := 0) (pc := 40) dX12_goes_40 (by decide) ?_
          exact x_iret (pc := 41) dX12_goes_41 rfl hex hnn hzz ⟨_, rfl, hwp⟩
        · have hwp := hwp.2 c9
          refine x_iconst (v := 1) (pc := 36) dX12_goes_36 (by decide) ?_
          refine x_goto (tgt := 41) (pc := 37) dX12_goes_37 (by decide) ?_
          exact x_iret (pc := 41) dX12_goes_41 rfl hex hnn hzz ⟨_, rfl, hwp⟩
    · have hwp := hwp.2 c5
      refine x_bipush (v := (-2)) (pc := 20) dX12_goes_20 (by decide) ?_
      exact x_iret (pc := 22) dX12_goes_22 rfl hex hnn hzz ⟨_, rfl, hwp⟩

theorem dX12_isLeast_0 : decode cX12_isLeast 0 = .ok (.aload_n 0, 1) := by decide +kernel
theorem dX12_isLeast_1 : decode cX12_isLeast 1 = .ok (.iload_n 1, 1) := by decide +kernel
theorem dX12_isLeast_2 : decode cX12_isLeast 2 = .ok (.invokevirtual 278, 3) := by decide +kernel
theorem dX12_isLeast_5 : decode cX12_isLeast 5 = .ok (.ifCond .gt 5, 3) := by decide +kernel
theorem dX12_isLeast_8 : decode cX12_isLeast 8 = .ok (.iconst 0, 1) := by decide +kernel
theorem dX12_isLeast_9 : decode cX12_isLeast 9 = .ok (.ireturn, 1) := by decide +kernel
theorem dX12_isLeast_10 : decode cX12_isLeast 10 = .ok (.iconst 0, 1) := by decide +kernel
theorem dX12_isLeast_11 : decode cX12_isLeast 11 = .ok (.istore_n 2, 1) := by decide +kernel
theorem dX12_isLeast_12 : decode cX12_isLeast 12 = .ok (.iload_n 2, 1) := by decide +kernel
theorem dX12_isLeast_13 : decode cX12_isLeast 13 = .ok (.iload_n 1, 1) := by decide +kernel
theorem dX12_isLeast_14 : decode cX12_isLeast 14 = .ok (.if_icmp .ge 27, 3) := by decide +kernel
theorem dX12_isLeast_17 : decode cX12_isLeast 17 = .ok (.iload_n 2, 1) := by decide +kernel
theorem dX12_isLeast_18 : decode cX12_isLeast 18 = .ok (.iload_n 1, 1) := by decide +kernel
theorem dX12_isLeast_19 : decode cX12_isLeast 19 = .ok (.iconst (-1), 1) := by decide +kernel
theorem dX12_isLeast_20 : decode cX12_isLeast 20 = .ok (.ixor, 1) := by decide +kernel
theorem dX12_isLeast_21 : decode cX12_isLeast 21 = .ok (.iand, 1) := by decide +kernel
theorem dX12_isLeast_22 : decode cX12_isLeast 22 = .ok (.ifCond .ne 13, 3) := by decide +kernel
theorem dX12_isLeast_25 : decode cX12_isLeast 25 = .ok (.aload_n 0, 1) := by decide +kernel
theorem dX12_isLeast_26 : decode cX12_isLeast 26 = .ok (.iload_n 2, 1) := by decide +kernel
theorem dX12_isLeast_27 : decode cX12_isLeast 27 = .ok (.invokevirtual 278, 3) := by decide +kernel
theorem dX12_isLeast_30 : decode cX12_isLeast 30 = .ok (.ifCond .le 5, 3) := by decide +kernel
theorem dX12_isLeast_33 : decode cX12_isLeast 33 = .ok (.iconst 0, 1) := by decide +kernel
theorem dX12_isLeast_34 : decode cX12_isLeast 34 = .ok (.ireturn, 1) := by decide +kernel
theorem dX12_isLeast_35 : decode cX12_isLeast 35 = .ok (.iinc 2 1, 3) := by decide +kernel
theorem dX12_isLeast_38 : decode cX12_isLeast 38 = .ok (.goto (-26), 3) := by decide +kernel
theorem dX12_isLeast_41 : decode cX12_isLeast 41 = .ok (.iconst 1, 1) := by decide +kernel
theorem dX12_isLeast_42 : decode cX12_isLeast 42 = .ok (.ireturn, 1) := by decide +kernel
def E_X12_isLeast_12 (G : GT) (d : Nat) (h0 hb : PH) (l0 : Nat) (l1 : Int32) (Q : Int32 → PH → Prop) (s : Int32 × PH) : Prop := qEx hb s.2 ∧ qn s.2 = qn hb ∧ qz s.2 = qz hb → Ex G (qrm (7 + d) 0 0) mX12_isLeast (qn h0) (qz h0) (ZN G h0 0 0 (qqb Q)) 12 [(0, .ref l0), (1, .int l1), (2, .int s.1)] [] s.2
def wb_X12_isLeast_12 (l0 : Nat) (l1 : Int32)  (Q : Int32 → PH → Prop) (bk12 : Int32 × PH → Prop) (l2 : Int32) (h : PH) : Prop := ((l1 ≤ l2 → Q 1 h) ∧ (¬ (l1 ≤ l2) → ((¬ (l2 &&& (l1 ^^^ (-1))) = 0 → ∀ v6 : Int32, v6 = l2 + 1 → bk12 (v6, h)) ∧ ((l2 &&& (l1 ^^^ (-1))) = 0 → (wp_X12_whole l0 l2 h (fun r8 h7 => ((r8 ≤ 0 → ∀ v10 : Int32, v10 = l2 + 1 → bk12 (v10, h7)) ∧ (¬ (r8 ≤ 0) → Q 0 h7))))))))
def wp_X12_isLeast_12 (l0 : Nat) (l1 : Int32)  (Q : Int32 → PH → Prop) (bk12 : Int32 × PH → Prop) (s : Int32 × PH) : Prop := wb_X12_isLeast_12 l0 l1 Q bk12 s.1 s.2
set_option maxHeartbeats 4000000 in
set_option maxRecDepth 100000 in
theorem bd_X12_isLeast_12 (G : GT) (d : Nat) (h0 hb : PH) (l0 : Nat) (l1 : Int32) (Q : Int32 → PH → Prop)  (hex : qEx h0 hb) (hnn : qn hb = qn h0 + 0) (hzz : qz hb = qz h0 + 0) (okl0 : qOK hb 11 l0) (bk12 : Int32 × PH → Prop) (hbk12 : ∀ s2, bk12 s2 → E_X12_isLeast_12 G d h0 hb l0 l1 Q s2) (l2 : Int32) (h : PH) (hwp : wb_X12_isLeast_12 l0 l1 Q bk12 l2 h) (hx12 : qEx hb h) (hn12 : qn h = qn hb) (hz12 : qz h = qz hb) : Ex G (qrm (7 + d) 0 0) mX12_isLeast (qn h0) (qz h0) (ZN G h0 0 0 (qqb Q)) 12 [(0, .ref l0), (1, .int l1), (2, .int l2)] [] h := by
  unfold wb_X12_isLeast_12 at hwp
  have hex := hex.tr hx12
  have hnn := hn12.trans hnn
  have hzz := hz12.trans hzz
  have okl0 := okl0.ex hx12
  refine x_iload_n (pc := 12) dX12_isLeast_12 rfl ?_
  refine x_iload_n (pc := 13) dX12_isLeast_13 rfl ?_
  refine x_icmp_ge (tgt := 41) (pc := 14) dX12_isLeast_14 (by decide) (fun c4 => ?_) (fun c4 => ?_)
  · have hwp := hwp.1 c4
    refine x_iconst (v := 1) (pc := 41) dX12_isLeast_41 (by decide) ?_
    exact x_zret (pc := 42) dX12_isLeast_42 rfl hex hnn hzz (by decide) ⟨_, rfl, by decide, hwp⟩
  · have hwp := hwp.2 c4
    refine x_iload_n (pc := 17) dX12_isLeast_17 rfl ?_
    refine x_iload_n (pc := 18) dX12_isLeast_18 rfl ?_
    refine x_iconst (v := (-1)) (pc := 19) dX12_isLeast_19 (by decide) ?_
    refine x_ixor (pc := 20) dX12_isLeast_20 ?_
    refine x_iand (pc := 21) dX12_isLeast_21 ?_
    refine x_if_ne (tgt := 35) (pc := 22) dX12_isLeast_22 (by decide) (fun c5 => ?_) (fun c5 => ?_)
    · have hwp := hwp.1 c5
      refine y_iinc (c := 1) (pc := 35) dX12_isLeast_35 rfl (by decide) (by decide) (fun v6 ev6 => ?_)
      have hwp := hwp v6 ev6
      refine x_lvE (lv2 := [(2, .int v6), (0, .ref l0), (1, .int l1)]) rfl ?_
      refine x_goto (tgt := 12) (pc := 38) dX12_isLeast_38 (by decide) ?_
      refine x_sub [1, 2, 0] rfl ?_
      exact hbk12 _ hwp ⟨hx12, hn12, hz12⟩
    · have hwp := hwp.2 c5
      refine x_aload_n (pc := 25) dX12_isLeast_25 rfl ?_
      refine x_iload_n (pc := 26) dX12_isLeast_26 rfl ?_
      refine x_invV (As := [.int l2]) (st := []) (pc := 27) dX12_isLeast_27 lRX12_278 fX12_whole vX12_whole okl0 rfl (Nat.le_of_ble_eq_true rfl) (q_R (by omega) (by decide)) (q_C hnn hzz (by decide) (by decide)) (sn_X12_whole G (d + 0) l0 l2 h _ okl0 hwp) (k_i (fun r8 h7 hwp cxh7 => ?_))
      have hex := hex.tr cxh7.1
      have hnn : qn h7 = qn h0 + 0 := by have := cxh7.2.1; omega
      have hzz : qz h7 = qz h0 + 0 := by have := cxh7.2.2; omega
      have hx12 := hx12.tr cxh7.1
      have hn12 : qn h7 = qn hb := by have := cxh7.2.1; omega
      have hz12 : qz h7 = qz hb := by have := cxh7.2.2; omega
      have okl0 := okl0.ex cxh7.1
      refine x_if_le (tgt := 35) (pc := 30) dX12_isLeast_30 (by decide) (fun c9 => ?_) (fun c9 => ?_)
      · have hwp := hwp.1 c9
        refine y_iinc (c := 1) (pc := 35) dX12_isLeast_35 rfl (by decide) (by decide) (fun v10 ev10 => ?_)
        have hwp := hwp v10 ev10
        refine x_lvE (lv2 := [(2, .int v10), (0, .ref l0), (1, .int l1)]) rfl ?_
        refine x_goto (tgt := 12) (pc := 38) dX12_isLeast_38 (by decide) ?_
        refine x_sub [1, 2, 0] rfl ?_
        exact hbk12 _ hwp ⟨hx12, hn12, hz12⟩
      · have hwp := hwp.2 c9
        refine x_iconst (v := 0) (pc := 33) dX12_isLeast_33 (by decide) ?_
        exact x_zret (pc := 34) dX12_isLeast_34 rfl hex hnn hzz (by decide) ⟨_, rfl, by decide, hwp⟩
theorem lp_X12_isLeast_12 (G : GT) (d : Nat) (h0 hb : PH) (l0 : Nat) (l1 : Int32) (Q : Int32 → PH → Prop)  (hex : qEx h0 hb) (hnn : qn hb = qn h0 + 0) (hzz : qz hb = qz h0 + 0) (okl0 : qOK hb 11 l0) {s : Int32 × PH} (hwp : qLoop (wp_X12_isLeast_12 l0 l1 Q) s) : E_X12_isLeast_12 G d h0 hb l0 l1 Q s :=
  qLoop.use (E := E_X12_isLeast_12 G d h0 hb l0 l1 Q) (fun back s hbk hw hx => bd_X12_isLeast_12 G d h0 hb l0 l1 Q hex hnn hzz okl0 back hbk s.1 s.2 hw hx.1 hx.2.1 hx.2.2) hwp
def wp_X12_isLeast (l0 : Nat) (l1 : Int32) (h : PH) (Q : Int32 → PH → Prop) : Prop := (wp_X12_whole l0 l1 h (fun r2 h1 => ((0 < r2 → (qLoop (wp_X12_isLeast_12 l0 l1 Q) (0, h1))) ∧ (¬ (0 < r2) → Q 0 h1))))
set_option maxHeartbeats 4000000 in
set_option maxRecDepth 100000 in
theorem sn_X12_isLeast (G : GT) (d : Nat) (l0 : Nat) (l1 : Int32) (h : PH) (Q : Int32 → PH → Prop) (okl0 : qOK h 11 l0) (hwp : wp_X12_isLeast l0 l1 h Q) : Mt G (7 + d) 0 0 mX12_isLeast [.ref l0, .int l1] h (qqb Q) := by
  unfold wp_X12_isLeast at hwp
  refine Mt.of (by decide) rfl (Nat.le_of_ble_eq_true rfl) ?_
  have hex := qEx.rf h
  have hnn : qn h = qn h + 0 := rfl
  have hzz : qz h = qz h + 0 := rfl
  refine x_lvE (lv2 := [(0, .ref l0), (1, .int l1)]) rfl ?_
  refine x_aload_n (pc := 0) dX12_isLeast_0 rfl ?_
  refine x_iload_n (pc := 1) dX12_isLeast_1 rfl ?_
  refine x_invV (As := [.int l1]) (st := []) (pc := 2) dX12_isLeast_2 lRX12_278 fX12_whole vX12_whole okl0 rfl (Nat.le_of_ble_eq_true rfl) (q_R (by omega) (by decide)) (q_C hnn hzz (by decide) (by decide)) (sn_X12_whole G (d + 0) l0 l1 h _ okl0 hwp) (k_i (fun r2 h1 hwp cxh1 => ?_))
  have hex := hex.tr cxh1.1
  have hnn : qn h1 = qn h + 0 := by have := cxh1.2.1; omega
  have hzz : qz h1 = qz h + 0 := by have := cxh1.2.2; omega
  have okl0 := okl0.ex cxh1.1
  refine x_if_gt (tgt := 10) (pc := 5) dX12_isLeast_5 (by decide) (fun c3 => ?_) (fun c3 => ?_)
  · have hwp := hwp.1 c3
    refine x_iconst (v := 0) (pc := 10) dX12_isLeast_10 (by decide) ?_
    refine x_istore_n (lv2 := [(2, .int 0), (0, .ref l0), (1, .int l1)]) (pc := 11) dX12_isLeast_11 (by decide) rfl ?_
    refine x_sub [1, 2, 0] rfl ?_
    exact lp_X12_isLeast_12 G d h h1 l0 l1 Q hex hnn hzz okl0 hwp ⟨qEx.rf _, rfl, rfl⟩
  · have hwp := hwp.2 c3
    refine x_iconst (v := 0) (pc := 8) dX12_isLeast_8 (by decide) ?_
    exact x_zret (pc := 9) dX12_isLeast_9 rfl hex hnn hzz (by decide) ⟨_, rfl, by decide, hwp⟩

theorem dX12_least_0 : decode cX12_least 0 = .ok (.aload_n 0, 1) := by decide +kernel
theorem dX12_least_1 : decode cX12_least 1 = .ok (.iconst 0, 1) := by decide +kernel
theorem dX12_least_2 : decode cX12_least 2 = .ok (.putfield 75, 3) := by decide +kernel
theorem dX12_least_5 : decode cX12_least 5 = .ok (.aload_n 0, 1) := by decide +kernel
theorem dX12_least_6 : decode cX12_least 6 = .ok (.invokevirtual 217, 3) := by decide +kernel
theorem dX12_least_9 : decode cX12_least 9 = .ok (.iload_n 1, 1) := by decide +kernel
theorem dX12_least_10 : decode cX12_least 10 = .ok (.istore_n 2, 1) := by decide +kernel
theorem dX12_least_11 : decode cX12_least 11 = .ok (.iconst 0, 1) := by decide +kernel
theorem dX12_least_12 : decode cX12_least 12 = .ok (.istore_n 3, 1) := by decide +kernel
theorem dX12_least_13 : decode cX12_least 13 = .ok (.iload_n 3, 1) := by decide +kernel
theorem dX12_least_14 : decode cX12_least 14 = .ok (.bipush 32, 2) := by decide +kernel
theorem dX12_least_16 : decode cX12_least 16 = .ok (.if_icmp .ge 33, 3) := by decide +kernel
theorem dX12_least_19 : decode cX12_least 19 = .ok (.iload_n 1, 1) := by decide +kernel
theorem dX12_least_20 : decode cX12_least 20 = .ok (.ifCond .lt 29, 3) := by decide +kernel
theorem dX12_least_23 : decode cX12_least 23 = .ok (.aload_n 0, 1) := by decide +kernel
theorem dX12_least_24 : decode cX12_least 24 = .ok (.iload_n 3, 1) := by decide +kernel
theorem dX12_least_25 : decode cX12_least 25 = .ok (.invokevirtual 375, 3) := by decide +kernel
theorem dX12_least_28 : decode cX12_least 28 = .ok (.ifCond .ne 6, 3) := by decide +kernel
theorem dX12_least_31 : decode cX12_least 31 = .ok (.goto 12, 3) := by decide +kernel
theorem dX12_least_34 : decode cX12_least 34 = .ok (.iload_n 2, 1) := by decide +kernel
theorem dX12_least_35 : decode cX12_least 35 = .ok (.ifCond .ne 5, 3) := by decide +kernel
theorem dX12_least_38 : decode cX12_least 38 = .ok (.iload_n 3, 1) := by decide +kernel
theorem dX12_least_39 : decode cX12_least 39 = .ok (.ireturn, 1) := by decide +kernel
theorem dX12_least_40 : decode cX12_least 40 = .ok (.iinc 2 (-1), 3) := by decide +kernel
theorem dX12_least_43 : decode cX12_least 43 = .ok (.iinc 3 1, 3) := by decide +kernel
theorem dX12_least_46 : decode cX12_least 46 = .ok (.goto (-33), 3) := by decide +kernel
theorem dX12_least_49 : decode cX12_least 49 = .ok (.iconst (-1), 1) := by decide +kernel
theorem dX12_least_50 : decode cX12_least 50 = .ok (.ireturn, 1) := by decide +kernel
def E_X12_least_13 (G : GT) (d : Nat) (h0 hb : PH) (l0 : Nat) (l1 : Int32) (Q : Int32 → PH → Prop) (s : Int32 × Int32 × PH) : Prop := qEx hb s.2.2 ∧ qn s.2.2 = qn hb ∧ qz s.2.2 = qz hb → Ex G (qrm (8 + d) 0 0) mX12_least (qn h0) (qz h0) (ZN G h0 0 0 (qqi Q)) 13 [(0, .ref l0), (1, .int l1), (2, .int s.1), (3, .int s.2.1)] [] s.2.2
def wb_X12_least_13 (l0 : Nat) (l1 : Int32)  (Q : Int32 → PH → Prop) (bk13 : Int32 × Int32 × PH → Prop) (l2 : Int32) (l3 : Int32) (h : PH) : Prop := ((32 ≤ l3 → Q (-1) h) ∧ (¬ (32 ≤ l3) → ((l1 < 0 → Q (-1) h) ∧ (¬ (l1 < 0) → (wp_X12_isLeast l0 l3 h (fun r7 h6 => ((¬ r7 = 0 → ((¬ l2 = 0 → ∀ v10 : Int32, v10 = l2 + (-1) → ∀ v11 : Int32, v11 = l3 + 1 → bk13 (v10, v11, h6)) ∧ (l2 = 0 → Q l3 h6))) ∧ (r7 = 0 → ∀ v12 : Int32, v12 = l3 + 1 → bk13 (l2, v12, h6)))))))))
def wp_X12_least_13 (l0 : Nat) (l1 : Int32)  (Q : Int32 → PH → Prop) (bk13 : Int32 × Int32 × PH → Prop) (s : Int32 × Int32 × PH) : Prop := wb_X12_least_13 l0 l1 Q bk13 s.1 s.2.1 s.2.2
set_option maxHeartbeats 4000000 in
set_option maxRecDepth 100000 in
theorem bd_X12_least_13 (G : GT) (d : Nat) (h0 hb : PH) (l0 : Nat) (l1 : Int32) (Q : Int32 → PH → Prop)  (hex : qEx h0 hb) (hnn : qn hb = qn h0 + 0) (hzz : qz hb = qz h0 + 0) (okl0 : qOK hb 11 l0) (bk13 : Int32 × Int32 × PH → Prop) (hbk13 : ∀ s2, bk13 s2 → E_X12_least_13 G d h0 hb l0 l1 Q s2) (l2 : Int32) (l3 : Int32) (h : PH) (hwp : wb_X12_least_13 l0 l1 Q bk13 l2 l3 h) (hx13 : qEx hb h) (hn13 : qn h = qn hb) (hz13 : qz h = qz hb) : Ex G (qrm (8 + d) 0 0) mX12_least (qn h0) (qz h0) (ZN G h0 0 0 (qqi Q)) 13 [(0, .ref l0), (1, .int l1), (2, .int l2), (3, .int l3)] [] h := by
  unfold wb_X12_least_13 at hwp
  have hex := hex.tr hx13
  have hnn := hn13.trans hnn
  have hzz := hz13.trans hzz
  have okl0 := okl0.ex hx13
  refine x_iload_n (pc := 13) dX12_least_13 rfl ?_
  refine x_bipush (v := 32) (pc := 14) dX12_least_14 (by decide) ?_
  refine x_icmp_ge (tgt := 49) (pc := 16) dX12_least_16 (by decide) (fun c4 => ?_) (fun c4 => ?_)
  · have hwp := hwp.1 c4
    refine x_iconst (v := (-1)) (pc := 49) dX12_least_49 (by decide) ?_
    exact x_iret (pc := 50) dX12_least_50 rfl hex hnn hzz ⟨_, rfl, hwp⟩
  · have hwp := hwp.2 c4
    refine x_iload_n (pc := 19) dX12_least_19 rfl ?_
    refine x_if_lt (tgt := 49) (pc := 20) dX12_least_20 (by decide) (fun c5 => ?_) (fun c5 => ?_)
    · have hwp := hwp.1 c5
      refine x_iconst (v := (-1)) (pc := 49) dX12_least_49 (by decide) ?_
      exact x_iret (pc := 50) dX12_least_50 rfl hex hnn hzz ⟨_, rfl, hwp⟩
    · have hwp := hwp.2 c5
      refine x_aload_n (pc := 23) dX12_least_23 rfl ?_
      refine x_iload_n (pc := 24) dX12_least_24 rfl ?_
      refine x_invV (As := [.int l3]) (st := []) (pc := 25) dX12_least_25 lRX12_375 fX12_isLeast vX12_isLeast okl0 rfl (Nat.le_of_ble_eq_true rfl) (q_R (by omega) (by decide)) (q_C hnn hzz (by decide) (by decide)) (sn_X12_isLeast G (d + 0) l0 l3 h _ okl0 hwp) (k_b (fun r7 h6 hwp zbr7 cxh6 => ?_))
      have hex := hex.tr cxh6.1
      have hnn : qn h6 = qn h0 + 0 := by have := cxh6.2.1; omega
      have hzz : qz h6 = qz h0 + 0 := by have := cxh6.2.2; omega
      have hx13 := hx13.tr cxh6.1
      have hn13 : qn h6 = qn hb := by have := cxh6.2.1; omega
      have hz13 : qz h6 = qz hb := by have := cxh6.2.2; omega
      have okl0 := okl0.ex cxh6.1
      refine x_if_ne (tgt := 34) (pc := 28) dX12_least_28 (by decide) (fun c8 => ?_) (fun c8 => ?_)
      · have hwp := hwp.1 c8
        refine x_iload_n (pc := 34) dX12_least_34 rfl ?_
        refine x_if_ne (tgt := 40) (pc := 35) dX12_least_35 (by decide) (fun c9 => ?_) (fun c9 => ?_)
        · have hwp := hwp.1 c9
          refine y_iinc (c := (-1)) (pc := 40) dX12_least_40 rfl (by decide) (by decide) (fun v10 ev10 => ?_)
          have hwp := hwp v10 ev10
          refine x_lvE (lv2 := [(2, .int v10), (0, .ref l0), (1, .int l1), (3, .int l3)]) rfl ?_
          refine y_iinc (c := 1) (pc := 43) dX12_least_43 rfl (by decide) (by decide) (fun v11 ev11 => ?_)
          have hwp := hwp v11 ev11
          refine x_lvE (lv2 := [(3, .int v11), (2, .int v10), (0, .ref l0), (1, .int l1)]) rfl ?_
          refine x_goto (tgt := 13) (pc := 46) dX12_least_46 (by decide) ?_
          refine x_sub [2, 3, 1, 0] rfl ?_
          exact hbk13 _ hwp ⟨hx13, hn13, hz13⟩
        · have hwp := hwp.2 c9
          refine x_iload_n (pc := 38) dX12_least_38 rfl ?_
          exact x_iret (pc := 39) dX12_least_39 rfl hex hnn hzz ⟨_, rfl, hwp⟩
      · have hwp := hwp.2 c8
        refine x_goto (tgt := 43) (pc := 31) dX12_least_31 (by decide) ?_
        refine y_iinc (c := 1) (pc := 43) dX12_least_43 rfl (by decide) (by decide) (fun v12 ev12 => ?_)
        have hwp := hwp v12 ev12
        refine x_lvE (lv2 := [(3, .int v12), (0, .ref l0), (1, .int l1), (2, .int l2)]) rfl ?_
        refine x_goto (tgt := 13) (pc := 46) dX12_least_46 (by decide) ?_
        refine x_sub [1, 2, 3, 0] rfl ?_
        exact hbk13 _ hwp ⟨hx13, hn13, hz13⟩
theorem lp_X12_least_13 (G : GT) (d : Nat) (h0 hb : PH) (l0 : Nat) (l1 : Int32) (Q : Int32 → PH → Prop)  (hex : qEx h0 hb) (hnn : qn hb = qn h0 + 0) (hzz : qz hb = qz h0 + 0) (okl0 : qOK hb 11 l0) {s : Int32 × Int32 × PH} (hwp : qLoop (wp_X12_least_13 l0 l1 Q) s) : E_X12_least_13 G d h0 hb l0 l1 Q s :=
  qLoop.use (E := E_X12_least_13 G d h0 hb l0 l1 Q) (fun back s hbk hw hx => bd_X12_least_13 G d h0 hb l0 l1 Q hex hnn hzz okl0 back hbk s.1 s.2.1 s.2.2 hw hx.1 hx.2.1 hx.2.2) hwp
def wp_X12_least (l0 : Nat) (l1 : Int32) (h : PH) (Q : Int32 → PH → Prop) : Prop := (∀ h1, h1 = qsI h l0 0 0 → (wp_X12_lay l0 h1 (fun h2 => (qLoop (wp_X12_least_13 l0 l1 Q) (l1, 0, h2)))))
set_option maxHeartbeats 4000000 in
set_option maxRecDepth 100000 in
theorem sn_X12_least (G : GT) (d : Nat) (l0 : Nat) (l1 : Int32) (h : PH) (Q : Int32 → PH → Prop) (okl0 : qOK h 11 l0) (hwp : wp_X12_least l0 l1 h Q) : Mt G (8 + d) 0 0 mX12_least [.ref l0, .int l1] h (qqi Q) := by
  unfold wp_X12_least at hwp
  refine Mt.of (by decide) rfl (Nat.le_of_ble_eq_true rfl) ?_
  have hex := qEx.rf h
  have hnn : qn h = qn h + 0 := rfl
  have hzz : qz h = qz h + 0 := rfl
  refine x_lvE (lv2 := [(0, .ref l0), (1, .int l1)]) rfl ?_
  refine x_aload_n (pc := 0) dX12_least_0 rfl ?_
  refine x_iconst (v := 0) (pc := 1) dX12_least_1 (by decide) ?_
  refine y_putI (pc := 2) dX12_least_2 qRX12_75 okl0 (fun h1 eh1 nxh1 => ?_)
  have hwp := hwp h1 eh1
  have hex := hex.tr nxh1.1
  have hnn := nxh1.2.1.trans hnn
  have hzz := nxh1.2.2.trans hzz
  have okl0 := okl0.ex nxh1.1
  refine x_aload_n (pc := 5) dX12_least_5 rfl ?_
  refine x_invV (As := []) (st := []) (pc := 6) dX12_least_6 lRX12_217 fX12_lay vX12_lay okl0 rfl (Nat.le_of_ble_eq_true rfl) (q_R (by omega) (by decide)) (q_C hnn hzz (by decide) (by decide)) (sn_X12_lay G (d + 7) l0 h1 _ okl0 hwp) (k_v (fun h2 hwp cxh2 => ?_))
  have hex := hex.tr cxh2.1
  have hnn : qn h2 = qn h + 0 := by have := cxh2.2.1; omega
  have hzz : qz h2 = qz h + 0 := by have := cxh2.2.2; omega
  have okl0 := okl0.ex cxh2.1
  refine x_iload_n (pc := 9) dX12_least_9 rfl ?_
  refine x_istore_n (lv2 := [(2, .int l1), (0, .ref l0), (1, .int l1)]) (pc := 10) dX12_least_10 (by decide) rfl ?_
  refine x_iconst (v := 0) (pc := 11) dX12_least_11 (by decide) ?_
  refine x_istore_n (lv2 := [(3, .int 0), (2, .int l1), (0, .ref l0), (1, .int l1)]) (pc := 12) dX12_least_12 (by decide) rfl ?_
  refine x_sub [2, 3, 1, 0] rfl ?_
  exact lp_X12_least_13 G d h h2 l0 l1 Q hex hnn hzz okl0 hwp ⟨qEx.rf _, rfl, rfl⟩

theorem dX12_needs_0 : decode cX12_needs 0 = .ok (.aload_n 0, 1) := by decide +kernel
theorem dX12_needs_1 : decode cX12_needs 1 = .ok (.iconst 0, 1) := by decide +kernel
theorem dX12_needs_2 : decode cX12_needs 2 = .ok (.putfield 75, 3) := by decide +kernel
theorem dX12_needs_5 : decode cX12_needs 5 = .ok (.aload_n 0, 1) := by decide +kernel
theorem dX12_needs_6 : decode cX12_needs 6 = .ok (.invokevirtual 217, 3) := by decide +kernel
theorem dX12_needs_9 : decode cX12_needs 9 = .ok (.iload_n 1, 1) := by decide +kernel
theorem dX12_needs_10 : decode cX12_needs 10 = .ok (.iconst 1, 1) := by decide +kernel
theorem dX12_needs_11 : decode cX12_needs 11 = .ok (.if_icmp .eq 21, 3) := by decide +kernel
theorem dX12_needs_14 : decode cX12_needs 14 = .ok (.iload_n 1, 1) := by decide +kernel
theorem dX12_needs_15 : decode cX12_needs 15 = .ok (.iconst 2, 1) := by decide +kernel
theorem dX12_needs_16 : decode cX12_needs 16 = .ok (.if_icmp .eq 16, 3) := by decide +kernel
theorem dX12_needs_19 : decode cX12_needs 19 = .ok (.iload_n 1, 1) := by decide +kernel
theorem dX12_needs_20 : decode cX12_needs 20 = .ok (.iconst 4, 1) := by decide +kernel
theorem dX12_needs_21 : decode cX12_needs 21 = .ok (.if_icmp .eq 11, 3) := by decide +kernel
theorem dX12_needs_24 : decode cX12_needs 24 = .ok (.iload_n 1, 1) := by decide +kernel
theorem dX12_needs_25 : decode cX12_needs 25 = .ok (.bipush 8, 2) := by decide +kernel
theorem dX12_needs_27 : decode cX12_needs 27 = .ok (.if_icmp .eq 5, 3) := by decide +kernel
theorem dX12_needs_30 : decode cX12_needs 30 = .ok (.iconst (-1), 1) := by decide +kernel
theorem dX12_needs_31 : decode cX12_needs 31 = .ok (.ireturn, 1) := by decide +kernel
theorem dX12_needs_32 : decode cX12_needs 32 = .ok (.iconst 0, 1) := by decide +kernel
theorem dX12_needs_33 : decode cX12_needs 33 = .ok (.istore_n 2, 1) := by decide +kernel
theorem dX12_needs_34 : decode cX12_needs 34 = .ok (.iconst 0, 1) := by decide +kernel
theorem dX12_needs_35 : decode cX12_needs 35 = .ok (.istore_n 3, 1) := by decide +kernel
theorem dX12_needs_36 : decode cX12_needs 36 = .ok (.iload_n 3, 1) := by decide +kernel
theorem dX12_needs_37 : decode cX12_needs 37 = .ok (.aload_n 0, 1) := by decide +kernel
theorem dX12_needs_38 : decode cX12_needs 38 = .ok (.getfield 19, 3) := by decide +kernel
theorem dX12_needs_41 : decode cX12_needs 41 = .ok (.iconst 0, 1) := by decide +kernel
theorem dX12_needs_42 : decode cX12_needs 42 = .ok (.iaload, 1) := by decide +kernel
theorem dX12_needs_43 : decode cX12_needs 43 = .ok (.if_icmp .ge 30, 3) := by decide +kernel
theorem dX12_needs_46 : decode cX12_needs 46 = .ok (.aload_n 0, 1) := by decide +kernel
theorem dX12_needs_47 : decode cX12_needs 47 = .ok (.iload_n 3, 1) := by decide +kernel
theorem dX12_needs_48 : decode cX12_needs 48 = .ok (.iload_n 1, 1) := by decide +kernel
theorem dX12_needs_49 : decode cX12_needs 49 = .ok (.invokevirtual 275, 3) := by decide +kernel
theorem dX12_needs_52 : decode cX12_needs 52 = .ok (.aload_n 0, 1) := by decide +kernel
theorem dX12_needs_53 : decode cX12_needs 53 = .ok (.iload_n 3, 1) := by decide +kernel
theorem dX12_needs_54 : decode cX12_needs 54 = .ok (.iconst 0, 1) := by decide +kernel
theorem dX12_needs_55 : decode cX12_needs 55 = .ok (.invokevirtual 275, 3) := by decide +kernel
theorem dX12_needs_58 : decode cX12_needs 58 = .ok (.if_icmp .eq 9, 3) := by decide +kernel
theorem dX12_needs_61 : decode cX12_needs 61 = .ok (.iload_n 2, 1) := by decide +kernel
theorem dX12_needs_62 : decode cX12_needs 62 = .ok (.iconst 1, 1) := by decide +kernel
theorem dX12_needs_63 : decode cX12_needs 63 = .ok (.iload_n 3, 1) := by decide +kernel
theorem dX12_needs_64 : decode cX12_needs 64 = .ok (.ishl, 1) := by decide +kernel
theorem dX12_needs_65 : decode cX12_needs 65 = .ok (.ior, 1) := by decide +kernel
theorem dX12_needs_66 : decode cX12_needs 66 = .ok (.istore_n 2, 1) := by decide +kernel
theorem dX12_needs_67 : decode cX12_needs 67 = .ok (.iinc 3 1, 3) := by decide +kernel
theorem dX12_needs_70 : decode cX12_needs 70 = .ok (.goto (-34), 3) := by decide +kernel
theorem dX12_needs_73 : decode cX12_needs 73 = .ok (.iload_n 2, 1) := by decide +kernel
theorem dX12_needs_74 : decode cX12_needs 74 = .ok (.ireturn, 1) := by decide +kernel
def E_X12_needs_36 (G : GT) (d : Nat) (h0 hb : PH) (l0 : Nat) (l1 : Int32) (Q : Int32 → PH → Prop) (s : Int32 × Int32 × PH) : Prop := qEx hb s.2.2 ∧ qn s.2.2 = qn hb ∧ qz s.2.2 = qz hb → Ex G (qrm (6 + d) 0 0) mX12_needs (qn h0) (qz h0) (ZN G h0 0 0 (qqi Q)) 36 [(0, .ref l0), (1, .int l1), (2, .int s.1), (3, .int s.2.1)] [] s.2.2
def wb_X12_needs_36 (l0 : Nat) (l1 : Int32)  (Q : Int32 → PH → Prop) (bk36 : Int32 × Int32 × PH → Prop) (l2 : Int32) (l3 : Int32) (h : PH) : Prop := (∃ b8, qR h l0 16 = some b8 ∧ (vp_in 0 (qL h b8) ∧ (((qI h b8 (0 : Int32).toNatClampNeg) ≤ l3 → Q l2 h) ∧ (¬ ((qI h b8 (0 : Int32).toNatClampNeg) ≤ l3) → (wp_X12_sumOf l0 l3 l1 h (fun r13 h12 => (wp_X12_sumOf l0 l3 0 h12 (fun r15 h14 => ((r13 = r15 → ∀ v17 : Int32, v17 = l3 + 1 → bk36 (l2, v17, h14)) ∧ (¬ (r13 = r15) → ∀ v18 : Int32, v18 = l2 ||| (1 <<< (l3 &&& 31)) → ∀ v19 : Int32, v19 = l3 + 1 → bk36 (v18, v19, h14)))))))))))
def wp_X12_needs_36 (l0 : Nat) (l1 : Int32)  (Q : Int32 → PH → Prop) (bk36 : Int32 × Int32 × PH → Prop) (s : Int32 × Int32 × PH) : Prop := wb_X12_needs_36 l0 l1 Q bk36 s.1 s.2.1 s.2.2
set_option maxHeartbeats 4000000 in
set_option maxRecDepth 100000 in
theorem bd_X12_needs_36 (G : GT) (d : Nat) (h0 hb : PH) (l0 : Nat) (l1 : Int32) (Q : Int32 → PH → Prop)  (hex : qEx h0 hb) (hnn : qn hb = qn h0 + 0) (hzz : qz hb = qz h0 + 0) (okl0 : qOK hb 11 l0) (bk36 : Int32 × Int32 × PH → Prop) (hbk36 : ∀ s2, bk36 s2 → E_X12_needs_36 G d h0 hb l0 l1 Q s2) (l2 : Int32) (l3 : Int32) (h : PH) (hwp : wb_X12_needs_36 l0 l1 Q bk36 l2 l3 h) (hx36 : qEx hb h) (hn36 : qn h = qn hb) (hz36 : qz h = qz hb) : Ex G (qrm (6 + d) 0 0) mX12_needs (qn h0) (qz h0) (ZN G h0 0 0 (qqi Q)) 36 [(0, .ref l0), (1, .int l1), (2, .int l2), (3, .int l3)] [] h := by
  unfold wb_X12_needs_36 at hwp
  have hex := hex.tr hx36
  have hnn := hn36.trans hnn
  have hzz := hz36.trans hzz
  have okl0 := okl0.ex hx36
  refine x_iload_n (pc := 36) dX12_needs_36 rfl ?_
  refine x_aload_n (pc := 37) dX12_needs_37 rfl ?_
  obtain ⟨b8, e9, hwp⟩ := hwp
  refine x_getR (pc := 38) dX12_needs_38 qRX12_19 okl0 e9 (fun okb8 => ?_)
  refine x_iconst (v := 0) (pc := 41) dX12_needs_41 (by decide) ?_
  obtain ⟨i10, hwp⟩ := hwp
  refine x_iaload (pc := 42) dX12_needs_42 okb8 i10 ?_
  refine x_icmp_ge (tgt := 73) (pc := 43) dX12_needs_43 (by decide) (fun c11 => ?_) (fun c11 => ?_)
  · have hwp := hwp.1 c11
    refine x_iload_n (pc := 73) dX12_needs_73 rfl ?_
    exact x_iret (pc := 74) dX12_needs_74 rfl hex hnn hzz ⟨_, rfl, hwp⟩
  · have hwp := hwp.2 c11
    refine x_aload_n (pc := 46) dX12_needs_46 rfl ?_
    refine x_iload_n (pc := 47) dX12_needs_47 rfl ?_
    refine x_iload_n (pc := 48) dX12_needs_48 rfl ?_
    refine x_invV (As := [.int l3, .int l1]) (st := []) (pc := 49) dX12_needs_49 lRX12_275 fX12_sumOf vX12_sumOf okl0 rfl (Nat.le_of_ble_eq_true rfl) (q_R (by omega) (by decide)) (q_C hnn hzz (by decide) (by decide)) (sn_X12_sumOf G (d + 0) l0 l3 l1 h _ okl0 hwp) (k_i (fun r13 h12 hwp cxh12 => ?_))
    have hex := hex.tr cxh12.1
    have hnn : qn h12 = qn h0 + 0 := by have := cxh12.2.1; omega
    have hzz : qz h12 = qz h0 + 0 := by have := cxh12.2.2; omega
    have hx36 := hx36.tr cxh12.1
    have hn36 : qn h12 = qn hb := by have := cxh12.2.1; omega
    have hz36 : qz h12 = qz hb := by have := cxh12.2.2; omega
    have okl0 := okl0.ex cxh12.1
    have okb8 := okb8.ex cxh12.1
    refine x_aload_n (pc := 52) dX12_needs_52 rfl ?_
    refine x_iload_n (pc := 53) dX12_needs_53 rfl ?_
    refine x_iconst (v := 0) (pc := 54) dX12_needs_54 (by decide) ?_
    refine x_invV (As := [.int l3, .int 0]) (st := [.int r13]) (pc := 55) dX12_needs_55 lRX12_275 fX12_sumOf vX12_sumOf okl0 rfl (Nat.le_of_ble_eq_true rfl) (q_R (by omega) (by decide)) (q_C hnn hzz (by decide) (by decide)) (sn_X12_sumOf G (d + 0) l0 l3 0 h12 _ okl0 hwp) (k_i (fun r15 h14 hwp cxh14 => ?_))
    have hex := hex.tr cxh14.1
    have hnn : qn h14 = qn h0 + 0 := by have := cxh14.2.1; omega
    have hzz : qz h14 = qz h0 + 0 := by have := cxh14.2.2; omega
    have hx36 := hx36.tr cxh14.1
    have hn36 : qn h14 = qn hb := by have := cxh14.2.1; omega
    have hz36 : qz h14 = qz hb := by have := cxh14.2.2; omega
    have okl0 := okl0.ex cxh14.1
    have okb8 := okb8.ex cxh14.1
    refine x_icmp_eq (tgt := 67) (pc := 58) dX12_needs_58 (by decide) (fun c16 => ?_) (fun c16 => ?_)
    · have hwp := hwp.1 c16
      refine y_iinc (c := 1) (pc := 67) dX12_needs_67 rfl (by decide) (by decide) (fun v17 ev17 => ?_)
      have hwp := hwp v17 ev17
      refine x_lvE (lv2 := [(3, .int v17), (0, .ref l0), (1, .int l1), (2, .int l2)]) rfl ?_
      refine x_goto (tgt := 36) (pc := 70) dX12_needs_70 (by decide) ?_
      refine x_sub [1, 2, 3, 0] rfl ?_
      exact hbk36 _ hwp ⟨hx36, hn36, hz36⟩
    · have hwp := hwp.2 c16
      refine x_iload_n (pc := 61) dX12_needs_61 rfl ?_
      refine x_iconst (v := 1) (pc := 62) dX12_needs_62 (by decide) ?_
      refine x_iload_n (pc := 63) dX12_needs_63 rfl ?_
      refine x_ishl (pc := 64) dX12_needs_64 ?_
      refine x_ior (pc := 65) dX12_needs_65 ?_
      refine x_nmI (fun v18 ev18 => ?_)
      have hwp := hwp v18 ev18
      refine x_istore_n (lv2 := [(2, .int v18), (0, .ref l0), (1, .int l1), (3, .int l3)]) (pc := 66) dX12_needs_66 (by decide) rfl ?_
      refine y_iinc (c := 1) (pc := 67) dX12_needs_67 rfl (by decide) (by decide) (fun v19 ev19 => ?_)
      have hwp := hwp v19 ev19
      refine x_lvE (lv2 := [(3, .int v19), (2, .int v18), (0, .ref l0), (1, .int l1)]) rfl ?_
      refine x_goto (tgt := 36) (pc := 70) dX12_needs_70 (by decide) ?_
      refine x_sub [2, 3, 1, 0] rfl ?_
      exact hbk36 _ hwp ⟨hx36, hn36, hz36⟩
theorem lp_X12_needs_36 (G : GT) (d : Nat) (h0 hb : PH) (l0 : Nat) (l1 : Int32) (Q : Int32 → PH → Prop)  (hex : qEx h0 hb) (hnn : qn hb = qn h0 + 0) (hzz : qz hb = qz h0 + 0) (okl0 : qOK hb 11 l0) {s : Int32 × Int32 × PH} (hwp : qLoop (wp_X12_needs_36 l0 l1 Q) s) : E_X12_needs_36 G d h0 hb l0 l1 Q s :=
  qLoop.use (E := E_X12_needs_36 G d h0 hb l0 l1 Q) (fun back s hbk hw hx => bd_X12_needs_36 G d h0 hb l0 l1 Q hex hnn hzz okl0 back hbk s.1 s.2.1 s.2.2 hw hx.1 hx.2.1 hx.2.2) hwp
def wp_X12_needs (l0 : Nat) (l1 : Int32) (h : PH) (Q : Int32 → PH → Prop) : Prop := (∀ h1, h1 = qsI h l0 0 0 → (wp_X12_lay l0 h1 (fun h2 => ((l1 = 1 → (qLoop (wp_X12_needs_36 l0 l1 Q) (0, 0, h2))) ∧ (¬ (l1 = 1) → ((l1 = 2 → (qLoop (wp_X12_needs_36 l0 l1 Q) (0, 0, h2))) ∧ (¬ (l1 = 2) → ((l1 = 4 → (qLoop (wp_X12_needs_36 l0 l1 Q) (0, 0, h2))) ∧ (¬ (l1 = 4) → ((l1 = 8 → (qLoop (wp_X12_needs_36 l0 l1 Q) (0, 0, h2))) ∧ (¬ (l1 = 8) → Q (-1) h2)))))))))))
set_option maxHeartbeats 4000000 in
set_option maxRecDepth 100000 in
theorem sn_X12_needs (G : GT) (d : Nat) (l0 : Nat) (l1 : Int32) (h : PH) (Q : Int32 → PH → Prop) (okl0 : qOK h 11 l0) (hwp : wp_X12_needs l0 l1 h Q) : Mt G (6 + d) 0 0 mX12_needs [.ref l0, .int l1] h (qqi Q) := by
  unfold wp_X12_needs at hwp
  refine Mt.of (by decide) rfl (Nat.le_of_ble_eq_true rfl) ?_
  have hex := qEx.rf h
  have hnn : qn h = qn h + 0 := rfl
  have hzz : qz h = qz h + 0 := rfl
  refine x_lvE (lv2 := [(0, .ref l0), (1, .int l1)]) rfl ?_
  refine x_aload_n (pc := 0) dX12_needs_0 rfl ?_
  refine x_iconst (v := 0) (pc := 1) dX12_needs_1 (by decide) ?_
  refine y_putI (pc := 2) dX12_needs_2 qRX12_75 okl0 (fun h1 eh1 nxh1 => ?_)
  have hwp := hwp h1 eh1
  have hex := hex.tr nxh1.1
  have hnn := nxh1.2.1.trans hnn
  have hzz := nxh1.2.2.trans hzz
  have okl0 := okl0.ex nxh1.1
  refine x_aload_n (pc := 5) dX12_needs_5 rfl ?_
  refine x_invV (As := []) (st := []) (pc := 6) dX12_needs_6 lRX12_217 fX12_lay vX12_lay okl0 rfl (Nat.le_of_ble_eq_true rfl) (q_R (by omega) (by decide)) (q_C hnn hzz (by decide) (by decide)) (sn_X12_lay G (d + 5) l0 h1 _ okl0 hwp) (k_v (fun h2 hwp cxh2 => ?_))
  have hex := hex.tr cxh2.1
  have hnn : qn h2 = qn h + 0 := by have := cxh2.2.1; omega
  have hzz : qz h2 = qz h + 0 := by have := cxh2.2.2; omega
  have okl0 := okl0.ex cxh2.1
  refine x_iload_n (pc := 9) dX12_needs_9 rfl ?_
  refine x_iconst (v := 1) (pc := 10) dX12_needs_10 (by decide) ?_
  refine x_icmp_eq (tgt := 32) (pc := 11) dX12_needs_11 (by decide) (fun c4 => ?_) (fun c4 => ?_)
  · have hwp := hwp.1 c4
    refine x_iconst (v := 0) (pc := 32) dX12_needs_32 (by decide) ?_
    refine x_istore_n (lv2 := [(2, .int 0), (0, .ref l0), (1, .int l1)]) (pc := 33) dX12_needs_33 (by decide) rfl ?_
    refine x_iconst (v := 0) (pc := 34) dX12_needs_34 (by decide) ?_
    refine x_istore_n (lv2 := [(3, .int 0), (2, .int 0), (0, .ref l0), (1, .int l1)]) (pc := 35) dX12_needs_35 (by decide) rfl ?_
    refine x_sub [2, 3, 1, 0] rfl ?_
    exact lp_X12_needs_36 G d h h2 l0 l1 Q hex hnn hzz okl0 hwp ⟨qEx.rf _, rfl, rfl⟩
  · have hwp := hwp.2 c4
    refine x_iload_n (pc := 14) dX12_needs_14 rfl ?_
    refine x_iconst (v := 2) (pc := 15) dX12_needs_15 (by decide) ?_
    refine x_icmp_eq (tgt := 32) (pc := 16) dX12_needs_16 (by decide) (fun c5 => ?_) (fun c5 => ?_)
    · have hwp := hwp.1 c5
      refine x_iconst (v := 0) (pc := 32) dX12_needs_32 (by decide) ?_
      refine x_istore_n (lv2 := [(2, .int 0), (0, .ref l0), (1, .int l1)]) (pc := 33) dX12_needs_33 (by decide) rfl ?_
      refine x_iconst (v := 0) (pc := 34) dX12_needs_34 (by decide) ?_
      refine x_istore_n (lv2 := [(3, .int 0), (2, .int 0), (0, .ref l0), (1, .int l1)]) (pc := 35) dX12_needs_35 (by decide) rfl ?_
      refine x_sub [2, 3, 1, 0] rfl ?_
      exact lp_X12_needs_36 G d h h2 l0 l1 Q hex hnn hzz okl0 hwp ⟨qEx.rf _, rfl, rfl⟩
    · have hwp := hwp.2 c5
      refine x_iload_n (pc := 19) dX12_needs_19 rfl ?_
      refine x_iconst (v := 4) (pc := 20) dX12_needs_20 (by decide) ?_
      refine x_icmp_eq (tgt := 32) (pc := 21) dX12_needs_21 (by decide) (fun c6 => ?_) (fun c6 => ?_)
      · have hwp := hwp.1 c6
        refine x_iconst (v := 0) (pc := 32) dX12_needs_32 (by decide) ?_
        refine x_istore_n (lv2 := [(2, .int 0), (0, .ref l0), (1, .int l1)]) (pc := 33) dX12_needs_33 (by decide) rfl ?_
        refine x_iconst (v := 0) (pc := 34) dX12_needs_34 (by decide) ?_
        refine x_istore_n (lv2 := [(3, .int 0), (2, .int 0), (0, .ref l0), (1, .int l1)]) (pc := 35) dX12_needs_35 (by decide) rfl ?_
        refine x_sub [2, 3, 1, 0] rfl ?_
        exact lp_X12_needs_36 G d h h2 l0 l1 Q hex hnn hzz okl0 hwp ⟨qEx.rf _, rfl, rfl⟩
      · have hwp := hwp.2 c6
        refine x_iload_n (pc := 24) dX12_needs_24 rfl ?_
        refine x_bipush (v := 8) (pc := 25) dX12_needs_25 (by decide) ?_
        refine x_icmp_eq (tgt := 32) (pc := 27) dX12_needs_27 (by decide) (fun c7 => ?_) (fun c7 => ?_)
        · have hwp := hwp.1 c7
          refine x_iconst (v := 0) (pc := 32) dX12_needs_32 (by decide) ?_
          refine x_istore_n (lv2 := [(2, .int 0), (0, .ref l0), (1, .int l1)]) (pc := 33) dX12_needs_33 (by decide) rfl ?_
          refine x_iconst (v := 0) (pc := 34) dX12_needs_34 (by decide) ?_
          refine x_istore_n (lv2 := [(3, .int 0), (2, .int 0), (0, .ref l0), (1, .int l1)]) (pc := 35) dX12_needs_35 (by decide) rfl ?_
          refine x_sub [2, 3, 1, 0] rfl ?_
          exact lp_X12_needs_36 G d h h2 l0 l1 Q hex hnn hzz okl0 hwp ⟨qEx.rf _, rfl, rfl⟩
        · have hwp := hwp.2 c7
          refine x_iconst (v := (-1)) (pc := 30) dX12_needs_30 (by decide) ?_
          exact x_iret (pc := 31) dX12_needs_31 rfl hex hnn hzz ⟨_, rfl, hwp⟩

theorem dX12_comesSo_0 : decode cX12_comesSo 0 = .ok (.iload_n 2, 1) := by decide +kernel
theorem dX12_comesSo_1 : decode cX12_comesSo 1 = .ok (.istore 5, 2) := by decide +kernel
theorem dX12_comesSo_3 : decode cX12_comesSo 3 = .ok (.iconst 0, 1) := by decide +kernel
theorem dX12_comesSo_4 : decode cX12_comesSo 4 = .ok (.istore 6, 2) := by decide +kernel
theorem dX12_comesSo_6 : decode cX12_comesSo 6 = .ok (.iload 6, 2) := by decide +kernel
theorem dX12_comesSo_8 : decode cX12_comesSo 8 = .ok (.aload_n 0, 1) := by decide +kernel
theorem dX12_comesSo_9 : decode cX12_comesSo 9 = .ok (.getfield 378, 3) := by decide +kernel
theorem dX12_comesSo_12 : decode cX12_comesSo 12 = .ok (.if_icmp .ge 66, 3) := by decide +kernel
theorem dX12_comesSo_15 : decode cX12_comesSo 15 = .ok (.aload_n 0, 1) := by decide +kernel
theorem dX12_comesSo_16 : decode cX12_comesSo 16 = .ok (.iload_n 1, 1) := by decide +kernel
theorem dX12_comesSo_17 : decode cX12_comesSo 17 = .ok (.iload 6, 2) := by decide +kernel
theorem dX12_comesSo_19 : decode cX12_comesSo 19 = .ok (.iadd, 1) := by decide +kernel
theorem dX12_comesSo_20 : decode cX12_comesSo 20 = .ok (.invokevirtual 239, 3) := by decide +kernel
theorem dX12_comesSo_23 : decode cX12_comesSo 23 = .ok (.istore 7, 2) := by decide +kernel
theorem dX12_comesSo_25 : decode cX12_comesSo 25 = .ok (.iload 5, 2) := by decide +kernel
theorem dX12_comesSo_27 : decode cX12_comesSo 27 = .ok (.aload_n 0, 1) := by decide +kernel
theorem dX12_comesSo_28 : decode cX12_comesSo 28 = .ok (.getfield 33, 3) := by decide +kernel
theorem dX12_comesSo_31 : decode cX12_comesSo 31 = .ok (.iload 7, 2) := by decide +kernel
theorem dX12_comesSo_33 : decode cX12_comesSo 33 = .ok (.iaload, 1) := by decide +kernel
theorem dX12_comesSo_34 : decode cX12_comesSo 34 = .ok (.iload 7, 2) := by decide +kernel
theorem dX12_comesSo_36 : decode cX12_comesSo 36 = .ok (.iload_n 3, 1) := by decide +kernel
theorem dX12_comesSo_37 : decode cX12_comesSo 37 = .ok (.if_icmp .ne 8, 3) := by decide +kernel
theorem dX12_comesSo_40 : decode cX12_comesSo 40 = .ok (.iload 4, 2) := by decide +kernel
theorem dX12_comesSo_42 : decode cX12_comesSo 42 = .ok (.goto 4, 3) := by decide +kernel
theorem dX12_comesSo_45 : decode cX12_comesSo 45 = .ok (.iconst 0, 1) := by decide +kernel
theorem dX12_comesSo_46 : decode cX12_comesSo 46 = .ok (.iadd, 1) := by decide +kernel
theorem dX12_comesSo_47 : decode cX12_comesSo 47 = .ok (.iadd, 1) := by decide +kernel
theorem dX12_comesSo_48 : decode cX12_comesSo 48 = .ok (.istore 5, 2) := by decide +kernel
theorem dX12_comesSo_50 : decode cX12_comesSo 50 = .ok (.iload 5, 2) := by decide +kernel
theorem dX12_comesSo_52 : decode cX12_comesSo 52 = .ok (.ifCond .lt 18, 3) := by decide +kernel
theorem dX12_comesSo_55 : decode cX12_comesSo 55 = .ok (.iload 5, 2) := by decide +kernel
theorem dX12_comesSo_57 : decode cX12_comesSo 57 = .ok (.bipush 10, 2) := by decide +kernel
theorem dX12_comesSo_59 : decode cX12_comesSo 59 = .ok (.idiv, 1) := by decide +kernel
theorem dX12_comesSo_60 : decode cX12_comesSo 60 = .ok (.aload_n 0, 1) := by decide +kernel
theorem dX12_comesSo_61 : decode cX12_comesSo 61 = .ok (.getfield 54, 3) := by decide +kernel
theorem dX12_comesSo_64 : decode cX12_comesSo 64 = .ok (.iload 6, 2) := by decide +kernel
theorem dX12_comesSo_66 : decode cX12_comesSo 66 = .ok (.iaload, 1) := by decide +kernel
theorem dX12_comesSo_67 : decode cX12_comesSo 67 = .ok (.if_icmp .eq 5, 3) := by decide +kernel
theorem dX12_comesSo_70 : decode cX12_comesSo 70 = .ok (.iconst 0, 1) := by decide +kernel
theorem dX12_comesSo_71 : decode cX12_comesSo 71 = .ok (.ireturn, 1) := by decide +kernel
theorem dX12_comesSo_72 : decode cX12_comesSo 72 = .ok (.iinc 6 1, 3) := by decide +kernel
theorem dX12_comesSo_75 : decode cX12_comesSo 75 = .ok (.goto (-69), 3) := by decide +kernel
theorem dX12_comesSo_78 : decode cX12_comesSo 78 = .ok (.iconst 1, 1) := by decide +kernel
theorem dX12_comesSo_79 : decode cX12_comesSo 79 = .ok (.ireturn, 1) := by decide +kernel
def E_X12_comesSo_6 (G : GT) (d : Nat) (h0 hb : PH) (l0 : Nat) (l1 : Int32) (l3 : Int32) (l4 : Int32) (Q : Int32 → PH → Prop) (s : Int32 × Int32 × PH) : Prop := qEx hb s.2.2 ∧ qn s.2.2 = qn hb ∧ qz s.2.2 = qz hb → Ex G (qrm (1 + d) 0 0) mX12_comesSo (qn h0) (qz h0) (ZN G h0 0 0 (qqb Q)) 6 [(0, .ref l0), (1, .int l1), (3, .int l3), (4, .int l4), (5, .int s.1), (6, .int s.2.1)] [] s.2.2
def wp_X12_comesSo_46 (l0 : Nat) (l1 : Int32) (l3 : Int32) (l4 : Int32) (l6 : Int32) (s0 : Int32) (s1 : Int32) (s2 : Int32) (bk6 : Int32 × Int32 × PH → Prop) (h : PH) (Q : Int32 → PH → Prop) : Prop := ∀ v8 : Int32, v8 = s2 + (s1 + s0) → ((v8 < 0 → Q 0 h) ∧ (¬ (v8 < 0) → (∃ b10, qR h l0 48 = some b10 ∧ (vp_in l6 (qL h b10) ∧ (((v8 / 10) = (qI h b10 l6.toNatClampNeg) → ∀ v14 : Int32, v14 = l6 + 1 → bk6 (v8, v14, h)) ∧ (¬ ((v8 / 10) = (qI h b10 l6.toNatClampNeg)) → Q 0 h))))))
set_option maxHeartbeats 4000000 in
set_option maxRecDepth 100000 in
theorem sg_X12_comesSo_46 (G : GT) (d : Nat) (h0 : PH) (l0 : Nat) (l1 : Int32) (l3 : Int32) (l4 : Int32) (l6 : Int32) (s0 : Int32) (s1 : Int32) (s2 : Int32) (h : PH) (Q : Int32 → PH → Prop) (hb6 : PH) (bk6 : Int32 × Int32 × PH → Prop) (hbk6 : ∀ s2, bk6 s2 → E_X12_comesSo_6 G d h0 hb6 l0 l1 l3 l4 Q s2) (hx6 : qEx hb6 h) (hn6 : qn h = qn hb6) (hz6 : qz h = qz hb6) (hex : qEx h0 h) (hnn : qn h = qn h0 + 0) (hzz : qz h = qz h0 + 0) (okl0 : qOK h 11 l0) (hwp : wp_X12_comesSo_46 l0 l1 l3 l4 l6 s0 s1 s2 bk6 h Q) : Ex G (qrm (1 + d) 0 0) mX12_comesSo (qn h0) (qz h0) (ZN G h0 0 0 (qqb Q)) 46 [(0, .ref l0), (1, .int l1), (3, .int l3), (4, .int l4), (6, .int l6)] [.int s0, .int s1, .int s2] h := by
  unfold wp_X12_comesSo_46 at hwp
  refine x_iadd (pc := 46) dX12_comesSo_46 ?_
  refine x_iadd (pc := 47) dX12_comesSo_47 ?_
  refine x_nmI (fun v8 ev8 => ?_)
  have hwp := hwp v8 ev8
  refine x_istore (lv2 := [(5, .int v8), (0, .ref l0), (1, .int l1), (3, .int l3), (4, .int l4), (6, .int l6)]) (pc := 48) dX12_comesSo_48 (by decide) rfl ?_
  refine x_iload (pc := 50) dX12_comesSo_50 rfl ?_
  refine x_if_lt (tgt := 70) (pc := 52) dX12_comesSo_52 (by decide) (fun c9 => ?_) (fun c9 => ?_)
  · have hwp := hwp.1 c9
    refine x_iconst (v := 0) (pc := 70) dX12_comesSo_70 (by decide) ?_
    exact x_zret (pc := 71) dX12_comesSo_71 rfl hex hnn hzz (by decide) ⟨_, rfl, by decide, hwp⟩
  · have hwp := hwp.2 c9
    refine x_iload (pc := 55) dX12_comesSo_55 rfl ?_
    refine x_bipush (v := 10) (pc := 57) dX12_comesSo_57 (by decide) ?_
    refine x_idiv (pc := 59) dX12_comesSo_59 (by decide) ?_
    refine x_aload_n (pc := 60) dX12_comesSo_60 rfl ?_
    obtain ⟨b10, e11, hwp⟩ := hwp
    refine x_getR (pc := 61) dX12_comesSo_61 qRX12_54 okl0 e11 (fun okb10 => ?_)
    refine x_iload (pc := 64) dX12_comesSo_64 rfl ?_
    obtain ⟨i12, hwp⟩ := hwp
    refine x_iaload (pc := 66) dX12_comesSo_66 okb10 i12 ?_
    refine x_icmp_eq (tgt := 72) (pc := 67) dX12_comesSo_67 (by decide) (fun c13 => ?_) (fun c13 => ?_)
    · have hwp := hwp.1 c13
      refine y_iinc (c := 1) (pc := 72) dX12_comesSo_72 rfl (by decide) (by decide) (fun v14 ev14 => ?_)
      have hwp := hwp v14 ev14
      refine x_lvE (lv2 := [(6, .int v14), (5, .int v8), (0, .ref l0), (1, .int l1), (3, .int l3), (4, .int l4)]) rfl ?_
      refine x_goto (tgt := 6) (pc := 75) dX12_comesSo_75 (by decide) ?_
      refine x_sub [2, 3, 4, 5, 1, 0] rfl ?_
      exact hbk6 _ hwp ⟨hx6, hn6, hz6⟩
    · have hwp := hwp.2 c13
      refine x_iconst (v := 0) (pc := 70) dX12_comesSo_70 (by decide) ?_
      exact x_zret (pc := 71) dX12_comesSo_71 rfl hex hnn hzz (by decide) ⟨_, rfl, by decide, hwp⟩
def wb_X12_comesSo_6 (l0 : Nat) (l1 : Int32) (l3 : Int32) (l4 : Int32)  (Q : Int32 → PH → Prop) (bk6 : Int32 × Int32 × PH → Prop) (l5 : Int32) (l6 : Int32) (h : PH) : Prop := (((qI h l0 51) ≤ l6 → Q 1 h) ∧ (¬ ((qI h l0 51) ≤ l6) → (wp_X12_round l0 (l1 + l6) h (fun r3 h2 => (∃ b4, qR h2 l0 21 = some b4 ∧ (vp_in r3 (qL h2 b4) ∧ ((¬ r3 = l3 → (wp_X12_comesSo_46 l0 l1 l3 l4 l6 0 (qI h2 b4 r3.toNatClampNeg) l5 bk6 h2 Q)) ∧ (r3 = l3 → (wp_X12_comesSo_46 l0 l1 l3 l4 l6 l4 (qI h2 b4 r3.toNatClampNeg) l5 bk6 h2 Q)))))))))
def wp_X12_comesSo_6 (l0 : Nat) (l1 : Int32) (l3 : Int32) (l4 : Int32)  (Q : Int32 → PH → Prop) (bk6 : Int32 × Int32 × PH → Prop) (s : Int32 × Int32 × PH) : Prop := wb_X12_comesSo_6 l0 l1 l3 l4 Q bk6 s.1 s.2.1 s.2.2
set_option maxHeartbeats 4000000 in
set_option maxRecDepth 100000 in
theorem bd_X12_comesSo_6 (G : GT) (d : Nat) (h0 hb : PH) (l0 : Nat) (l1 : Int32) (l3 : Int32) (l4 : Int32) (Q : Int32 → PH → Prop)  (hex : qEx h0 hb) (hnn : qn hb = qn h0 + 0) (hzz : qz hb = qz h0 + 0) (okl0 : qOK hb 11 l0) (bk6 : Int32 × Int32 × PH → Prop) (hbk6 : ∀ s2, bk6 s2 → E_X12_comesSo_6 G d h0 hb l0 l1 l3 l4 Q s2) (l5 : Int32) (l6 : Int32) (h : PH) (hwp : wb_X12_comesSo_6 l0 l1 l3 l4 Q bk6 l5 l6 h) (hx6 : qEx hb h) (hn6 : qn h = qn hb) (hz6 : qz h = qz hb) : Ex G (qrm (1 + d) 0 0) mX12_comesSo (qn h0) (qz h0) (ZN G h0 0 0 (qqb Q)) 6 [(0, .ref l0), (1, .int l1), (3, .int l3), (4, .int l4), (5, .int l5), (6, .int l6)] [] h := by
  unfold wb_X12_comesSo_6 at hwp
  have hex := hex.tr hx6
  have hnn := hn6.trans hnn
  have hzz := hz6.trans hzz
  have okl0 := okl0.ex hx6
  refine x_iload (pc := 6) dX12_comesSo_6 rfl ?_
  refine x_aload_n (pc := 8) dX12_comesSo_8 rfl ?_
  refine x_getI (pc := 9) dX12_comesSo_9 qRX12_378 okl0 (by decide) ?_
  refine x_icmp_ge (tgt := 78) (pc := 12) dX12_comesSo_12 (by decide) (fun c1 => ?_) (fun c1 => ?_)
  · have hwp := hwp.1 c1
    refine x_iconst (v := 1) (pc := 78) dX12_comesSo_78 (by decide) ?_
    exact x_zret (pc := 79) dX12_comesSo_79 rfl hex hnn hzz (by decide) ⟨_, rfl, by decide, hwp⟩
  · have hwp := hwp.2 c1
    refine x_aload_n (pc := 15) dX12_comesSo_15 rfl ?_
    refine x_iload_n (pc := 16) dX12_comesSo_16 rfl ?_
    refine x_iload (pc := 17) dX12_comesSo_17 rfl ?_
    refine x_iadd (pc := 19) dX12_comesSo_19 ?_
    refine x_invV (As := [.int (l1 + l6)]) (st := []) (pc := 20) dX12_comesSo_20 lRX12_239 fX12_round vX12_round okl0 rfl (Nat.le_of_ble_eq_true rfl) (q_R (by omega) (by decide)) (q_C hnn hzz (by decide) (by decide)) (sn_X12_round G (d + 0) l0 (l1 + l6) h _ okl0 hwp) (k_i (fun r3 h2 hwp cxh2 => ?_))
    have hex := hex.tr cxh2.1
    have hnn : qn h2 = qn h0 + 0 := by have := cxh2.2.1; omega
    have hzz : qz h2 = qz h0 + 0 := by have := cxh2.2.2; omega
    have hx6 := hx6.tr cxh2.1
    have hn6 : qn h2 = qn hb := by have := cxh2.2.1; omega
    have hz6 : qz h2 = qz hb := by have := cxh2.2.2; omega
    have okl0 := okl0.ex cxh2.1
    refine x_istore (lv2 := [(7, .int r3), (0, .ref l0), (1, .int l1), (3, .int l3), (4, .int l4), (5, .int l5), (6, .int l6)]) (pc := 23) dX12_comesSo_23 (by decide) rfl ?_
    refine x_iload (pc := 25) dX12_comesSo_25 rfl ?_
    refine x_aload_n (pc := 27) dX12_comesSo_27 rfl ?_
    obtain ⟨b4, e5, hwp⟩ := hwp
    refine x_getR (pc := 28) dX12_comesSo_28 qRX12_33 okl0 e5 (fun okb4 => ?_)
    refine x_iload (pc := 31) dX12_comesSo_31 rfl ?_
    obtain ⟨i6, hwp⟩ := hwp
    refine x_iaload (pc := 33) dX12_comesSo_33 okb4 i6 ?_
    refine x_iload (pc := 34) dX12_comesSo_34 rfl ?_
    refine x_iload_n (pc := 36) dX12_comesSo_36 rfl ?_
    refine x_icmp_ne (tgt := 45) (pc := 37) dX12_comesSo_37 (by decide) (fun c7 => ?_) (fun c7 => ?_)
    · have hwp := hwp.1 c7
      refine x_iconst (v := 0) (pc := 45) dX12_comesSo_45 (by decide) ?_
      refine x_sub [1, 2, 3, 4, 6] rfl ?_
      exact sg_X12_comesSo_46 G d h0 l0 l1 l3 l4 l6 0 (qI h2 b4 r3.toNatClampNeg) l5 h2 Q hb bk6 hbk6 hx6 hn6 hz6 hex hnn hzz okl0 hwp
    · have hwp := hwp.2 c7
      refine x_iload (pc := 40) dX12_comesSo_40 rfl ?_
      refine x_goto (tgt := 46) (pc := 42) dX12_comesSo_42 (by decide) ?_
      refine x_sub [1, 2, 3, 4, 6] rfl ?_
      exact sg_X12_comesSo_46 G d h0 l0 l1 l3 l4 l6 l4 (qI h2 b4 r3.toNatClampNeg) l5 h2 Q hb bk6 hbk6 hx6 hn6 hz6 hex hnn hzz okl0 hwp
theorem lp_X12_comesSo_6 (G : GT) (d : Nat) (h0 hb : PH) (l0 : Nat) (l1 : Int32) (l3 : Int32) (l4 : Int32) (Q : Int32 → PH → Prop)  (hex : qEx h0 hb) (hnn : qn hb = qn h0 + 0) (hzz : qz hb = qz h0 + 0) (okl0 : qOK hb 11 l0) {s : Int32 × Int32 × PH} (hwp : qLoop (wp_X12_comesSo_6 l0 l1 l3 l4 Q) s) : E_X12_comesSo_6 G d h0 hb l0 l1 l3 l4 Q s :=
  qLoop.use (E := E_X12_comesSo_6 G d h0 hb l0 l1 l3 l4 Q) (fun back s hbk hw hx => bd_X12_comesSo_6 G d h0 hb l0 l1 l3 l4 Q hex hnn hzz okl0 back hbk s.1 s.2.1 s.2.2 hw hx.1 hx.2.1 hx.2.2) hwp
def wp_X12_comesSo (l0 : Nat) (l1 : Int32) (l2 : Int32) (l3 : Int32) (l4 : Int32) (h : PH) (Q : Int32 → PH → Prop) : Prop := (qLoop (wp_X12_comesSo_6 l0 l1 l3 l4 Q) (l2, 0, h))
set_option maxHeartbeats 4000000 in
set_option maxRecDepth 100000 in
theorem sn_X12_comesSo (G : GT) (d : Nat) (l0 : Nat) (l1 : Int32) (l2 : Int32) (l3 : Int32) (l4 : Int32) (h : PH) (Q : Int32 → PH → Prop) (okl0 : qOK h 11 l0) (hwp : wp_X12_comesSo l0 l1 l2 l3 l4 h Q) : Mt G (1 + d) 0 0 mX12_comesSo [.ref l0, .int l1, .int l2, .int l3, .int l4] h (qqb Q) := by
  unfold wp_X12_comesSo at hwp
  refine Mt.of (by decide) rfl (Nat.le_of_ble_eq_true rfl) ?_
  have hex := qEx.rf h
  have hnn : qn h = qn h + 0 := rfl
  have hzz : qz h = qz h + 0 := rfl
  refine x_lvE (lv2 := [(0, .ref l0), (1, .int l1), (2, .int l2), (3, .int l3), (4, .int l4)]) rfl ?_
  refine x_iload_n (pc := 0) dX12_comesSo_0 rfl ?_
  refine x_istore (lv2 := [(5, .int l2), (0, .ref l0), (1, .int l1), (2, .int l2), (3, .int l3), (4, .int l4)]) (pc := 1) dX12_comesSo_1 (by decide) rfl ?_
  refine x_iconst (v := 0) (pc := 3) dX12_comesSo_3 (by decide) ?_
  refine x_istore (lv2 := [(6, .int 0), (5, .int l2), (0, .ref l0), (1, .int l1), (2, .int l2), (3, .int l3), (4, .int l4)]) (pc := 4) dX12_comesSo_4 (by decide) rfl ?_
  refine x_sub [2, 3, 5, 6, 1, 0] rfl ?_
  exact lp_X12_comesSo_6 G d h h l0 l1 l3 l4 Q hex hnn hzz okl0 hwp ⟨qEx.rf _, rfl, rfl⟩

theorem dX7_knownWord_0 : decode cX7_knownWord 0 = .ok (.aload_n 0, 1) := by decide +kernel
theorem dX7_knownWord_1 : decode cX7_knownWord 1 = .ok (.getfield 9, 3) := by decide +kernel
theorem dX7_knownWord_4 : decode cX7_knownWord 4 = .ok (.aload_n 0, 1) := by decide +kernel
theorem dX7_knownWord_5 : decode cX7_knownWord 5 = .ok (.getfield 25, 3) := by decide +kernel
theorem dX7_knownWord_8 : decode cX7_knownWord 8 = .ok (.iaload, 1) := by decide +kernel
theorem dX7_knownWord_9 : decode cX7_knownWord 9 = .ok (.iconst 1, 1) := by decide +kernel
theorem dX7_knownWord_10 : decode cX7_knownWord 10 = .ok (.if_icmp .eq 5, 3) := by decide +kernel
theorem dX7_knownWord_13 : decode cX7_knownWord 13 = .ok (.aconst_null, 1) := by decide +kernel
theorem dX7_knownWord_14 : decode cX7_knownWord 14 = .ok (.areturn, 1) := by decide +kernel
theorem dX7_knownWord_15 : decode cX7_knownWord 15 = .ok (.iconst 0, 1) := by decide +kernel
theorem dX7_knownWord_16 : decode cX7_knownWord 16 = .ok (.istore_n 1, 1) := by decide +kernel
theorem dX7_knownWord_17 : decode cX7_knownWord 17 = .ok (.iload_n 1, 1) := by decide +kernel
theorem dX7_knownWord_18 : decode cX7_knownWord 18 = .ok (.getstatic 79, 3) := by decide +kernel
theorem dX7_knownWord_21 : decode cX7_knownWord 21 = .ok (.arraylength, 1) := by decide +kernel
theorem dX7_knownWord_22 : decode cX7_knownWord 22 = .ok (.if_icmp .ge 35, 3) := by decide +kernel
theorem dX7_knownWord_25 : decode cX7_knownWord 25 = .ok (.getstatic 79, 3) := by decide +kernel
theorem dX7_knownWord_28 : decode cX7_knownWord 28 = .ok (.iload_n 1, 1) := by decide +kernel
theorem dX7_knownWord_29 : decode cX7_knownWord 29 = .ok (.aaload, 1) := by decide +kernel
theorem dX7_knownWord_30 : decode cX7_knownWord 30 = .ok (.getfield 76, 3) := by decide +kernel
theorem dX7_knownWord_33 : decode cX7_knownWord 33 = .ok (.aload_n 0, 1) := by decide +kernel
theorem dX7_knownWord_34 : decode cX7_knownWord 34 = .ok (.getfield 15, 3) := by decide +kernel
theorem dX7_knownWord_37 : decode cX7_knownWord 37 = .ok (.aload_n 0, 1) := by decide +kernel
theorem dX7_knownWord_38 : decode cX7_knownWord 38 = .ok (.getfield 25, 3) := by decide +kernel
theorem dX7_knownWord_41 : decode cX7_knownWord 41 = .ok (.iaload, 1) := by decide +kernel
theorem dX7_knownWord_42 : decode cX7_knownWord 42 = .ok (.if_icmp .ne 9, 3) := by decide +kernel
theorem dX7_knownWord_45 : decode cX7_knownWord 45 = .ok (.getstatic 79, 3) := by decide +kernel
theorem dX7_knownWord_48 : decode cX7_knownWord 48 = .ok (.iload_n 1, 1) := by decide +kernel
theorem dX7_knownWord_49 : decode cX7_knownWord 49 = .ok (.aaload, 1) := by decide +kernel
theorem dX7_knownWord_50 : decode cX7_knownWord 50 = .ok (.areturn, 1) := by decide +kernel
theorem dX7_knownWord_51 : decode cX7_knownWord 51 = .ok (.iinc 1 1, 3) := by decide +kernel
theorem dX7_knownWord_54 : decode cX7_knownWord 54 = .ok (.goto (-37), 3) := by decide +kernel
theorem dX7_knownWord_57 : decode cX7_knownWord 57 = .ok (.aconst_null, 1) := by decide +kernel
theorem dX7_knownWord_58 : decode cX7_knownWord 58 = .ok (.areturn, 1) := by decide +kernel
def E_X7_knownWord_17 (G : GT) (d : Nat) (h0 hb : PH) (l0 : Nat) (Q : Option Nat → PH → Prop) (s : Int32 × PH) : Prop := qEx hb s.2 ∧ qn s.2 = qn hb ∧ qz s.2 = qz hb → Ex G (qrm (0 + d) 0 0) mX7_knownWord (qn h0) (qz h0) (ZN G h0 0 0 (qqr Q)) 17 [(0, .ref l0), (1, .int s.1)] [] s.2
def wb_X7_knownWord_17 (l0 : Nat)  (Q : Option Nat → PH → Prop) (bk17 : Int32 × PH → Prop) (l1 : Int32) (h : PH) : Prop := ((34 ≤ l1 → Q none h) ∧ (¬ (34 ≤ l1) → (vp_in l1 34 ∧ (∃ i7, i7 < 34 ∧ (wd l1.toNatClampNeg) = wd i7 ∧ (∃ b9, qR h l0 1 = some b9 ∧ (vp_in (qI h l0 4) (qL h b9) ∧ ((¬ (q_wc 0 i7) = (qI h b9 (qI h l0 4).toNatClampNeg) → ∀ v13 : Int32, v13 = l1 + 1 → bk17 (v13, h)) ∧ ((q_wc 0 i7) = (qI h b9 (qI h l0 4).toNatClampNeg) → (vp_in l1 34 ∧ Q (some (wd l1.toNatClampNeg)) h)))))))))
def wp_X7_knownWord_17 (l0 : Nat)  (Q : Option Nat → PH → Prop) (bk17 : Int32 × PH → Prop) (s : Int32 × PH) : Prop := wb_X7_knownWord_17 l0 Q bk17 s.1 s.2
set_option maxHeartbeats 4000000 in
set_option maxRecDepth 100000 in
theorem bd_X7_knownWord_17 (G : GT) (d : Nat) (h0 hb : PH) (l0 : Nat) (Q : Option Nat → PH → Prop)  (hex : qEx h0 hb) (hnn : qn hb = qn h0 + 0) (hzz : qz hb = qz h0 + 0) (okl0 : qOK hb 7 l0) (bk17 : Int32 × PH → Prop) (hbk17 : ∀ s2, bk17 s2 → E_X7_knownWord_17 G d h0 hb l0 Q s2) (l1 : Int32) (h : PH) (hwp : wb_X7_knownWord_17 l0 Q bk17 l1 h) (hx17 : qEx hb h) (hn17 : qn h = qn hb) (hz17 : qz h = qz hb) : Ex G (qrm (0 + d) 0 0) mX7_knownWord (qn h0) (qz h0) (ZN G h0 0 0 (qqr Q)) 17 [(0, .ref l0), (1, .int l1)] [] h := by
  unfold wb_X7_knownWord_17 at hwp
  have hex := hex.tr hx17
  have hnn := hn17.trans hnn
  have hzz := hz17.trans hzz
  have okl0 := okl0.ex hx17
  refine x_iload_n (pc := 17) dX7_knownWord_17 rfl ?_
  refine x_known (pc := 18) dX7_knownWord_18 gRX7_79 ?_
  refine x_knlen (pc := 21) dX7_knownWord_21 ?_
  refine x_icmp_ge (tgt := 57) (pc := 22) dX7_knownWord_22 (by decide) (fun c5 => ?_) (fun c5 => ?_)
  · have hwp := hwp.1 c5
    refine x_null (pc := 57) dX7_knownWord_57 ?_
    exact x_aret (o := none) (pc := 58) dX7_knownWord_58 rfl hex hnn hzz ⟨_, rfl, hwp⟩
  · have hwp := hwp.2 c5
    refine x_known (pc := 25) dX7_knownWord_25 gRX7_79 ?_
    refine x_iload_n (pc := 28) dX7_knownWord_28 rfl ?_
    obtain ⟨i6, hwp⟩ := hwp
    refine x_knld (pc := 29) dX7_knownWord_29 i6 ?_
    obtain ⟨i7, hi7, e8, hwp⟩ := hwp
    refine x_wgetE (i := i7) (q := q_wt 0) e8 (pc := 30) dX7_knownWord_30 hi7 (by simp [q_wt, qwF]) wRX7_76 ?_
    refine x_aload_n (pc := 33) dX7_knownWord_33 rfl ?_
    obtain ⟨b9, e10, hwp⟩ := hwp
    refine x_getR (pc := 34) dX7_knownWord_34 qRX7_15 okl0 e10 (fun okb9 => ?_)
    refine x_aload_n (pc := 37) dX7_knownWord_37 rfl ?_
    refine x_getI (pc := 38) dX7_knownWord_38 qRX7_25 okl0 (by decide) ?_
    obtain ⟨i11, hwp⟩ := hwp
    refine x_iaload (pc := 41) dX7_knownWord_41 okb9 i11 ?_
    refine x_icmp_ne (tgt := 51) (pc := 42) dX7_knownWord_42 (by decide) (fun c12 => ?_) (fun c12 => ?_)
    · have hwp := hwp.1 c12
      refine y_iinc (c := 1) (pc := 51) dX7_knownWord_51 rfl (by decide) (by decide) (fun v13 ev13 => ?_)
      have hwp := hwp v13 ev13
      refine x_lvE (lv2 := [(1, .int v13), (0, .ref l0)]) rfl ?_
      refine x_goto (tgt := 17) (pc := 54) dX7_knownWord_54 (by decide) ?_
      refine x_sub [1, 0] rfl ?_
      exact hbk17 _ hwp ⟨hx17, hn17, hz17⟩
    · have hwp := hwp.2 c12
      refine x_known (pc := 45) dX7_knownWord_45 gRX7_79 ?_
      refine x_iload_n (pc := 48) dX7_knownWord_48 rfl ?_
      obtain ⟨i14, hwp⟩ := hwp
      refine x_knld (pc := 49) dX7_knownWord_49 i14 ?_
      exact x_aret (o := some (wd l1.toNatClampNeg)) (pc := 50) dX7_knownWord_50 rfl hex hnn hzz ⟨_, rfl, hwp⟩
theorem lp_X7_knownWord_17 (G : GT) (d : Nat) (h0 hb : PH) (l0 : Nat) (Q : Option Nat → PH → Prop)  (hex : qEx h0 hb) (hnn : qn hb = qn h0 + 0) (hzz : qz hb = qz h0 + 0) (okl0 : qOK hb 7 l0) {s : Int32 × PH} (hwp : qLoop (wp_X7_knownWord_17 l0 Q) s) : E_X7_knownWord_17 G d h0 hb l0 Q s :=
  qLoop.use (E := E_X7_knownWord_17 G d h0 hb l0 Q) (fun back s hbk hw hx => bd_X7_knownWord_17 G d h0 hb l0 Q hex hnn hzz okl0 back hbk s.1 s.2 hw hx.1 hx.2.1 hx.2.2) hwp
def wp_X7_knownWord (l0 : Nat) (h : PH) (Q : Option Nat → PH → Prop) : Prop := (∃ b1, qR h l0 0 = some b1 ∧ (vp_in (qI h l0 4) (qL h b1) ∧ (((qI h b1 (qI h l0 4).toNatClampNeg) = 1 → (qLoop (wp_X7_knownWord_17 l0 Q) (0, h))) ∧ (¬ ((qI h b1 (qI h l0 4).toNatClampNeg) = 1) → Q none h))))
set_option maxHeartbeats 4000000 in
set_option maxRecDepth 100000 in
theorem sn_X7_knownWord (G : GT) (d : Nat) (l0 : Nat) (h : PH) (Q : Option Nat → PH → Prop) (okl0 : qOK h 7 l0) (hwp : wp_X7_knownWord l0 h Q) : Mt G (0 + d) 0 0 mX7_knownWord [.ref l0] h (qqr Q) := by
  unfold wp_X7_knownWord at hwp
  refine Mt.of (by decide) rfl (Nat.le_of_ble_eq_true rfl) ?_
  have hex := qEx.rf h
  have hnn : qn h = qn h + 0 := rfl
  have hzz : qz h = qz h + 0 := rfl
  refine x_lvE (lv2 := [(0, .ref l0)]) rfl ?_
  refine x_aload_n (pc := 0) dX7_knownWord_0 rfl ?_
  obtain ⟨b1, e2, hwp⟩ := hwp
  refine x_getR (pc := 1) dX7_knownWord_1 qRX7_9 okl0 e2 (fun okb1 => ?_)
  refine x_aload_n (pc := 4) dX7_knownWord_4 rfl ?_
  refine x_getI (pc := 5) dX7_knownWord_5 qRX7_25 okl0 (by decide) ?_
  obtain ⟨i3, hwp⟩ := hwp
  refine x_iaload (pc := 8) dX7_knownWord_8 okb1 i3 ?_
  refine x_iconst (v := 1) (pc := 9) dX7_knownWord_9 (by decide) ?_
  refine x_icmp_eq (tgt := 15) (pc := 10) dX7_knownWord_10 (by decide) (fun c4 => ?_) (fun c4 => ?_)
  · have hwp := hwp.1 c4
    refine x_iconst (v := 0) (pc := 15) dX7_knownWord_15 (by decide) ?_
    refine x_istore_n (lv2 := [(1, .int 0), (0, .ref l0)]) (pc := 16) dX7_knownWord_16 (by decide) rfl ?_
    refine x_sub [1, 0] rfl ?_
    exact lp_X7_knownWord_17 G d h h l0 Q hex hnn hzz okl0 hwp ⟨qEx.rf _, rfl, rfl⟩
  · have hwp := hwp.2 c4
    refine x_null (pc := 13) dX7_knownWord_13 ?_
    exact x_aret (o := none) (pc := 14) dX7_knownWord_14 rfl hex hnn hzz ⟨_, rfl, hwp⟩

theorem dX7_fail_0 : decode cX7_fail 0 = .ok (.aload_n 0, 1) := by decide +kernel
theorem dX7_fail_1 : decode cX7_fail 1 = .ok (.iload_n 1, 1) := by decide +kernel
theorem dX7_fail_2 : decode cX7_fail 2 = .ok (.putfield 32, 3) := by decide +kernel
theorem dX7_fail_5 : decode cX7_fail 5 = .ok (.iconst 0, 1) := by decide +kernel
theorem dX7_fail_6 : decode cX7_fail 6 = .ok (.ireturn, 1) := by decide +kernel
def wp_X7_fail (l0 : Nat) (l1 : Int32) (h : PH) (Q : Int32 → PH → Prop) : Prop := (∀ h1, h1 = qsI h l0 6 l1 → Q 0 h1)
set_option maxHeartbeats 4000000 in
set_option maxRecDepth 100000 in
theorem sn_X7_fail (G : GT) (d : Nat) (l0 : Nat) (l1 : Int32) (h : PH) (Q : Int32 → PH → Prop) (okl0 : qOK h 7 l0) (hwp : wp_X7_fail l0 l1 h Q) : Mt G (0 + d) 0 0 mX7_fail [.ref l0, .int l1] h (qqb Q) := by
  unfold wp_X7_fail at hwp
  refine Mt.of (by decide) rfl (Nat.le_of_ble_eq_true rfl) ?_
  have hex := qEx.rf h
  have hnn : qn h = qn h + 0 := rfl
  have hzz : qz h = qz h + 0 := rfl
  refine x_lvE (lv2 := [(0, .ref l0), (1, .int l1)]) rfl ?_
  refine x_aload_n (pc := 0) dX7_fail_0 rfl ?_
  refine x_iload_n (pc := 1) dX7_fail_1 rfl ?_
  refine y_putI (pc := 2) dX7_fail_2 qRX7_32 okl0 (fun h1 eh1 nxh1 => ?_)
  have hwp := hwp h1 eh1
  have hex := hex.tr nxh1.1
  have hnn := nxh1.2.1.trans hnn
  have hzz := nxh1.2.2.trans hzz
  have okl0 := okl0.ex nxh1.1
  refine x_iconst (v := 0) (pc := 5) dX7_fail_5 (by decide) ?_
  exact x_zret (pc := 6) dX7_fail_6 rfl hex hnn hzz (by decide) ⟨_, rfl, by decide, hwp⟩

theorem dX7_pass_0 : decode cX7_pass 0 = .ok (.aload_n 0, 1) := by decide +kernel
theorem dX7_pass_1 : decode cX7_pass 1 = .ok (.getfield 25, 3) := by decide +kernel
theorem dX7_pass_4 : decode cX7_pass 4 = .ok (.aload_n 0, 1) := by decide +kernel
theorem dX7_pass_5 : decode cX7_pass 5 = .ok (.getfield 21, 3) := by decide +kernel
theorem dX7_pass_8 : decode cX7_pass 8 = .ok (.iconst 1, 1) := by decide +kernel
theorem dX7_pass_9 : decode cX7_pass 9 = .ok (.isub, 1) := by decide +kernel
theorem dX7_pass_10 : decode cX7_pass 10 = .ok (.if_icmp .ge 13, 3) := by decide +kernel
theorem dX7_pass_13 : decode cX7_pass 13 = .ok (.aload_n 0, 1) := by decide +kernel
theorem dX7_pass_14 : decode cX7_pass 14 = .ok (.dup, 1) := by decide +kernel
theorem dX7_pass_15 : decode cX7_pass 15 = .ok (.getfield 25, 3) := by decide +kernel
theorem dX7_pass_18 : decode cX7_pass 18 = .ok (.iconst 1, 1) := by decide +kernel
theorem dX7_pass_19 : decode cX7_pass 19 = .ok (.iadd, 1) := by decide +kernel
theorem dX7_pass_20 : decode cX7_pass 20 = .ok (.putfield 25, 3) := by decide +kernel
theorem dX7_pass_23 : decode cX7_pass 23 = .ok (.return_, 1) := by decide +kernel
def wp_X7_pass (l0 : Nat) (h : PH) (Q : PH → Prop) : Prop := ((((qI h l0 3) - 1) ≤ (qI h l0 4) → Q h) ∧ (¬ (((qI h l0 3) - 1) ≤ (qI h l0 4)) → (∀ h2, h2 = qsI h l0 4 ((qI h l0 4) + 1) → Q h2)))
set_option maxHeartbeats 4000000 in
set_option maxRecDepth 100000 in
theorem sn_X7_pass (G : GT) (d : Nat) (l0 : Nat) (h : PH) (Q : PH → Prop) (okl0 : qOK h 7 l0) (hwp : wp_X7_pass l0 h Q) : Mt G (0 + d) 0 0 mX7_pass [.ref l0] h (qqv Q) := by
  unfold wp_X7_pass at hwp
  refine Mt.of (by decide) rfl (Nat.le_of_ble_eq_true rfl) ?_
  have hex := qEx.rf h
  have hnn : qn h = qn h + 0 := rfl
  have hzz : qz h = qz h + 0 := rfl
  refine x_lvE (lv2 := [(0, .ref l0)]) rfl ?_
  refine x_aload_n (pc := 0) dX7_pass_0 rfl ?_
  refine x_getI (pc := 1) dX7_pass_1 qRX7_25 okl0 (by decide) ?_
  refine x_aload_n (pc := 4) dX7_pass_4 rfl ?_
  refine x_getI (pc := 5) dX7_pass_5 qRX7_21 okl0 (by decide) ?_
  refine x_iconst (v := 1) (pc := 8) dX7_pass_8 (by decide) ?_
  refine x_isub (pc := 9) dX7_pass_9 ?_
  refine x_icmp_ge (tgt := 23) (pc := 10) dX7_pass_10 (by decide) (fun c1 => ?_) (fun c1 => ?_)
  · have hwp := hwp.1 c1
    exact x_vret (pc := 23) dX7_pass_23 rfl hex hnn hzz ⟨rfl, hwp⟩
  · have hwp := hwp.2 c1
    refine x_aload_n (pc := 13) dX7_pass_13 rfl ?_
    refine x_dup (pc := 14) dX7_pass_14 rfl ?_
    refine x_getI (pc := 15) dX7_pass_15 qRX7_25 okl0 (by decide) ?_
    refine x_iconst (v := 1) (pc := 18) dX7_pass_18 (by decide) ?_
    refine x_iadd (pc := 19) dX7_pass_19 ?_
    refine y_putI (pc := 20) dX7_pass_20 qRX7_25 okl0 (fun h2 eh2 nxh2 => ?_)
    have hwp := hwp h2 eh2
    have hex := hex.tr nxh2.1
    have hnn := nxh2.2.1.trans hnn
    have hzz := nxh2.2.2.trans hzz
    have okl0 := okl0.ex nxh2.1
    exact x_vret (pc := 23) dX7_pass_23 rfl hex hnn hzz ⟨rfl, hwp⟩

theorem dX7_isWord_0 : decode cX7_isWord 0 = .ok (.aload_n 0, 1) := by decide +kernel
theorem dX7_isWord_1 : decode cX7_isWord 1 = .ok (.getfield 9, 3) := by decide +kernel
theorem dX7_isWord_4 : decode cX7_isWord 4 = .ok (.aload_n 0, 1) := by decide +kernel
theorem dX7_isWord_5 : decode cX7_isWord 5 = .ok (.getfield 25, 3) := by decide +kernel
theorem dX7_isWord_8 : decode cX7_isWord 8 = .ok (.iaload, 1) := by decide +kernel
theorem dX7_isWord_9 : decode cX7_isWord 9 = .ok (.iconst 1, 1) := by decide +kernel
theorem dX7_isWord_10 : decode cX7_isWord 10 = .ok (.if_icmp .ne 23, 3) := by decide +kernel
theorem dX7_isWord_13 : decode cX7_isWord 13 = .ok (.aload_n 0, 1) := by decide +kernel
theorem dX7_isWord_14 : decode cX7_isWord 14 = .ok (.getfield 15, 3) := by decide +kernel
theorem dX7_isWord_17 : decode cX7_isWord 17 = .ok (.aload_n 0, 1) := by decide +kernel
theorem dX7_isWord_18 : decode cX7_isWord 18 = .ok (.getfield 25, 3) := by decide +kernel
theorem dX7_isWord_21 : decode cX7_isWord 21 = .ok (.iaload, 1) := by decide +kernel
theorem dX7_isWord_22 : decode cX7_isWord 22 = .ok (.aload_n 1, 1) := by decide +kernel
theorem dX7_isWord_23 : decode cX7_isWord 23 = .ok (.getfield 76, 3) := by decide +kernel
theorem dX7_isWord_26 : decode cX7_isWord 26 = .ok (.if_icmp .ne 7, 3) := by decide +kernel
theorem dX7_isWord_29 : decode cX7_isWord 29 = .ok (.iconst 1, 1) := by decide +kernel
theorem dX7_isWord_30 : decode cX7_isWord 30 = .ok (.goto 4, 3) := by decide +kernel
theorem dX7_isWord_33 : decode cX7_isWord 33 = .ok (.iconst 0, 1) := by decide +kernel
theorem dX7_isWord_34 : decode cX7_isWord 34 = .ok (.ireturn, 1) := by decide +kernel
def wp_X7_isWord (l0 : Nat) (l1 : Nat) (h : PH) (Q : Int32 → PH → Prop) : Prop := (∃ b1, qR h l0 0 = some b1 ∧ (vp_in (qI h l0 4) (qL h b1) ∧ ((¬ (qI h b1 (qI h l0 4).toNatClampNeg) = 1 → Q 0 h) ∧ ((qI h b1 (qI h l0 4).toNatClampNeg) = 1 → (∃ b5, qR h l0 1 = some b5 ∧ (vp_in (qI h l0 4) (qL h b5) ∧ (∃ i8, i8 < 34 ∧ l1 = wd i8 ∧ ((¬ (qI h b5 (qI h l0 4).toNatClampNeg) = (q_wc 0 i8) → Q 0 h) ∧ ((qI h b5 (qI h l0 4).toNatClampNeg) = (q_wc 0 i8) → Q 1 h)))))))))
set_option maxHeartbeats 4000000 in
set_option maxRecDepth 100000 in
theorem sn_X7_isWord (G : GT) (d : Nat) (l0 : Nat) (l1 : Nat) (h : PH) (Q : Int32 → PH → Prop) (okl0 : qOK h 7 l0) (hwp : wp_X7_isWord l0 l1 h Q) : Mt G (0 + d) 0 0 mX7_isWord [.ref l0, .ref l1] h (qqb Q) := by
  unfold wp_X7_isWord at hwp
  refine Mt.of (by decide) rfl (Nat.le_of_ble_eq_true rfl) ?_
  have hex := qEx.rf h
  have hnn : qn h = qn h + 0 := rfl
  have hzz : qz h = qz h + 0 := rfl
  refine x_lvE (lv2 := [(0, .ref l0), (1, .ref l1)]) rfl ?_
  refine x_aload_n (pc := 0) dX7_isWord_0 rfl ?_
  obtain ⟨b1, e2, hwp⟩ := hwp
  refine x_getR (pc := 1) dX7_isWord_1 qRX7_9 okl0 e2 (fun okb1 => ?_)
  refine x_aload_n (pc := 4) dX7_isWord_4 rfl ?_
  refine x_getI (pc := 5) dX7_isWord_5 qRX7_25 okl0 (by decide) ?_
  obtain ⟨i3, hwp⟩ := hwp
  refine x_iaload (pc := 8) dX7_isWord_8 okb1 i3 ?_
  refine x_iconst (v := 1) (pc := 9) dX7_isWord_9 (by decide) ?_
  refine x_icmp_ne (tgt := 33) (pc := 10) dX7_isWord_10 (by decide) (fun c4 => ?_) (fun c4 => ?_)
  · have hwp := hwp.1 c4
    refine x_iconst (v := 0) (pc := 33) dX7_isWord_33 (by decide) ?_
    exact x_zret (pc := 34) dX7_isWord_34 rfl hex hnn hzz (by decide) ⟨_, rfl, by decide, hwp⟩
  · have hwp := hwp.2 c4
    refine x_aload_n (pc := 13) dX7_isWord_13 rfl ?_
    obtain ⟨b5, e6, hwp⟩ := hwp
    refine x_getR (pc := 14) dX7_isWord_14 qRX7_15 okl0 e6 (fun okb5 => ?_)
    refine x_aload_n (pc := 17) dX7_isWord_17 rfl ?_
    refine x_getI (pc := 18) dX7_isWord_18 qRX7_25 okl0 (by decide) ?_
    obtain ⟨i7, hwp⟩ := hwp
    refine x_iaload (pc := 21) dX7_isWord_21 okb5 i7 ?_
    refine x_aload_n (pc := 22) dX7_isWord_22 rfl ?_
    obtain ⟨i8, hi8, e9, hwp⟩ := hwp
    refine x_wgetE (i := i8) (q := q_wt 0) e9 (pc := 23) dX7_isWord_23 hi8 (by simp [q_wt, qwF]) wRX7_76 ?_
    refine x_icmp_ne (tgt := 33) (pc := 26) dX7_isWord_26 (by decide) (fun c10 => ?_) (fun c10 => ?_)
    · have hwp := hwp.1 c10
      refine x_iconst (v := 0) (pc := 33) dX7_isWord_33 (by decide) ?_
      exact x_zret (pc := 34) dX7_isWord_34 rfl hex hnn hzz (by decide) ⟨_, rfl, by decide, hwp⟩
    · have hwp := hwp.2 c10
      refine x_iconst (v := 1) (pc := 29) dX7_isWord_29 (by decide) ?_
      refine x_goto (tgt := 34) (pc := 30) dX7_isWord_30 (by decide) ?_
      exact x_zret (pc := 34) dX7_isWord_34 rfl hex hnn hzz (by decide) ⟨_, rfl, by decide, hwp⟩

theorem dX7_isSign_0 : decode cX7_isSign 0 = .ok (.aload_n 0, 1) := by decide +kernel
theorem dX7_isSign_1 : decode cX7_isSign 1 = .ok (.getfield 9, 3) := by decide +kernel
theorem dX7_isSign_4 : decode cX7_isSign 4 = .ok (.aload_n 0, 1) := by decide +kernel
theorem dX7_isSign_5 : decode cX7_isSign 5 = .ok (.getfield 25, 3) := by decide +kernel
theorem dX7_isSign_8 : decode cX7_isSign 8 = .ok (.iaload, 1) := by decide +kernel
theorem dX7_isSign_9 : decode cX7_isSign 9 = .ok (.iconst 3, 1) := by decide +kernel
theorem dX7_isSign_10 : decode cX7_isSign 10 = .ok (.if_icmp .ne 20, 3) := by decide +kernel
theorem dX7_isSign_13 : decode cX7_isSign 13 = .ok (.aload_n 0, 1) := by decide +kernel
theorem dX7_isSign_14 : decode cX7_isSign 14 = .ok (.getfield 15, 3) := by decide +kernel
theorem dX7_isSign_17 : decode cX7_isSign 17 = .ok (.aload_n 0, 1) := by decide +kernel
theorem dX7_isSign_18 : decode cX7_isSign 18 = .ok (.getfield 25, 3) := by decide +kernel
theorem dX7_isSign_21 : decode cX7_isSign 21 = .ok (.iaload, 1) := by decide +kernel
theorem dX7_isSign_22 : decode cX7_isSign 22 = .ok (.iload_n 1, 1) := by decide +kernel
theorem dX7_isSign_23 : decode cX7_isSign 23 = .ok (.if_icmp .ne 7, 3) := by decide +kernel
theorem dX7_isSign_26 : decode cX7_isSign 26 = .ok (.iconst 1, 1) := by decide +kernel
theorem dX7_isSign_27 : decode cX7_isSign 27 = .ok (.goto 4, 3) := by decide +kernel
theorem dX7_isSign_30 : decode cX7_isSign 30 = .ok (.iconst 0, 1) := by decide +kernel
theorem dX7_isSign_31 : decode cX7_isSign 31 = .ok (.ireturn, 1) := by decide +kernel
def wp_X7_isSign (l0 : Nat) (l1 : Int32) (h : PH) (Q : Int32 → PH → Prop) : Prop := (∃ b1, qR h l0 0 = some b1 ∧ (vp_in (qI h l0 4) (qL h b1) ∧ ((¬ (qI h b1 (qI h l0 4).toNatClampNeg) = 3 → Q 0 h) ∧ ((qI h b1 (qI h l0 4).toNatClampNeg) = 3 → (∃ b5, qR h l0 1 = some b5 ∧ (vp_in (qI h l0 4) (qL h b5) ∧ ((¬ (qI h b5 (qI h l0 4).toNatClampNeg) = l1 → Q 0 h) ∧ ((qI h b5 (qI h l0 4).toNatClampNeg) = l1 → Q 1 h))))))))
set_option maxHeartbeats 4000000 in
set_option maxRecDepth 100000 in
theorem sn_X7_isSign (G : GT) (d : Nat) (l0 : Nat) (l1 : Int32) (h : PH) (Q : Int32 → PH → Prop) (okl0 : qOK h 7 l0) (hwp : wp_X7_isSign l0 l1 h Q) : Mt G (0 + d) 0 0 mX7_isSign [.ref l0, .int l1] h (qqb Q) := by
  unfold wp_X7_isSign at hwp
  refine Mt.of (by decide) rfl (Nat.le_of_ble_eq_true rfl) ?_
  have hex := qEx.rf h
  have hnn : qn h = qn h + 0 := rfl
  have hzz : qz h = qz h + 0 := rfl
  refine x_lvE (lv2 := [(0, .ref l0), (1, .int l1)]) rfl ?_
  refine x_aload_n (pc := 0) dX7_isSign_0 rfl ?_
  obtain ⟨b1, e2, hwp⟩ := hwp
  refine x_getR (pc := 1) dX7_isSign_1 qRX7_9 okl0 e2 (fun okb1 => ?_)
  refine x_aload_n (pc := 4) dX7_isSign_4 rfl ?_
  refine x_getI (pc := 5) dX7_isSign_5 qRX7_25 okl0 (by decide) ?_
  obtain ⟨i3, hwp⟩ := hwp
  refine x_iaload (pc := 8) dX7_isSign_8 okb1 i3 ?_
  refine x_iconst (v := 3) (pc := 9) dX7_isSign_9 (by decide) ?_
  refine x_icmp_ne (tgt := 30) (pc := 10) dX7_isSign_10 (by decide) (fun c4 => ?_) (fun c4 => ?_)
  · have hwp := hwp.1 c4
    refine x_iconst (v := 0) (pc := 30) dX7_isSign_30 (by decide) ?_
    exact x_zret (pc := 31) dX7_isSign_31 rfl hex hnn hzz (by decide) ⟨_, rfl, by decide, hwp⟩
  · have hwp := hwp.2 c4
    refine x_aload_n (pc := 13) dX7_isSign_13 rfl ?_
    obtain ⟨b5, e6, hwp⟩ := hwp
    refine x_getR (pc := 14) dX7_isSign_14 qRX7_15 okl0 e6 (fun okb5 => ?_)
    refine x_aload_n (pc := 17) dX7_isSign_17 rfl ?_
    refine x_getI (pc := 18) dX7_isSign_18 qRX7_25 okl0 (by decide) ?_
    obtain ⟨i7, hwp⟩ := hwp
    refine x_iaload (pc := 21) dX7_isSign_21 okb5 i7 ?_
    refine x_iload_n (pc := 22) dX7_isSign_22 rfl ?_
    refine x_icmp_ne (tgt := 30) (pc := 23) dX7_isSign_23 (by decide) (fun c8 => ?_) (fun c8 => ?_)
    · have hwp := hwp.1 c8
      refine x_iconst (v := 0) (pc := 30) dX7_isSign_30 (by decide) ?_
      exact x_zret (pc := 31) dX7_isSign_31 rfl hex hnn hzz (by decide) ⟨_, rfl, by decide, hwp⟩
    · have hwp := hwp.2 c8
      refine x_iconst (v := 1) (pc := 26) dX7_isSign_26 (by decide) ?_
      refine x_goto (tgt := 31) (pc := 27) dX7_isSign_27 (by decide) ?_
      exact x_zret (pc := 31) dX7_isSign_31 rfl hex hnn hzz (by decide) ⟨_, rfl, by decide, hwp⟩

theorem dX7_isNumber_0 : decode cX7_isNumber 0 = .ok (.aload_n 0, 1) := by decide +kernel
theorem dX7_isNumber_1 : decode cX7_isNumber 1 = .ok (.getfield 9, 3) := by decide +kernel
theorem dX7_isNumber_4 : decode cX7_isNumber 4 = .ok (.aload_n 0, 1) := by decide +kernel
theorem dX7_isNumber_5 : decode cX7_isNumber 5 = .ok (.getfield 25, 3) := by decide +kernel
theorem dX7_isNumber_8 : decode cX7_isNumber 8 = .ok (.iaload, 1) := by decide +kernel
theorem dX7_isNumber_9 : decode cX7_isNumber 9 = .ok (.iconst 2, 1) := by decide +kernel
theorem dX7_isNumber_10 : decode cX7_isNumber 10 = .ok (.if_icmp .ne 7, 3) := by decide +kernel
theorem dX7_isNumber_13 : decode cX7_isNumber 13 = .ok (.iconst 1, 1) := by decide +kernel
theorem dX7_isNumber_14 : decode cX7_isNumber 14 = .ok (.goto 4, 3) := by decide +kernel
theorem dX7_isNumber_17 : decode cX7_isNumber 17 = .ok (.iconst 0, 1) := by decide +kernel
theorem dX7_isNumber_18 : decode cX7_isNumber 18 = .ok (.ireturn, 1) := by decide +kernel
def wp_X7_isNumber (l0 : Nat) (h : PH) (Q : Int32 → PH → Prop) : Prop := (∃ b1, qR h l0 0 = some b1 ∧ (vp_in (qI h l0 4) (qL h b1) ∧ ((¬ (qI h b1 (qI h l0 4).toNatClampNeg) = 2 → Q 0 h) ∧ ((qI h b1 (qI h l0 4).toNatClampNeg) = 2 → Q 1 h))))
set_option maxHeartbeats 4000000 in
set_option maxRecDepth 100000 in
theorem sn_X7_isNumber (G : GT) (d : Nat) (l0 : Nat) (h : PH) (Q : Int32 → PH → Prop) (okl0 : qOK h 7 l0) (hwp : wp_X7_isNumber l0 h Q) : Mt G (0 + d) 0 0 mX7_isNumber [.ref l0] h (qqb Q) := by
  unfold wp_X7_isNumber at hwp
  refine Mt.of (by decide) rfl (Nat.le_of_ble_eq_true rfl) ?_
  have hex := qEx.rf h
  have hnn : qn h = qn h + 0 := rfl
  have hzz : qz h = qz h + 0 := rfl
  refine x_lvE (lv2 := [(0, .ref l0)]) rfl ?_
  refine x_aload_n (pc := 0) dX7_isNumber_0 rfl ?_
  obtain ⟨b1, e2, hwp⟩ := hwp
  refine x_getR (pc := 1) dX7_isNumber_1 qRX7_9 okl0 e2 (fun okb1 => ?_)
  refine x_aload_n (pc := 4) dX7_isNumber_4 rfl ?_
  refine x_getI (pc := 5) dX7_isNumber_5 qRX7_25 okl0 (by decide) ?_
  obtain ⟨i3, hwp⟩ := hwp
  refine x_iaload (pc := 8) dX7_isNumber_8 okb1 i3 ?_
  refine x_iconst (v := 2) (pc := 9) dX7_isNumber_9 (by decide) ?_
  refine x_icmp_ne (tgt := 17) (pc := 10) dX7_isNumber_10 (by decide) (fun c4 => ?_) (fun c4 => ?_)
  · have hwp := hwp.1 c4
    refine x_iconst (v := 0) (pc := 17) dX7_isNumber_17 (by decide) ?_
    exact x_zret (pc := 18) dX7_isNumber_18 rfl hex hnn hzz (by decide) ⟨_, rfl, by decide, hwp⟩
  · have hwp := hwp.2 c4
    refine x_iconst (v := 1) (pc := 13) dX7_isNumber_13 (by decide) ?_
    refine x_goto (tgt := 18) (pc := 14) dX7_isNumber_14 (by decide) ?_
    exact x_zret (pc := 18) dX7_isNumber_18 rfl hex hnn hzz (by decide) ⟨_, rfl, by decide, hwp⟩

theorem dX7_takeSign_0 : decode cX7_takeSign 0 = .ok (.aload_n 0, 1) := by decide +kernel
theorem dX7_takeSign_1 : decode cX7_takeSign 1 = .ok (.iload_n 1, 1) := by decide +kernel
theorem dX7_takeSign_2 : decode cX7_takeSign 2 = .ok (.invokevirtual 93, 3) := by decide +kernel
theorem dX7_takeSign_5 : decode cX7_takeSign 5 = .ok (.ifCond .ne 9, 3) := by decide +kernel
theorem dX7_takeSign_8 : decode cX7_takeSign 8 = .ok (.aload_n 0, 1) := by decide +kernel
theorem dX7_takeSign_9 : decode cX7_takeSign 9 = .ok (.iconst 1, 1) := by decide +kernel
theorem dX7_takeSign_10 : decode cX7_takeSign 10 = .ok (.invokevirtual 87, 3) := by decide +kernel
theorem dX7_takeSign_13 : decode cX7_takeSign 13 = .ok (.ireturn, 1) := by decide +kernel
theorem dX7_takeSign_14 : decode cX7_takeSign 14 = .ok (.aload_n 0, 1) := by decide +kernel
theorem dX7_takeSign_15 : decode cX7_takeSign 15 = .ok (.invokevirtual 90, 3) := by decide +kernel
theorem dX7_takeSign_18 : decode cX7_takeSign 18 = .ok (.iconst 1, 1) := by decide +kernel
theorem dX7_takeSign_19 : decode cX7_takeSign 19 = .ok (.ireturn, 1) := by decide +kernel
def wp_X7_takeSign (l0 : Nat) (l1 : Int32) (h : PH) (Q : Int32 → PH → Prop) : Prop := (wp_X7_isSign l0 l1 h (fun r2 h1 => ((¬ r2 = 0 → (wp_X7_pass l0 h1 (fun h4 => Q 1 h4))) ∧ (r2 = 0 → (wp_X7_fail l0 1 h1 (fun r7 h6 => ((r7 = 0 ∨ r7 = 1) ∧ Q r7 h6)))))))
set_option maxHeartbeats 4000000 in
set_option maxRecDepth 100000 in
theorem sn_X7_takeSign (G : GT) (d : Nat) (l0 : Nat) (l1 : Int32) (h : PH) (Q : Int32 → PH → Prop) (okl0 : qOK h 7 l0) (hwp : wp_X7_takeSign l0 l1 h Q) : Mt G (1 + d) 0 0 mX7_takeSign [.ref l0, .int l1] h (qqb Q) := by
  unfold wp_X7_takeSign at hwp
  refine Mt.of (by decide) rfl (Nat.le_of_ble_eq_true rfl) ?_
  have hex := qEx.rf h
  have hnn : qn h = qn h + 0 := rfl
  have hzz : qz h = qz h + 0 := rfl
  refine x_lvE (lv2 := [(0, .ref l0), (1, .int l1)]) rfl ?_
  refine x_aload_n (pc := 0) dX7_takeSign_0 rfl ?_
  refine x_iload_n (pc := 1) dX7_takeSign_1 rfl ?_
  refine x_invV (As := [.int l1]) (st := []) (pc := 2) dX7_takeSign_2 lRX7_93 fX7_isSign vX7_isSign okl0 rfl (Nat.le_of_ble_eq_true rfl) (q_R (by omega) (by decide)) (q_C hnn hzz (by decide) (by decide)) (sn_X7_isSign G (d + 0) l0 l1 h _ okl0 hwp) (k_b (fun r2 h1 hwp zbr2 cxh1 => ?_))
  have hex := hex.tr cxh1.1
  have hnn : qn h1 = qn h + 0 := by have := cxh1.2.1; omega
  have hzz : qz h1 = qz h + 0 := by have := cxh1.2.2; omega
  have okl0 := okl0.ex cxh1.1
  refine x_if_ne (tgt := 14) (pc := 5) dX7_takeSign_5 (by decide) (fun c3 => ?_) (fun c3 => ?_)
  · have hwp := hwp.1 c3
    refine x_aload_n (pc := 14) dX7_takeSign_14 rfl ?_
    refine x_invV (As := []) (st := []) (pc := 15) dX7_takeSign_15 lRX7_90 fX7_pass vX7_pass okl0 rfl (Nat.le_of_ble_eq_true rfl) (q_R (by omega) (by decide)) (q_C hnn hzz (by decide) (by decide)) (sn_X7_pass G (d + 0) l0 h1 _ okl0 hwp) (k_v (fun h4 hwp cxh4 => ?_))
    have hex := hex.tr cxh4.1
    have hnn : qn h4 = qn h + 0 := by have := cxh4.2.1; omega
    have hzz : qz h4 = qz h + 0 := by have := cxh4.2.2; omega
    have okl0 := okl0.ex cxh4.1
    refine x_iconst (v := 1) (pc := 18) dX7_takeSign_18 (by decide) ?_
    exact x_zret (pc := 19) dX7_takeSign_19 rfl hex hnn hzz (by decide) ⟨_, rfl, by decide, hwp⟩
  · have hwp := hwp.2 c3
    refine x_aload_n (pc := 8) dX7_takeSign_8 rfl ?_
    refine x_iconst (v := 1) (pc := 9) dX7_takeSign_9 (by decide) ?_
    refine x_invV (As := [.int 1]) (st := []) (pc := 10) dX7_takeSign_10 lRX7_87 fX7_fail vX7_fail okl0 rfl (Nat.le_of_ble_eq_true rfl) (q_R (by omega) (by decide)) (q_C hnn hzz (by decide) (by decide)) (sn_X7_fail G (d + 0) l0 1 h1 _ okl0 hwp) (k_b (fun r7 h6 hwp zbr7 cxh6 => ?_))
    have hex := hex.tr cxh6.1
    have hnn : qn h6 = qn h + 0 := by have := cxh6.2.1; omega
    have hzz : qz h6 = qz h + 0 := by have := cxh6.2.2; omega
    have okl0 := okl0.ex cxh6.1
    exact x_zret (pc := 13) dX7_takeSign_13 rfl hex hnn hzz hwp.1 ⟨_, rfl, hwp.1, hwp.2⟩

theorem dX7_content_0 : decode cX7_content 0 = .ok (.aload_n 0, 1) := by decide +kernel
theorem dX7_content_1 : decode cX7_content 1 = .ok (.getfield 15, 3) := by decide +kernel
theorem dX7_content_4 : decode cX7_content 4 = .ok (.aload_n 0, 1) := by decide +kernel
theorem dX7_content_5 : decode cX7_content 5 = .ok (.getfield 25, 3) := by decide +kernel
theorem dX7_content_8 : decode cX7_content 8 = .ok (.iaload, 1) := by decide +kernel
theorem dX7_content_9 : decode cX7_content 9 = .ok (.ireturn, 1) := by decide +kernel
def wp_X7_content (l0 : Nat) (h : PH) (Q : Int32 → PH → Prop) : Prop := (∃ b1, qR h l0 1 = some b1 ∧ (vp_in (qI h l0 4) (qL h b1) ∧ Q (qI h b1 (qI h l0 4).toNatClampNeg) h))
set_option maxHeartbeats 4000000 in
set_option maxRecDepth 100000 in
theorem sn_X7_content (G : GT) (d : Nat) (l0 : Nat) (h : PH) (Q : Int32 → PH → Prop) (okl0 : qOK h 7 l0) (hwp : wp_X7_content l0 h Q) : Mt G (0 + d) 0 0 mX7_content [.ref l0] h (qqi Q) := by
  unfold wp_X7_content at hwp
  refine Mt.of (by decide) rfl (Nat.le_of_ble_eq_true rfl) ?_
  have hex := qEx.rf h
  have hnn : qn h = qn h + 0 := rfl
  have hzz : qz h = qz h + 0 := rfl
  refine x_lvE (lv2 := [(0, .ref l0)]) rfl ?_
  refine x_aload_n (pc := 0) dX7_content_0 rfl ?_
  obtain ⟨b1, e2, hwp⟩ := hwp
  refine x_getR (pc := 1) dX7_content_1 qRX7_15 okl0 e2 (fun okb1 => ?_)
  refine x_aload_n (pc := 4) dX7_content_4 rfl ?_
  refine x_getI (pc := 5) dX7_content_5 qRX7_25 okl0 (by decide) ?_
  obtain ⟨i3, hwp⟩ := hwp
  refine x_iaload (pc := 8) dX7_content_8 okb1 i3 ?_
  exact x_iret (pc := 9) dX7_content_9 rfl hex hnn hzz ⟨_, rfl, hwp⟩

theorem dX7_isEnd_0 : decode cX7_isEnd 0 = .ok (.aload_n 0, 1) := by decide +kernel
theorem dX7_isEnd_1 : decode cX7_isEnd 1 = .ok (.getfield 9, 3) := by decide +kernel
theorem dX7_isEnd_4 : decode cX7_isEnd 4 = .ok (.aload_n 0, 1) := by decide +kernel
theorem dX7_isEnd_5 : decode cX7_isEnd 5 = .ok (.getfield 25, 3) := by decide +kernel
theorem dX7_isEnd_8 : decode cX7_isEnd 8 = .ok (.iaload, 1) := by decide +kernel
theorem dX7_isEnd_9 : decode cX7_isEnd 9 = .ok (.ifCond .ne 7, 3) := by decide +kernel
theorem dX7_isEnd_12 : decode cX7_isEnd 12 = .ok (.iconst 1, 1) := by decide +kernel
theorem dX7_isEnd_13 : decode cX7_isEnd 13 = .ok (.goto 4, 3) := by decide +kernel
theorem dX7_isEnd_16 : decode cX7_isEnd 16 = .ok (.iconst 0, 1) := by decide +kernel
theorem dX7_isEnd_17 : decode cX7_isEnd 17 = .ok (.ireturn, 1) := by decide +kernel
def wp_X7_isEnd (l0 : Nat) (h : PH) (Q : Int32 → PH → Prop) : Prop := (∃ b1, qR h l0 0 = some b1 ∧ (vp_in (qI h l0 4) (qL h b1) ∧ ((¬ (qI h b1 (qI h l0 4).toNatClampNeg) = 0 → Q 0 h) ∧ ((qI h b1 (qI h l0 4).toNatClampNeg) = 0 → Q 1 h))))
set_option maxHeartbeats 4000000 in
set_option maxRecDepth 100000 in
theorem sn_X7_isEnd (G : GT) (d : Nat) (l0 : Nat) (h : PH) (Q : Int32 → PH → Prop) (okl0 : qOK h 7 l0) (hwp : wp_X7_isEnd l0 h Q) : Mt G (0 + d) 0 0 mX7_isEnd [.ref l0] h (qqb Q) := by
  unfold wp_X7_isEnd at hwp
  refine Mt.of (by decide) rfl (Nat.le_of_ble_eq_true rfl) ?_
  have hex := qEx.rf h
  have hnn : qn h = qn h + 0 := rfl
  have hzz : qz h = qz h + 0 := rfl
  refine x_lvE (lv2 := [(0, .ref l0)]) rfl ?_
  refine x_aload_n (pc := 0) dX7_isEnd_0 rfl ?_
  obtain ⟨b1, e2, hwp⟩ := hwp
  refine x_getR (pc := 1) dX7_isEnd_1 qRX7_9 okl0 e2 (fun okb1 => ?_)
  refine x_aload_n (pc := 4) dX7_isEnd_4 rfl ?_
  refine x_getI (pc := 5) dX7_isEnd_5 qRX7_25 okl0 (by decide) ?_
  obtain ⟨i3, hwp⟩ := hwp
  refine x_iaload (pc := 8) dX7_isEnd_8 okb1 i3 ?_
  refine x_if_ne (tgt := 16) (pc := 9) dX7_isEnd_9 (by decide) (fun c4 => ?_) (fun c4 => ?_)
  · have hwp := hwp.1 c4
    refine x_iconst (v := 0) (pc := 16) dX7_isEnd_16 (by decide) ?_
    exact x_zret (pc := 17) dX7_isEnd_17 rfl hex hnn hzz (by decide) ⟨_, rfl, by decide, hwp⟩
  · have hwp := hwp.2 c4
    refine x_iconst (v := 1) (pc := 12) dX7_isEnd_12 (by decide) ?_
    refine x_goto (tgt := 17) (pc := 13) dX7_isEnd_13 (by decide) ?_
    exact x_zret (pc := 17) dX7_isEnd_17 rfl hex hnn hzz (by decide) ⟨_, rfl, by decide, hwp⟩

theorem dX7_takeEnd_0 : decode cX7_takeEnd 0 = .ok (.aload_n 0, 1) := by decide +kernel
theorem dX7_takeEnd_1 : decode cX7_takeEnd 1 = .ok (.invokevirtual 100, 3) := by decide +kernel
theorem dX7_takeEnd_4 : decode cX7_takeEnd 4 = .ok (.ifCond .eq 10, 3) := by decide +kernel
theorem dX7_takeEnd_7 : decode cX7_takeEnd 7 = .ok (.aload_n 0, 1) := by decide +kernel
theorem dX7_takeEnd_8 : decode cX7_takeEnd 8 = .ok (.getfield 28, 3) := by decide +kernel
theorem dX7_takeEnd_11 : decode cX7_takeEnd 11 = .ok (.ifCond .eq 11, 3) := by decide +kernel
theorem dX7_takeEnd_14 : decode cX7_takeEnd 14 = .ok (.aload_n 0, 1) := by decide +kernel
theorem dX7_takeEnd_15 : decode cX7_takeEnd 15 = .ok (.iconst 1, 1) := by decide +kernel
theorem dX7_takeEnd_16 : decode cX7_takeEnd 16 = .ok (.invokevirtual 87, 3) := by decide +kernel
theorem dX7_takeEnd_19 : decode cX7_takeEnd 19 = .ok (.ifCond .eq 7, 3) := by decide +kernel
theorem dX7_takeEnd_22 : decode cX7_takeEnd 22 = .ok (.iconst 1, 1) := by decide +kernel
theorem dX7_takeEnd_23 : decode cX7_takeEnd 23 = .ok (.goto 4, 3) := by decide +kernel
theorem dX7_takeEnd_26 : decode cX7_takeEnd 26 = .ok (.iconst 0, 1) := by decide +kernel
theorem dX7_takeEnd_27 : decode cX7_takeEnd 27 = .ok (.ireturn, 1) := by decide +kernel
def wp_X7_takeEnd (l0 : Nat) (h : PH) (Q : Int32 → PH → Prop) : Prop := (wp_X7_isEnd l0 h (fun r2 h1 => ((r2 = 0 → (wp_X7_fail l0 1 h1 (fun r5 h4 => ((r5 = 0 → Q 0 h4) ∧ (¬ (r5 = 0) → Q 1 h4))))) ∧ (¬ (r2 = 0) → (((qI h1 l0 5) = 0 → Q 1 h1) ∧ (¬ ((qI h1 l0 5) = 0) → (wp_X7_fail l0 1 h1 (fun r9 h8 => ((r9 = 0 → Q 0 h8) ∧ (¬ (r9 = 0) → Q 1 h8))))))))))
set_option maxHeartbeats 4000000 in
set_option maxRecDepth 100000 in
theorem sn_X7_takeEnd (G : GT) (d : Nat) (l0 : Nat) (h : PH) (Q : Int32 → PH → Prop) (okl0 : qOK h 7 l0) (hwp : wp_X7_takeEnd l0 h Q) : Mt G (1 + d) 0 0 mX7_takeEnd [.ref l0] h (qqb Q) := by
  unfold wp_X7_takeEnd at hwp
  refine Mt.of (by decide) rfl (Nat.le_of_ble_eq_true rfl) ?_
  have hex := qEx.rf h
  have hnn : qn h = qn h + 0 := rfl
  have hzz : qz h = qz h + 0 := rfl
  refine x_lvE (lv2 := [(0, .ref l0)]) rfl ?_
  refine x_aload_n (pc := 0) dX7_takeEnd_0 rfl ?_
  refine x_invV (As := []) (st := []) (pc := 1) dX7_takeEnd_1 lRX7_100 fX7_isEnd vX7_isEnd okl0 rfl (Nat.le_of_ble_eq_true rfl) (q_R (by omega) (by decide)) (q_C hnn hzz (by decide) (by decide)) (sn_X7_isEnd G (d + 0) l0 h _ okl0 hwp) (k_b (fun r2 h1 hwp zbr2 cxh1 => ?_))
  have hex := hex.tr cxh1.1
  have hnn : qn h1 = qn h + 0 := by have := cxh1.2.1; omega
  have hzz : qz h1 = qz h + 0 := by have := cxh1.2.2; omega
  have okl0 := okl0.ex cxh1.1
  refine x_if_eq (tgt := 14) (pc := 4) dX7_takeEnd_4 (by decide) (fun c3 => ?_) (fun c3 => ?_)
  · have hwp := hwp.1 c3
    refine x_aload_n (pc := 14) dX7_takeEnd_14 rfl ?_
    refine x_iconst (v := 1) (pc := 15) dX7_takeEnd_15 (by decide) ?_
    refine x_invV (As := [.int 1]) (st := []) (pc := 16) dX7_takeEnd_16 lRX7_87 fX7_fail vX7_fail okl0 rfl (Nat.le_of_ble_eq_true rfl) (q_R (by omega) (by decide)) (q_C hnn hzz (by decide) (by decide)) (sn_X7_fail G (d + 0) l0 1 h1 _ okl0 hwp) (k_b (fun r5 h4 hwp zbr5 cxh4 => ?_))
    have hex := hex.tr cxh4.1
    have hnn : qn h4 = qn h + 0 := by have := cxh4.2.1; omega
    have hzz : qz h4 = qz h + 0 := by have := cxh4.2.2; omega
    have okl0 := okl0.ex cxh4.1
    refine x_if_eq (tgt := 26) (pc := 19) dX7_takeEnd_19 (by decide) (fun c6 => ?_) (fun c6 => ?_)
    · have hwp := hwp.1 c6
      refine x_iconst (v := 0) (pc := 26) dX7_takeEnd_26 (by decide) ?_
      exact x_zret (pc := 27) dX7_takeEnd_27 rfl hex hnn hzz (by decide) ⟨_, rfl, by decide, hwp⟩
    · have hwp := hwp.2 c6
      refine x_iconst (v := 1) (pc := 22) dX7_takeEnd_22 (by decide) ?_
      refine x_goto (tgt := 27) (pc := 23) dX7_takeEnd_23 (by decide) ?_
      exact x_zret (pc := 27) dX7_takeEnd_27 rfl hex hnn hzz (by decide) ⟨_, rfl, by decide, hwp⟩
  · have hwp := hwp.2 c3
    refine x_aload_n (pc := 7) dX7_takeEnd_7 rfl ?_
    refine x_getI (pc := 8) dX7_takeEnd_8 qRX7_28 okl0 (by decide) ?_
    refine x_if_eq (tgt := 22) (pc := 11) dX7_takeEnd_11 (by decide) (fun c7 => ?_) (fun c7 => ?_)
    · have hwp := hwp.1 c7
      refine x_iconst (v := 1) (pc := 22) dX7_takeEnd_22 (by decide) ?_
      refine x_goto (tgt := 27) (pc := 23) dX7_takeEnd_23 (by decide) ?_
      exact x_zret (pc := 27) dX7_takeEnd_27 rfl hex hnn hzz (by decide) ⟨_, rfl, by decide, hwp⟩
    · have hwp := hwp.2 c7
      refine x_aload_n (pc := 14) dX7_takeEnd_14 rfl ?_
      refine x_iconst (v := 1) (pc := 15) dX7_takeEnd_15 (by decide) ?_
      refine x_invV (As := [.int 1]) (st := []) (pc := 16) dX7_takeEnd_16 lRX7_87 fX7_fail vX7_fail okl0 rfl (Nat.le_of_ble_eq_true rfl) (q_R (by omega) (by decide)) (q_C hnn hzz (by decide) (by decide)) (sn_X7_fail G (d + 0) l0 1 h1 _ okl0 hwp) (k_b (fun r9 h8 hwp zbr9 cxh8 => ?_))
      have hex := hex.tr cxh8.1
      have hnn : qn h8 = qn h + 0 := by have := cxh8.2.1; omega
      have hzz : qz h8 = qz h + 0 := by have := cxh8.2.2; omega
      have okl0 := okl0.ex cxh8.1
      refine x_if_eq (tgt := 26) (pc := 19) dX7_takeEnd_19 (by decide) (fun c10 => ?_) (fun c10 => ?_)
      · have hwp := hwp.1 c10
        refine x_iconst (v := 0) (pc := 26) dX7_takeEnd_26 (by decide) ?_
        exact x_zret (pc := 27) dX7_takeEnd_27 rfl hex hnn hzz (by decide) ⟨_, rfl, by decide, hwp⟩
      · have hwp := hwp.2 c10
        refine x_iconst (v := 1) (pc := 22) dX7_takeEnd_22 (by decide) ?_
        refine x_goto (tgt := 27) (pc := 23) dX7_takeEnd_23 (by decide) ?_
        exact x_zret (pc := 27) dX7_takeEnd_27 rfl hex hnn hzz (by decide) ⟨_, rfl, by decide, hwp⟩

theorem dX7_takeNumber_0 : decode cX7_takeNumber 0 = .ok (.aload_n 0, 1) := by decide +kernel
theorem dX7_takeNumber_1 : decode cX7_takeNumber 1 = .ok (.invokevirtual 96, 3) := by decide +kernel
theorem dX7_takeNumber_4 : decode cX7_takeNumber 4 = .ok (.ifCond .ne 11, 3) := by decide +kernel
theorem dX7_takeNumber_7 : decode cX7_takeNumber 7 = .ok (.aload_n 0, 1) := by decide +kernel
theorem dX7_takeNumber_8 : decode cX7_takeNumber 8 = .ok (.iconst 1, 1) := by decide +kernel
theorem dX7_takeNumber_9 : decode cX7_takeNumber 9 = .ok (.invokevirtual 87, 3) := by decide +kernel
theorem dX7_takeNumber_12 : decode cX7_takeNumber 12 = .ok (.pop, 1) := by decide +kernel
theorem dX7_takeNumber_13 : decode cX7_takeNumber 13 = .ok (.iconst (-1), 1) := by decide +kernel
theorem dX7_takeNumber_14 : decode cX7_takeNumber 14 = .ok (.ireturn, 1) := by decide +kernel
theorem dX7_takeNumber_15 : decode cX7_takeNumber 15 = .ok (.aload_n 0, 1) := by decide +kernel
theorem dX7_takeNumber_16 : decode cX7_takeNumber 16 = .ok (.getfield 15, 3) := by decide +kernel
theorem dX7_takeNumber_19 : decode cX7_takeNumber 19 = .ok (.aload_n 0, 1) := by decide +kernel
theorem dX7_takeNumber_20 : decode cX7_takeNumber 20 = .ok (.getfield 25, 3) := by decide +kernel
theorem dX7_takeNumber_23 : decode cX7_takeNumber 23 = .ok (.iaload, 1) := by decide +kernel
theorem dX7_takeNumber_24 : decode cX7_takeNumber 24 = .ok (.istore_n 3, 1) := by decide +kernel
theorem dX7_takeNumber_25 : decode cX7_takeNumber 25 = .ok (.iload_n 3, 1) := by decide +kernel
theorem dX7_takeNumber_26 : decode cX7_takeNumber 26 = .ok (.iload_n 1, 1) := by decide +kernel
theorem dX7_takeNumber_27 : decode cX7_takeNumber 27 = .ok (.if_icmp .lt 8, 3) := by decide +kernel
theorem dX7_takeNumber_30 : decode cX7_takeNumber 30 = .ok (.iload_n 3, 1) := by decide +kernel
theorem dX7_takeNumber_31 : decode cX7_takeNumber 31 = .ok (.iload_n 2, 1) := by decide +kernel
theorem dX7_takeNumber_32 : decode cX7_takeNumber 32 = .ok (.if_icmp .le 11, 3) := by decide +kernel
theorem dX7_takeNumber_35 : decode cX7_takeNumber 35 = .ok (.aload_n 0, 1) := by decide +kernel
theorem dX7_takeNumber_36 : decode cX7_takeNumber 36 = .ok (.iconst 2, 1) := by decide +kernel
theorem dX7_takeNumber_37 : decode cX7_takeNumber 37 = .ok (.invokevirtual 87, 3) := by decide +kernel
theorem dX7_takeNumber_40 : decode cX7_takeNumber 40 = .ok (.pop, 1) := by decide +kernel
theorem dX7_takeNumber_41 : decode cX7_takeNumber 41 = .ok (.iconst (-1), 1) := by decide +kernel
theorem dX7_takeNumber_42 : decode cX7_takeNumber 42 = .ok (.ireturn, 1) := by decide +kernel
theorem dX7_takeNumber_43 : decode cX7_takeNumber 43 = .ok (.aload_n 0, 1) := by decide +kernel
theorem dX7_takeNumber_44 : decode cX7_takeNumber 44 = .ok (.invokevirtual 90, 3) := by decide +kernel
theorem dX7_takeNumber_47 : decode cX7_takeNumber 47 = .ok (.iload_n 3, 1) := by decide +kernel
theorem dX7_takeNumber_48 : decode cX7_takeNumber 48 = .ok (.ireturn, 1) := by decide +kernel
def wp_X7_takeNumber (l0 : Nat) (l1 : Int32) (l2 : Int32) (h : PH) (Q : Int32 → PH → Prop) : Prop := (wp_X7_isNumber l0 h (fun r2 h1 => ((¬ r2 = 0 → (∃ b4, qR h1 l0 1 = some b4 ∧ (vp_in (qI h1 l0 4) (qL h1 b4) ∧ ∀ v7 : Int32, v7 = qI h1 b4 (qI h1 l0 4).toNatClampNeg → ((v7 < l1 → (wp_X7_fail l0 2 h1 (fun r10 h9 => Q (-1) h9))) ∧ (¬ (v7 < l1) → ((v7 ≤ l2 → (wp_X7_pass l0 h1 (fun h12 => Q v7 h12))) ∧ (¬ (v7 ≤ l2) → (wp_X7_fail l0 2 h1 (fun r15 h14 => Q (-1) h14))))))))) ∧ (r2 = 0 → (wp_X7_fail l0 1 h1 (fun r17 h16 => Q (-1) h16))))))
set_option maxHeartbeats 4000000 in
set_option maxRecDepth 100000 in
theorem sn_X7_takeNumber (G : GT) (d : Nat) (l0 : Nat) (l1 : Int32) (l2 : Int32) (h : PH) (Q : Int32 → PH → Prop) (okl0 : qOK h 7 l0) (hwp : wp_X7_takeNumber l0 l1 l2 h Q) : Mt G (1 + d) 0 0 mX7_takeNumber [.ref l0, .int l1, .int l2] h (qqi Q) := by
  unfold wp_X7_takeNumber at hwp
  refine Mt.of (by decide) rfl (Nat.le_of_ble_eq_true rfl) ?_
  have hex := qEx.rf h
  have hnn : qn h = qn h + 0 := rfl
  have hzz : qz h = qz h + 0 := rfl
  refine x_lvE (lv2 := [(0, .ref l0), (1, .int l1), (2, .int l2)]) rfl ?_
  refine x_aload_n (pc := 0) dX7_takeNumber_0 rfl ?_
  refine x_invV (As := []) (st := []) (pc := 1) dX7_takeNumber_1 lRX7_96 fX7_isNumber vX7_isNumber okl0 rfl (Nat.le_of_ble_eq_true rfl) (q_R (by omega) (by decide)) (q_C hnn hzz (by decide) (by decide)) (sn_X7_isNumber G (d + 0) l0 h _ okl0 hwp) (k_b (fun r2 h1 hwp zbr2 cxh1 => ?_))
  have hex := hex.tr cxh1.1
  have hnn : qn h1 = qn h + 0 := by have := cxh1.2.1; omega
  have hzz : qz h1 = qz h + 0 := by have := cxh1.2.2; omega
  have okl0 := okl0.ex cxh1.1
  refine x_if_ne (tgt := 15) (pc := 4) dX7_takeNumber_4 (by decide) (fun c3 => ?_) (fun c3 => ?_)
  · have hwp := hwp.1 c3
    refine x_aload_n (pc := 15) dX7_takeNumber_15 rfl ?_
    obtain ⟨b4, e5, hwp⟩ := hwp
    refine x_getR (pc := 16) dX7_takeNumber_16 qRX7_15 okl0 e5 (fun okb4 => ?_)
    refine x_aload_n (pc := 19) dX7_takeNumber_19 rfl ?_
    refine x_getI (pc := 20) dX7_takeNumber_20 qRX7_25 okl0 (by decide) ?_
    obtain ⟨i6, hwp⟩ := hwp
    refine x_iaload (pc := 23) dX7_takeNumber_23 okb4 i6 ?_
    refine x_nmI (fun v7 ev7 => ?_)
    have hwp := hwp v7 ev7
    refine x_istore_n (lv2 := [(3, .int v7), (0, .ref l0), (1, .int l1), (2, .int l2)]) (pc := 24) dX7_takeNumber_24 (by decide) rfl ?_
    refine x_iload_n (pc := 25) dX7_takeNumber_25 rfl ?_
    refine x_iload_n (pc := 26) dX7_takeNumber_26 rfl ?_
    refine x_icmp_lt (tgt := 35) (pc := 27) dX7_takeNumber_27 (by decide) (fun c8 => ?_) (fun c8 => ?_)
    · have hwp := hwp.1 c8
      refine x_aload_n (pc := 35) dX7_takeNumber_35 rfl ?_
      refine x_iconst (v := 2) (pc := 36) dX7_takeNumber_36 (by decide) ?_
      refine x_invV (As := [.int 2]) (st := []) (pc := 37) dX7_takeNumber_37 lRX7_87 fX7_fail vX7_fail okl0 rfl (Nat.le_of_ble_eq_true rfl) (q_R (by omega) (by decide)) (q_C hnn hzz (by decide) (by decide)) (sn_X7_fail G (d + 0) l0 2 h1 _ okl0 hwp) (k_b (fun r10 h9 hwp zbr10 cxh9 => ?_))
      have hex := hex.tr cxh9.1
      have hnn : qn h9 = qn h + 0 := by have := cxh9.2.1; omega
      have hzz : qz h9 = qz h + 0 := by have := cxh9.2.2; omega
      have okl0 := okl0.ex cxh9.1
      have okb4 := okb4.ex cxh9.1
      refine x_pop (pc := 40) dX7_takeNumber_40 rfl ?_
      refine x_iconst (v := (-1)) (pc := 41) dX7_takeNumber_41 (by decide) ?_
      exact x_iret (pc := 42) dX7_takeNumber_42 rfl hex hnn hzz ⟨_, rfl, hwp⟩
    · have hwp := hwp.2 c8
      refine x_iload_n (pc := 30) dX7_takeNumber_30 rfl ?_
      refine x_iload_n (pc := 31) dX7_takeNumber_31 rfl ?_
      refine x_icmp_le (tgt := 43) (pc := 32) dX7_takeNumber_32 (by decide) (fun c11 => ?_) (fun c11 => ?_)
      · have hwp := hwp.1 c11
        refine x_aload_n (pc := 43) dX7_takeNumber_43 rfl ?_
        refine x_invV (As := []) (st := []) (pc := 44) dX7_takeNumber_44 lRX7_90 fX7_pass vX7_pass okl0 rfl (Nat.le_of_ble_eq_true rfl) (q_R (by omega) (by decide)) (q_C hnn hzz (by decide) (by decide)) (sn_X7_pass G (d + 0) l0 h1 _ okl0 hwp) (k_v (fun h12 hwp cxh12 => ?_))
        have hex := hex.tr cxh12.1
        have hnn : qn h12 = qn h + 0 := by have := cxh12.2.1; omega
        have hzz : qz h12 = qz h + 0 := by have := cxh12.2.2; omega
        have okl0 := okl0.ex cxh12.1
        have okb4 := okb4.ex cxh12.1
        refine x_iload_n (pc := 47) dX7_takeNumber_47 rfl ?_
        exact x_iret (pc := 48) dX7_takeNumber_48 rfl hex hnn hzz ⟨_, rfl, hwp⟩
      · have hwp := hwp.2 c11
        refine x_aload_n (pc := 35) dX7_takeNumber_35 rfl ?_
        refine x_iconst (v := 2) (pc := 36) dX7_takeNumber_36 (by decide) ?_
        refine x_invV (As := [.int 2]) (st := []) (pc := 37) dX7_takeNumber_37 lRX7_87 fX7_fail vX7_fail okl0 rfl (Nat.le_of_ble_eq_true rfl) (q_R (by omega) (by decide)) (q_C hnn hzz (by decide) (by decide)) (sn_X7_fail G (d + 0) l0 2 h1 _ okl0 hwp) (k_b (fun r15 h14 hwp zbr15 cxh14 => ?_))
        have hex := hex.tr cxh14.1
        have hnn : qn h14 = qn h + 0 := by have := cxh14.2.1; omega
        have hzz : qz h14 = qz h + 0 := by have := cxh14.2.2; omega
        have okl0 := okl0.ex cxh14.1
        have okb4 := okb4.ex cxh14.1
        refine x_pop (pc := 40) dX7_takeNumber_40 rfl ?_
        refine x_iconst (v := (-1)) (pc := 41) dX7_takeNumber_41 (by decide) ?_
        exact x_iret (pc := 42) dX7_takeNumber_42 rfl hex hnn hzz ⟨_, rfl, hwp⟩
  · have hwp := hwp.2 c3
    refine x_aload_n (pc := 7) dX7_takeNumber_7 rfl ?_
    refine x_iconst (v := 1) (pc := 8) dX7_takeNumber_8 (by decide) ?_
    refine x_invV (As := [.int 1]) (st := []) (pc := 9) dX7_takeNumber_9 lRX7_87 fX7_fail vX7_fail okl0 rfl (Nat.le_of_ble_eq_true rfl) (q_R (by omega) (by decide)) (q_C hnn hzz (by decide) (by decide)) (sn_X7_fail G (d + 0) l0 1 h1 _ okl0 hwp) (k_b (fun r17 h16 hwp zbr17 cxh16 => ?_))
    have hex := hex.tr cxh16.1
    have hnn : qn h16 = qn h + 0 := by have := cxh16.2.1; omega
    have hzz : qz h16 = qz h + 0 := by have := cxh16.2.2; omega
    have okl0 := okl0.ex cxh16.1
    refine x_pop (pc := 12) dX7_takeNumber_12 rfl ?_
    refine x_iconst (v := (-1)) (pc := 13) dX7_takeNumber_13 (by decide) ?_
    exact x_iret (pc := 14) dX7_takeNumber_14 rfl hex hnn hzz ⟨_, rfl, hwp⟩

theorem dX7_isAnyWord_0 : decode cX7_isAnyWord 0 = .ok (.aload_n 0, 1) := by decide +kernel
theorem dX7_isAnyWord_1 : decode cX7_isAnyWord 1 = .ok (.getfield 9, 3) := by decide +kernel
theorem dX7_isAnyWord_4 : decode cX7_isAnyWord 4 = .ok (.aload_n 0, 1) := by decide +kernel
theorem dX7_isAnyWord_5 : decode cX7_isAnyWord 5 = .ok (.getfield 25, 3) := by decide +kernel
theorem dX7_isAnyWord_8 : decode cX7_isAnyWord 8 = .ok (.iaload, 1) := by decide +kernel
theorem dX7_isAnyWord_9 : decode cX7_isAnyWord 9 = .ok (.iconst 1, 1) := by decide +kernel
theorem dX7_isAnyWord_10 : decode cX7_isAnyWord 10 = .ok (.if_icmp .ne 7, 3) := by decide +kernel
theorem dX7_isAnyWord_13 : decode cX7_isAnyWord 13 = .ok (.iconst 1, 1) := by decide +kernel
theorem dX7_isAnyWord_14 : decode cX7_isAnyWord 14 = .ok (.goto 4, 3) := by decide +kernel
theorem dX7_isAnyWord_17 : decode cX7_isAnyWord 17 = .ok (.iconst 0, 1) := by decide +kernel
theorem dX7_isAnyWord_18 : decode cX7_isAnyWord 18 = .ok (.ireturn, 1) := by decide +kernel
def wp_X7_isAnyWord (l0 : Nat) (h : PH) (Q : Int32 → PH → Prop) : Prop := (∃ b1, qR h l0 0 = some b1 ∧ (vp_in (qI h l0 4) (qL h b1) ∧ ((¬ (qI h b1 (qI h l0 4).toNatClampNeg) = 1 → Q 0 h) ∧ ((qI h b1 (qI h l0 4).toNatClampNeg) = 1 → Q 1 h))))
set_option maxHeartbeats 4000000 in
set_option maxRecDepth 100000 in
theorem sn_X7_isAnyWord (G : GT) (d : Nat) (l0 : Nat) (h : PH) (Q : Int32 → PH → Prop) (okl0 : qOK h 7 l0) (hwp : wp_X7_isAnyWord l0 h Q) : Mt G (0 + d) 0 0 mX7_isAnyWord [.ref l0] h (qqb Q) := by
  unfold wp_X7_isAnyWord at hwp
  refine Mt.of (by decide) rfl (Nat.le_of_ble_eq_true rfl) ?_
  have hex := qEx.rf h
  have hnn : qn h = qn h + 0 := rfl
  have hzz : qz h = qz h + 0 := rfl
  refine x_lvE (lv2 := [(0, .ref l0)]) rfl ?_
  refine x_aload_n (pc := 0) dX7_isAnyWord_0 rfl ?_
  obtain ⟨b1, e2, hwp⟩ := hwp
  refine x_getR (pc := 1) dX7_isAnyWord_1 qRX7_9 okl0 e2 (fun okb1 => ?_)
  refine x_aload_n (pc := 4) dX7_isAnyWord_4 rfl ?_
  refine x_getI (pc := 5) dX7_isAnyWord_5 qRX7_25 okl0 (by decide) ?_
  obtain ⟨i3, hwp⟩ := hwp
  refine x_iaload (pc := 8) dX7_isAnyWord_8 okb1 i3 ?_
  refine x_iconst (v := 1) (pc := 9) dX7_isAnyWord_9 (by decide) ?_
  refine x_icmp_ne (tgt := 17) (pc := 10) dX7_isAnyWord_10 (by decide) (fun c4 => ?_) (fun c4 => ?_)
  · have hwp := hwp.1 c4
    refine x_iconst (v := 0) (pc := 17) dX7_isAnyWord_17 (by decide) ?_
    exact x_zret (pc := 18) dX7_isAnyWord_18 rfl hex hnn hzz (by decide) ⟨_, rfl, by decide, hwp⟩
  · have hwp := hwp.2 c4
    refine x_iconst (v := 1) (pc := 13) dX7_isAnyWord_13 (by decide) ?_
    refine x_goto (tgt := 18) (pc := 14) dX7_isAnyWord_14 (by decide) ?_
    exact x_zret (pc := 18) dX7_isAnyWord_18 rfl hex hnn hzz (by decide) ⟨_, rfl, by decide, hwp⟩

theorem dX7_takeWord_0 : decode cX7_takeWord 0 = .ok (.aload_n 0, 1) := by decide +kernel
theorem dX7_takeWord_1 : decode cX7_takeWord 1 = .ok (.aload_n 1, 1) := by decide +kernel
theorem dX7_takeWord_2 : decode cX7_takeWord 2 = .ok (.invokevirtual 83, 3) := by decide +kernel
theorem dX7_takeWord_5 : decode cX7_takeWord 5 = .ok (.ifCond .ne 9, 3) := by decide +kernel
theorem dX7_takeWord_8 : decode cX7_takeWord 8 = .ok (.aload_n 0, 1) := by decide +kernel
theorem dX7_takeWord_9 : decode cX7_takeWord 9 = .ok (.iconst 1, 1) := by decide +kernel
theorem dX7_takeWord_10 : decode cX7_takeWord 10 = .ok (.invokevirtual 87, 3) := by decide +kernel
theorem dX7_takeWord_13 : decode cX7_takeWord 13 = .ok (.ireturn, 1) := by decide +kernel
theorem dX7_takeWord_14 : decode cX7_takeWord 14 = .ok (.aload_n 0, 1) := by decide +kernel
theorem dX7_takeWord_15 : decode cX7_takeWord 15 = .ok (.invokevirtual 90, 3) := by decide +kernel
theorem dX7_takeWord_18 : decode cX7_takeWord 18 = .ok (.iconst 1, 1) := by decide +kernel
theorem dX7_takeWord_19 : decode cX7_takeWord 19 = .ok (.ireturn, 1) := by decide +kernel
def wp_X7_takeWord (l0 : Nat) (l1 : Nat) (h : PH) (Q : Int32 → PH → Prop) : Prop := (wp_X7_isWord l0 l1 h (fun r2 h1 => ((¬ r2 = 0 → (wp_X7_pass l0 h1 (fun h4 => Q 1 h4))) ∧ (r2 = 0 → (wp_X7_fail l0 1 h1 (fun r7 h6 => ((r7 = 0 ∨ r7 = 1) ∧ Q r7 h6)))))))
set_option maxHeartbeats 4000000 in
set_option maxRecDepth 100000 in
theorem sn_X7_takeWord (G : GT) (d : Nat) (l0 : Nat) (l1 : Nat) (h : PH) (Q : Int32 → PH → Prop) (okl0 : qOK h 7 l0) (hwp : wp_X7_takeWord l0 l1 h Q) : Mt G (1 + d) 0 0 mX7_takeWord [.ref l0, .ref l1] h (qqb Q) := by
  unfold wp_X7_takeWord at hwp
  refine Mt.of (by decide) rfl (Nat.le_of_ble_eq_true rfl) ?_
  have hex := qEx.rf h
  have hnn : qn h = qn h + 0 := rfl
  have hzz : qz h = qz h + 0 := rfl
  refine x_lvE (lv2 := [(0, .ref l0), (1, .ref l1)]) rfl ?_
  refine x_aload_n (pc := 0) dX7_takeWord_0 rfl ?_
  refine x_aload_n (pc := 1) dX7_takeWord_1 rfl ?_
  refine x_invV (As := [.ref l1]) (st := []) (pc := 2) dX7_takeWord_2 lRX7_83 fX7_isWord vX7_isWord okl0 rfl (Nat.le_of_ble_eq_true rfl) (q_R (by omega) (by decide)) (q_C hnn hzz (by decide) (by decide)) (sn_X7_isWord G (d + 0) l0 l1 h _ okl0 hwp) (k_b (fun r2 h1 hwp zbr2 cxh1 => ?_))
  have hex := hex.tr cxh1.1
  have hnn : qn h1 = qn h + 0 := by have := cxh1.2.1; omega
  have hzz : qz h1 = qz h + 0 := by have := cxh1.2.2; omega
  have okl0 := okl0.ex cxh1.1
  refine x_if_ne (tgt := 14) (pc := 5) dX7_takeWord_5 (by decide) (fun c3 => ?_) (fun c3 => ?_)
  · have hwp := hwp.1 c3
    refine x_aload_n (pc := 14) dX7_takeWord_14 rfl ?_
    refine x_invV (As := []) (st := []) (pc := 15) dX7_takeWord_15 lRX7_90 fX7_pass vX7_pass okl0 rfl (Nat.le_of_ble_eq_true rfl) (q_R (by omega) (by decide)) (q_C hnn hzz (by decide) (by decide)) (sn_X7_pass G (d + 0) l0 h1 _ okl0 hwp) (k_v (fun h4 hwp cxh4 => ?_))
    have hex := hex.tr cxh4.1
    have hnn : qn h4 = qn h + 0 := by have := cxh4.2.1; omega
    have hzz : qz h4 = qz h + 0 := by have := cxh4.2.2; omega
    have okl0 := okl0.ex cxh4.1
    refine x_iconst (v := 1) (pc := 18) dX7_takeWord_18 (by decide) ?_
    exact x_zret (pc := 19) dX7_takeWord_19 rfl hex hnn hzz (by decide) ⟨_, rfl, by decide, hwp⟩
  · have hwp := hwp.2 c3
    refine x_aload_n (pc := 8) dX7_takeWord_8 rfl ?_
    refine x_iconst (v := 1) (pc := 9) dX7_takeWord_9 (by decide) ?_
    refine x_invV (As := [.int 1]) (st := []) (pc := 10) dX7_takeWord_10 lRX7_87 fX7_fail vX7_fail okl0 rfl (Nat.le_of_ble_eq_true rfl) (q_R (by omega) (by decide)) (q_C hnn hzz (by decide) (by decide)) (sn_X7_fail G (d + 0) l0 1 h1 _ okl0 hwp) (k_b (fun r7 h6 hwp zbr7 cxh6 => ?_))
    have hex := hex.tr cxh6.1
    have hnn : qn h6 = qn h + 0 := by have := cxh6.2.1; omega
    have hzz : qz h6 = qz h + 0 := by have := cxh6.2.2; omega
    have okl0 := okl0.ex cxh6.1
    exact x_zret (pc := 13) dX7_takeWord_13 rfl hex hnn hzz hwp.1 ⟨_, rfl, hwp.1, hwp.2⟩

theorem dX6_byteAt_0 : decode cX6_byteAt 0 = .ok (.iload_n 1, 1) := by decide +kernel
theorem dX6_byteAt_1 : decode cX6_byteAt 1 = .ok (.ifCond .lt 25, 3) := by decide +kernel
theorem dX6_byteAt_4 : decode cX6_byteAt 4 = .ok (.iload_n 1, 1) := by decide +kernel
theorem dX6_byteAt_5 : decode cX6_byteAt 5 = .ok (.aload_n 0, 1) := by decide +kernel
theorem dX6_byteAt_6 : decode cX6_byteAt 6 = .ok (.getfield 9, 3) := by decide +kernel
theorem dX6_byteAt_9 : decode cX6_byteAt 9 = .ok (.arraylength, 1) := by decide +kernel
theorem dX6_byteAt_10 : decode cX6_byteAt 10 = .ok (.if_icmp .ge 16, 3) := by decide +kernel
theorem dX6_byteAt_13 : decode cX6_byteAt 13 = .ok (.aload_n 0, 1) := by decide +kernel
theorem dX6_byteAt_14 : decode cX6_byteAt 14 = .ok (.getfield 9, 3) := by decide +kernel
theorem dX6_byteAt_17 : decode cX6_byteAt 17 = .ok (.iload_n 1, 1) := by decide +kernel
theorem dX6_byteAt_18 : decode cX6_byteAt 18 = .ok (.baload, 1) := by decide +kernel
theorem dX6_byteAt_19 : decode cX6_byteAt 19 = .ok (.sipush 255, 3) := by decide +kernel
theorem dX6_byteAt_22 : decode cX6_byteAt 22 = .ok (.iand, 1) := by decide +kernel
theorem dX6_byteAt_23 : decode cX6_byteAt 23 = .ok (.goto 4, 3) := by decide +kernel
theorem dX6_byteAt_26 : decode cX6_byteAt 26 = .ok (.iconst 0, 1) := by decide +kernel
theorem dX6_byteAt_27 : decode cX6_byteAt 27 = .ok (.ireturn, 1) := by decide +kernel
def wp_X6_byteAt (l0 : Nat) (l1 : Int32) (h : PH) (Q : Int32 → PH → Prop) : Prop := ((l1 < 0 → Q 0 h) ∧ (¬ (l1 < 0) → (∃ b2, qR h l0 0 = some b2 ∧ (((nI (qL h b2)) ≤ l1 → Q 0 h) ∧ (¬ ((nI (qL h b2)) ≤ l1) → (∃ b5, qR h l0 0 = some b5 ∧ (vp_in l1 (qL h b5) ∧ Q ((qI h b5 l1.toNatClampNeg) &&& 255) h)))))))
set_option maxHeartbeats 4000000 in
set_option maxRecDepth 100000 in
theorem sn_X6_byteAt (G : GT) (d : Nat) (l0 : Nat) (l1 : Int32) (h : PH) (Q : Int32 → PH → Prop) (okl0 : qOK h 6 l0) (hwp : wp_X6_byteAt l0 l1 h Q) : Mt G (0 + d) 0 0 mX6_byteAt [.ref l0, .int l1] h (qqi Q) := by
  unfold wp_X6_byteAt at hwp
  refine Mt.of (by decide) rfl (Nat.le_of_ble_eq_true rfl) ?_
  have hex := qEx.rf h
  have hnn : qn h = qn h + 0 := rfl
  have hzz : qz h = qz h + 0 := rfl
  refine x_lvE (lv2 := [(0, .ref l0), (1, .int l1)]) rfl ?_
  refine x_iload_n (pc := 0) dX6_byteAt_0 rfl ?_
  refine x_if_lt (tgt := 26) (pc := 1) dX6_byteAt_1 (by decide) (fun c1 => ?_) (fun c1 => ?_)
  · have hwp := hwp.1 c1
    refine x_iconst (v := 0) (pc := 26) dX6_byteAt_26 (by decide) ?_
    exact x_iret (pc := 27) dX6_byteAt_27 rfl hex hnn hzz ⟨_, rfl, hwp⟩
  · have hwp := hwp.2 c1
    refine x_iload_n (pc := 4) dX6_byteAt_4 rfl ?_
    refine x_aload_n (pc := 5) dX6_byteAt_5 rfl ?_
    obtain ⟨b2, e3, hwp⟩ := hwp
    refine x_getR (pc := 6) dX6_byteAt_6 qRX6_9 okl0 e3 (fun okb2 => ?_)
    refine x_alen (pc := 9) dX6_byteAt_9 okb2 (by decide) ?_
    refine x_icmp_ge (tgt := 26) (pc := 10) dX6_byteAt_10 (by decide) (fun c4 => ?_) (fun c4 => ?_)
    · have hwp := hwp.1 c4
      refine x_iconst (v := 0) (pc := 26) dX6_byteAt_26 (by decide) ?_
      exact x_iret (pc := 27) dX6_byteAt_27 rfl hex hnn hzz ⟨_, rfl, hwp⟩
    · have hwp := hwp.2 c4
      refine x_aload_n (pc := 13) dX6_byteAt_13 rfl ?_
      obtain ⟨b5, e6, hwp⟩ := hwp
      refine x_getR (pc := 14) dX6_byteAt_14 qRX6_9 okl0 e6 (fun okb5 => ?_)
      refine x_iload_n (pc := 17) dX6_byteAt_17 rfl ?_
      obtain ⟨i7, hwp⟩ := hwp
      refine x_baload (pc := 18) dX6_byteAt_18 okb5 i7 ?_
      refine x_sipush (v := 255) (pc := 19) dX6_byteAt_19 (by decide) ?_
      refine x_iand (pc := 22) dX6_byteAt_22 ?_
      refine x_goto (tgt := 27) (pc := 23) dX6_byteAt_23 (by decide) ?_
      exact x_iret (pc := 27) dX6_byteAt_27 rfl hex hnn hzz ⟨_, rfl, hwp⟩

theorem dX6_init_0 : decode cX6_init 0 = .ok (.aload_n 0, 1) := by decide +kernel
theorem dX6_init_1 : decode cX6_init 1 = .ok (.invokespecial 3, 3) := by decide +kernel
theorem dX6_init_4 : decode cX6_init 4 = .ok (.aload_n 0, 1) := by decide +kernel
theorem dX6_init_5 : decode cX6_init 5 = .ok (.sipush 640, 3) := by decide +kernel
theorem dX6_init_8 : decode cX6_init 8 = .ok (.newarray .byte, 2) := by decide +kernel
theorem dX6_init_10 : decode cX6_init 10 = .ok (.putfield 9, 3) := by decide +kernel
theorem dX6_init_13 : decode cX6_init 13 = .ok (.aload_n 0, 1) := by decide +kernel
theorem dX6_init_14 : decode cX6_init 14 = .ok (.iconst 0, 1) := by decide +kernel
theorem dX6_init_15 : decode cX6_init 15 = .ok (.putfield 15, 3) := by decide +kernel
theorem dX6_init_18 : decode cX6_init 18 = .ok (.return_, 1) := by decide +kernel
def wp_X6_init (l0 : Nat) (h : PH) (Q : PH → Prop) : Prop := (qn h + 1 ≤ 1000000 ∧ ∀ h1, h1 = qnew h 13 640 640 → (∀ h3, h3 = qsR h1 l0 0 (some (qn h)) → (∀ h4, h4 = qsI h3 l0 1 0 → Q h4)))
set_option maxHeartbeats 4000000 in
set_option maxRecDepth 100000 in
theorem sn_X6_init (G : GT) (d : Nat) (l0 : Nat) (h : PH) (Q : PH → Prop) (okl0 : qOK h 6 l0) (hwp : wp_X6_init l0 h Q) : Mt G (1 + d) 1 640 mX6_init [.ref l0] h (qqv Q) := by
  unfold wp_X6_init at hwp
  refine Mt.of (by decide) rfl (Nat.le_of_ble_eq_true rfl) ?_
  have hex := qEx.rf h
  have hnn : qn h = qn h + 0 := rfl
  have hzz : qz h = qz h + 0 := rfl
  refine x_lvE (lv2 := [(0, .ref l0)]) rfl ?_
  refine x_aload_n (pc := 0) dX6_init_0 rfl ?_
  refine x_objInit (pc := 1) dX6_init_1 lRX6_3 wk_oi wk_oc (q_R1 (by omega)) (Nat.le_of_ble_eq_true rfl) ?_
  refine x_aload_n (pc := 4) dX6_init_4 rfl ?_
  refine x_sipush (v := 640) (pc := 5) dX6_init_5 (by decide) ?_
  obtain ⟨m2, hwp⟩ := hwp
  refine y_newa (t := 13) (N := 640) (t0 := 0) (ty := .byte) (pc := 8) dX6_init_8 rfl (by decide) wk_ac_byte (by decide) (by decide) (by decide) (q_C hnn hzz (by decide) (by decide)) m2 (fun h1 eh1 nwh1 okbh1 => ?_)
  have hwp := hwp h1 eh1
  have hex := hex.tr nwh1.1
  have hnn : qn h1 = qn h + 1 := by have := nwh1.2.1; omega
  have hzz : qz h1 = qz h + 640 := by have := nwh1.2.2; omega
  have okl0 := okl0.ex nwh1.1
  refine y_putF rfl (pc := 10) dX6_init_10 FRX6_9 okl0 okbh1 (fun h3 eh3 nxh3 => ?_)
  have hwp := hwp h3 eh3
  have hex := hex.tr nxh3.1
  have hnn := nxh3.2.1.trans hnn
  have hzz := nxh3.2.2.trans hzz
  have okl0 := okl0.ex nxh3.1
  have okbh1 := okbh1.ex nxh3.1
  refine x_aload_n (pc := 13) dX6_init_13 rfl ?_
  refine x_iconst (v := 0) (pc := 14) dX6_init_14 (by decide) ?_
  refine y_putI (pc := 15) dX6_init_15 qRX6_15 okl0 (fun h4 eh4 nxh4 => ?_)
  have hwp := hwp h4 eh4
  have hex := hex.tr nxh4.1
  have hnn := nxh4.2.1.trans hnn
  have hzz := nxh4.2.2.trans hzz
  have okl0 := okl0.ex nxh4.1
  have okbh1 := okbh1.ex nxh4.1
  exact x_vret (pc := 18) dX6_init_18 rfl hex hnn hzz ⟨rfl, hwp⟩

theorem dX6_append_0 : decode cX6_append 0 = .ok (.bipush 24, 2) := by decide +kernel
theorem dX6_append_2 : decode cX6_append 2 = .ok (.istore_n 2, 1) := by decide +kernel
theorem dX6_append_3 : decode cX6_append 3 = .ok (.iload_n 2, 1) := by decide +kernel
theorem dX6_append_4 : decode cX6_append 4 = .ok (.ifCond .lt 51, 3) := by decide +kernel
theorem dX6_append_7 : decode cX6_append 7 = .ok (.aload_n 0, 1) := by decide +kernel
theorem dX6_append_8 : decode cX6_append 8 = .ok (.getfield 15, 3) := by decide +kernel
theorem dX6_append_11 : decode cX6_append 11 = .ok (.ifCond .lt 38, 3) := by decide +kernel
theorem dX6_append_14 : decode cX6_append 14 = .ok (.aload_n 0, 1) := by decide +kernel
theorem dX6_append_15 : decode cX6_append 15 = .ok (.getfield 15, 3) := by decide +kernel
theorem dX6_append_18 : decode cX6_append 18 = .ok (.aload_n 0, 1) := by decide +kernel
theorem dX6_append_19 : decode cX6_append 19 = .ok (.getfield 9, 3) := by decide +kernel
theorem dX6_append_22 : decode cX6_append 22 = .ok (.arraylength, 1) := by decide +kernel
theorem dX6_append_23 : decode cX6_append 23 = .ok (.if_icmp .ge 26, 3) := by decide +kernel
theorem dX6_append_26 : decode cX6_append 26 = .ok (.aload_n 0, 1) := by decide +kernel
theorem dX6_append_27 : decode cX6_append 27 = .ok (.getfield 9, 3) := by decide +kernel
theorem dX6_append_30 : decode cX6_append 30 = .ok (.aload_n 0, 1) := by decide +kernel
theorem dX6_append_31 : decode cX6_append 31 = .ok (.getfield 15, 3) := by decide +kernel
theorem dX6_append_34 : decode cX6_append 34 = .ok (.iload_n 1, 1) := by decide +kernel
theorem dX6_append_35 : decode cX6_append 35 = .ok (.iload_n 2, 1) := by decide +kernel
theorem dX6_append_36 : decode cX6_append 36 = .ok (.iushr, 1) := by decide +kernel
theorem dX6_append_37 : decode cX6_append 37 = .ok (.i2b, 1) := by decide +kernel
theorem dX6_append_38 : decode cX6_append 38 = .ok (.bastore, 1) := by decide +kernel
theorem dX6_append_39 : decode cX6_append 39 = .ok (.aload_n 0, 1) := by decide +kernel
theorem dX6_append_40 : decode cX6_append 40 = .ok (.dup, 1) := by decide +kernel
theorem dX6_append_41 : decode cX6_append 41 = .ok (.getfield 15, 3) := by decide +kernel
theorem dX6_append_44 : decode cX6_append 44 = .ok (.iconst 1, 1) := by decide +kernel
theorem dX6_append_45 : decode cX6_append 45 = .ok (.iadd, 1) := by decide +kernel
theorem dX6_append_46 : decode cX6_append 46 = .ok (.putfield 15, 3) := by decide +kernel
theorem dX6_append_49 : decode cX6_append 49 = .ok (.iinc 2 (-8), 3) := by decide +kernel
theorem dX6_append_52 : decode cX6_append 52 = .ok (.goto (-49), 3) := by decide +kernel
theorem dX6_append_55 : decode cX6_append 55 = .ok (.return_, 1) := by decide +kernel
def E_X6_append_3 (G : GT) (d : Nat) (h0 hb : PH) (l0 : Nat) (l1 : Int32) (Q : PH → Prop) (s : Int32 × PH) : Prop := qEx hb s.2 ∧ qn s.2 = qn hb ∧ qz s.2 = qz hb → Ex G (qrm (0 + d) 0 0) mX6_append (qn h0) (qz h0) (ZN G h0 0 0 (qqv Q)) 3 [(0, .ref l0), (1, .int l1), (2, .int s.1)] [] s.2
def wb_X6_append_3 (l0 : Nat) (l1 : Int32)  (Q : PH → Prop) (bk3 : Int32 × PH → Prop) (l2 : Int32) (h : PH) : Prop := ((l2 < 0 → Q h) ∧ (¬ (l2 < 0) → (((qI h l0 1) < 0 → ∀ v3 : Int32, v3 = l2 + (-8) → bk3 (v3, h)) ∧ (¬ ((qI h l0 1) < 0) → (∃ b4, qR h l0 0 = some b4 ∧ (((nI (qL h b4)) ≤ (qI h l0 1) → ∀ v7 : Int32, v7 = l2 + (-8) → bk3 (v7, h)) ∧ (¬ ((nI (qL h b4)) ≤ (qI h l0 1)) → (∃ b8, qR h l0 0 = some b8 ∧ (vp_in (qI h l0 1) (qL h b8) ∧ ∀ h10, h10 = qsI h b8 (qI h l0 1).toNatClampNeg (vp_nar .byte ((q_ushr l1 l2).toInt8.toInt32)) → (∀ h12, h12 = qsI h10 l0 1 ((qI h10 l0 1) + 1) → ∀ v13 : Int32, v13 = l2 + (-8) → bk3 (v13, h12)))))))))))
def wp_X6_append_3 (l0 : Nat) (l1 : Int32)  (Q : PH → Prop) (bk3 : Int32 × PH → Prop) (s : Int32 × PH) : Prop := wb_X6_append_3 l0 l1 Q bk3 s.1 s.2
set_option maxHeartbeats 4000000 in
set_option maxRecDepth 100000 in
theorem bd_X6_append_3 (G : GT) (d : Nat) (h0 hb : PH) (l0 : Nat) (l1 : Int32) (Q : PH → Prop)  (hex : qEx h0 hb) (hnn : qn hb = qn h0 + 0) (hzz : qz hb = qz h0 + 0) (okl0 : qOK hb 6 l0) (bk3 : Int32 × PH → Prop) (hbk3 : ∀ s2, bk3 s2 → E_X6_append_3 G d h0 hb l0 l1 Q s2) (l2 : Int32) (h : PH) (hwp : wb_X6_append_3 l0 l1 Q bk3 l2 h) (hx3 : qEx hb h) (hn3 : qn h = qn hb) (hz3 : qz h = qz hb) : Ex G (qrm (0 + d) 0 0) mX6_append (qn h0) (qz h0) (ZN G h0 0 0 (qqv Q)) 3 [(0, .ref l0), (1, .int l1), (2, .int l2)] [] h := by
  unfold wb_X6_append_3 at hwp
  have hex := hex.tr hx3
  have hnn := hn3.trans hnn
  have hzz := hz3.trans hzz
  have okl0 := okl0.ex hx3
  refine x_iload_n (pc := 3) dX6_append_3 rfl ?_
  refine x_if_lt (tgt := 55) (pc := 4) dX6_append_4 (by decide) (fun c1 => ?_) (fun c1 => ?_)
  · have hwp := hwp.1 c1
    exact x_vret (pc := 55) dX6_append_55 rfl hex hnn hzz ⟨rfl, hwp⟩
  · have hwp := hwp.2 c1
    refine x_aload_n (pc := 7) dX6_append_7 rfl ?_
    refine x_getI (pc := 8) dX6_append_8 qRX6_15 okl0 (by decide) ?_
    refine x_if_lt (tgt := 49) (pc := 11) dX6_append_11 (by decide) (fun c2 => ?_) (fun c2 => ?_)
    · have hwp := hwp.1 c2
      refine y_iinc (c := (-8)) (pc := 49) dX6_append_49 rfl (by decide) (by decide) (fun v3 ev3 => ?_)
      have hwp := hwp v3 ev3
      refine x_lvE (lv2 := [(2, .int v3), (0, .ref l0), (1, .int l1)]) rfl ?_
      refine x_goto (tgt := 3) (pc := 52) dX6_append_52 (by decide) ?_
      refine x_sub [1, 2, 0] rfl ?_
      exact hbk3 _ hwp ⟨hx3, hn3, hz3⟩
    · have hwp := hwp.2 c2
      refine x_aload_n (pc := 14) dX6_append_14 rfl ?_
      refine x_getI (pc := 15) dX6_append_15 qRX6_15 okl0 (by decide) ?_
      refine x_aload_n (pc := 18) dX6_append_18 rfl ?_
      obtain ⟨b4, e5, hwp⟩ := hwp
      refine x_getR (pc := 19) dX6_append_19 qRX6_9 okl0 e5 (fun okb4 => ?_)
      refine x_alen (pc := 22) dX6_append_22 okb4 (by decide) ?_
      refine x_icmp_ge (tgt := 49) (pc := 23) dX6_append_23 (by decide) (fun c6 => ?_) (fun c6 => ?_)
      · have hwp := hwp.1 c6
        refine y_iinc (c := (-8)) (pc := 49) dX6_append_49 rfl (by decide) (by decide) (fun v7 ev7 => ?_)
        have hwp := hwp v7 ev7
        refine x_lvE (lv2 := [(2, .int v7), (0, .ref l0), (1, .int l1)]) rfl ?_
        refine x_goto (tgt := 3) (pc := 52) dX6_append_52 (by decide) ?_
        refine x_sub [1, 2, 0] rfl ?_
        exact hbk3 _ hwp ⟨hx3, hn3, hz3⟩
      · have hwp := hwp.2 c6
        refine x_aload_n (pc := 26) dX6_append_26 rfl ?_
        obtain ⟨b8, e9, hwp⟩ := hwp
        refine x_getR (pc := 27) dX6_append_27 qRX6_9 okl0 e9 (fun okb8 => ?_)
        refine x_aload_n (pc := 30) dX6_append_30 rfl ?_
        refine x_getI (pc := 31) dX6_append_31 qRX6_15 okl0 (by decide) ?_
        refine x_iload_n (pc := 34) dX6_append_34 rfl ?_
        refine x_iload_n (pc := 35) dX6_append_35 rfl ?_
        refine x_iushr (pc := 36) dX6_append_36 ?_
        refine x_i2b (pc := 37) dX6_append_37 ?_
        obtain ⟨i11, hwp⟩ := hwp
        refine y_bastore (pc := 38) dX6_append_38 okb8 i11 (fun h10 eh10 nxh10 => ?_)
        have hwp := hwp h10 eh10
        have hex := hex.tr nxh10.1
        have hnn := nxh10.2.1.trans hnn
        have hzz := nxh10.2.2.trans hzz
        have hx3 := hx3.tr nxh10.1
        have hn3 := nxh10.2.1.trans hn3
        have hz3 := nxh10.2.2.trans hz3
        have okl0 := okl0.ex nxh10.1
        have okb4 := okb4.ex nxh10.1
        have okb8 := okb8.ex nxh10.1
        refine x_aload_n (pc := 39) dX6_append_39 rfl ?_
        refine x_dup (pc := 40) dX6_append_40 rfl ?_
        refine x_getI (pc := 41) dX6_append_41 qRX6_15 okl0 (by decide) ?_
        refine x_iconst (v := 1) (pc := 44) dX6_append_44 (by decide) ?_
        refine x_iadd (pc := 45) dX6_append_45 ?_
        refine y_putI (pc := 46) dX6_append_46 qRX6_15 okl0 (fun h12 eh12 nxh12 => ?_)
        have hwp := hwp h12 eh12
        have hex := hex.tr nxh12.1
        have hnn := nxh12.2.1.trans hnn
        have hzz := nxh12.2.2.trans hzz
        have hx3 := hx3.tr nxh12.1
        have hn3 := nxh12.2.1.trans hn3
        have hz3 := nxh12.2.2.trans hz3
        have okl0 := okl0.ex nxh12.1
        have okb4 := okb4.ex nxh12.1
        have okb8 := okb8.ex nxh12.1
        refine y_iinc (c := (-8)) (pc := 49) dX6_append_49 rfl (by decide) (by decide) (fun v13 ev13 => ?_)
        have hwp := hwp v13 ev13
        refine x_lvE (lv2 := [(2, .int v13), (0, .ref l0), (1, .int l1)]) rfl ?_
        refine x_goto (tgt := 3) (pc := 52) dX6_append_52 (by decide) ?_
        refine x_sub [1, 2, 0] rfl ?_
        exact hbk3 _ hwp ⟨hx3, hn3, hz3⟩
theorem lp_X6_append_3 (G : GT) (d : Nat) (h0 hb : PH) (l0 : Nat) (l1 : Int32) (Q : PH → Prop)  (hex : qEx h0 hb) (hnn : qn hb = qn h0 + 0) (hzz : qz hb = qz h0 + 0) (okl0 : qOK hb 6 l0) {s : Int32 × PH} (hwp : qLoop (wp_X6_append_3 l0 l1 Q) s) : E_X6_append_3 G d h0 hb l0 l1 Q s :=
  qLoop.use (E := E_X6_append_3 G d h0 hb l0 l1 Q) (fun back s hbk hw hx => bd_X6_append_3 G d h0 hb l0 l1 Q hex hnn hzz okl0 back hbk s.1 s.2 hw hx.1 hx.2.1 hx.2.2) hwp
def wp_X6_append (l0 : Nat) (l1 : Int32) (h : PH) (Q : PH → Prop) : Prop := (qLoop (wp_X6_append_3 l0 l1 Q) (24, h))
set_option maxHeartbeats 4000000 in
set_option maxRecDepth 100000 in
theorem sn_X6_append (G : GT) (d : Nat) (l0 : Nat) (l1 : Int32) (h : PH) (Q : PH → Prop) (okl0 : qOK h 6 l0) (hwp : wp_X6_append l0 l1 h Q) : Mt G (0 + d) 0 0 mX6_append [.ref l0, .int l1] h (qqv Q) := by
  unfold wp_X6_append at hwp
  refine Mt.of (by decide) rfl (Nat.le_of_ble_eq_true rfl) ?_
  have hex := qEx.rf h
  have hnn : qn h = qn h + 0 := rfl
  have hzz : qz h = qz h + 0 := rfl
  refine x_lvE (lv2 := [(0, .ref l0), (1, .int l1)]) rfl ?_
  refine x_bipush (v := 24) (pc := 0) dX6_append_0 (by decide) ?_
  refine x_istore_n (lv2 := [(2, .int 24), (0, .ref l0), (1, .int l1)]) (pc := 2) dX6_append_2 (by decide) rfl ?_
  refine x_sub [1, 2, 0] rfl ?_
  exact lp_X6_append_3 G d h h l0 l1 Q hex hnn hzz okl0 hwp ⟨qEx.rf _, rfl, rfl⟩

theorem dX7_init_0 : decode cX7_init 0 = .ok (.aload_n 0, 1) := by decide +kernel
theorem dX7_init_1 : decode cX7_init 1 = .ok (.invokespecial 3, 3) := by decide +kernel
theorem dX7_init_4 : decode cX7_init 4 = .ok (.aload_n 0, 1) := by decide +kernel
theorem dX7_init_5 : decode cX7_init 5 = .ok (.sipush 641, 3) := by decide +kernel
theorem dX7_init_8 : decode cX7_init 8 = .ok (.newarray .int, 2) := by decide +kernel
theorem dX7_init_10 : decode cX7_init 10 = .ok (.putfield 9, 3) := by decide +kernel
theorem dX7_init_13 : decode cX7_init 13 = .ok (.aload_n 0, 1) := by decide +kernel
theorem dX7_init_14 : decode cX7_init 14 = .ok (.sipush 641, 3) := by decide +kernel
theorem dX7_init_17 : decode cX7_init 17 = .ok (.newarray .int, 2) := by decide +kernel
theorem dX7_init_19 : decode cX7_init 19 = .ok (.putfield 15, 3) := by decide +kernel
theorem dX7_init_22 : decode cX7_init 22 = .ok (.aload_n 0, 1) := by decide +kernel
theorem dX7_init_23 : decode cX7_init 23 = .ok (.sipush 641, 3) := by decide +kernel
theorem dX7_init_26 : decode cX7_init 26 = .ok (.newarray .int, 2) := by decide +kernel
theorem dX7_init_28 : decode cX7_init 28 = .ok (.putfield 18, 3) := by decide +kernel
theorem dX7_init_31 : decode cX7_init 31 = .ok (.aload_n 0, 1) := by decide +kernel
theorem dX7_init_32 : decode cX7_init 32 = .ok (.iconst 0, 1) := by decide +kernel
theorem dX7_init_33 : decode cX7_init 33 = .ok (.putfield 21, 3) := by decide +kernel
theorem dX7_init_36 : decode cX7_init 36 = .ok (.aload_n 0, 1) := by decide +kernel
theorem dX7_init_37 : decode cX7_init 37 = .ok (.iconst 0, 1) := by decide +kernel
theorem dX7_init_38 : decode cX7_init 38 = .ok (.putfield 25, 3) := by decide +kernel
theorem dX7_init_41 : decode cX7_init 41 = .ok (.aload_n 0, 1) := by decide +kernel
theorem dX7_init_42 : decode cX7_init 42 = .ok (.iconst 0, 1) := by decide +kernel
theorem dX7_init_43 : decode cX7_init 43 = .ok (.putfield 28, 3) := by decide +kernel
theorem dX7_init_46 : decode cX7_init 46 = .ok (.aload_n 0, 1) := by decide +kernel
theorem dX7_init_47 : decode cX7_init 47 = .ok (.iconst 0, 1) := by decide +kernel
theorem dX7_init_48 : decode cX7_init 48 = .ok (.putfield 32, 3) := by decide +kernel
theorem dX7_init_51 : decode cX7_init 51 = .ok (.return_, 1) := by decide +kernel
def wp_X7_init (l0 : Nat) (h : PH) (Q : PH → Prop) : Prop := (qn h + 1 ≤ 1000000 ∧ ∀ h1, h1 = qnew h 14 641 641 → (∀ h3, h3 = qsR h1 l0 0 (some (qn h)) → (qn h3 + 1 ≤ 1000000 ∧ ∀ h4, h4 = qnew h3 14 641 641 → (∀ h6, h6 = qsR h4 l0 1 (some (qn h3)) → (qn h6 + 1 ≤ 1000000 ∧ ∀ h7, h7 = qnew h6 14 641 641 → (∀ h9, h9 = qsR h7 l0 2 (some (qn h6)) → (∀ h10, h10 = qsI h9 l0 3 0 → (∀ h11, h11 = qsI h10 l0 4 0 → (∀ h12, h12 = qsI h11 l0 5 0 → (∀ h13, h13 = qsI h12 l0 6 0 → Q h13))))))))))
set_option maxHeartbeats 4000000 in
set_option maxRecDepth 100000 in
theorem sn_X7_init (G : GT) (d : Nat) (l0 : Nat) (h : PH) (Q : PH → Prop) (okl0 : qOK h 7 l0) (hwp : wp_X7_init l0 h Q) : Mt G (1 + d) 3 1923 mX7_init [.ref l0] h (qqv Q) := by
  unfold wp_X7_init at hwp
  refine Mt.of (by decide) rfl (Nat.le_of_ble_eq_true rfl) ?_
  have hex := qEx.rf h
  have hnn : qn h = qn h + 0 := rfl
  have hzz : qz h = qz h + 0 := rfl
  refine x_lvE (lv2 := [(0, .ref l0)]) rfl ?_
  refine x_aload_n (pc := 0) dX7_init_0 rfl ?_
  refine x_objInit (pc := 1) dX7_init_1 lRX7_3 wk_oi wk_oc (q_R1 (by omega)) (Nat.le_of_ble_eq_true rfl) ?_
  refine x_aload_n (pc := 4) dX7_init_4 rfl ?_
  refine x_sipush (v := 641) (pc := 5) dX7_init_5 (by decide) ?_
  obtain ⟨m2, hwp⟩ := hwp
  refine y_newa (t := 14) (N := 641) (t0 := 1) (ty := .int) (pc := 8) dX7_init_8 rfl (by decide) wk_ac_int (by decide) (by decide) (by decide) (q_C hnn hzz (by decide) (by decide)) m2 (fun h1 eh1 nwh1 okbh1 => ?_)
  have hwp := hwp h1 eh1
  have hex := hex.tr nwh1.1
  have hnn : qn h1 = qn h + 1 := by have := nwh1.2.1; omega
  have hzz : qz h1 = qz h + 641 := by have := nwh1.2.2; omega
  have okl0 := okl0.ex nwh1.1
  refine y_putF rfl (pc := 10) dX7_init_10 FRX7_9 okl0 okbh1 (fun h3 eh3 nxh3 => ?_)
  have hwp := hwp h3 eh3
  have hex := hex.tr nxh3.1
  have hnn := nxh3.2.1.trans hnn
  have hzz := nxh3.2.2.trans hzz
  have okl0 := okl0.ex nxh3.1
  have okbh1 := okbh1.ex nxh3.1
  refine x_aload_n (pc := 13) dX7_init_13 rfl ?_
  refine x_sipush (v := 641) (pc := 14) dX7_init_14 (by decide) ?_
  obtain ⟨m5, hwp⟩ := hwp
  refine y_newa (t := 14) (N := 641) (t0 := 1) (ty := .int) (pc := 17) dX7_init_17 rfl (by decide) wk_ac_int (by decide) (by decide) (by decide) (q_C hnn hzz (by decide) (by decide)) m5 (fun h4 eh4 nwh4 okbh4 => ?_)
  have hwp := hwp h4 eh4
  have hex := hex.tr nwh4.1
  have hnn : qn h4 = qn h + 2 := by have := nwh4.2.1; omega
  have hzz : qz h4 = qz h + 1282 := by have := nwh4.2.2; omega
  have okl0 := okl0.ex nwh4.1
  have okbh1 := okbh1.ex nwh4.1
  refine y_putF rfl (pc := 19) dX7_init_19 FRX7_15 okl0 okbh4 (fun h6 eh6 nxh6 => ?_)
  have hwp := hwp h6 eh6
  have hex := hex.tr nxh6.1
  have hnn := nxh6.2.1.trans hnn
  have hzz := nxh6.2.2.trans hzz
  have okl0 := okl0.ex nxh6.1
  have okbh1 := okbh1.ex nxh6.1
  have okbh4 := okbh4.ex nxh6.1
  refine x_aload_n (pc := 22) dX7_init_22 rfl ?_
  refine x_sipush (v := 641) (pc := 23) dX7_init_23 (by decide) ?_
  obtain ⟨m8, hwp⟩ := hwp
  refine y_newa (t := 14) (N := 641) (t0 := 1) (ty := .int) (pc := 26) dX7_init_26 rfl (by decide) wk_ac_int (by decide) (by decide) (by decide) (q_C hnn hzz (by decide) (by decide)) m8 (fun h7 eh7 nwh7 okbh7 => ?_)
  have hwp := hwp h7 eh7
  have hex := hex.tr nwh7.1
  have hnn : qn h7 = qn h + 3 := by have := nwh7.2.1; omega
  have hzz : qz h7 = qz h + 1923 := by have := nwh7.2.2; omega
  have okl0 := okl0.ex nwh7.1
  have okbh1 := okbh1.ex nwh7.1
  have okbh4 := okbh4.ex nwh7.1
  refine y_putF rfl (pc := 28) dX7_init_28 FRX7_18 okl0 okbh7 (fun h9 eh9 nxh9 => ?_)
  have hwp := hwp h9 eh9
  have hex := hex.tr nxh9.1
  have hnn := nxh9.2.1.trans hnn
  have hzz := nxh9.2.2.trans hzz
  have okl0 := okl0.ex nxh9.1
  have okbh1 := okbh1.ex nxh9.1
  have okbh4 := okbh4.ex nxh9.1
  have okbh7 := okbh7.ex nxh9.1
  refine x_aload_n (pc := 31) dX7_init_31 rfl ?_
  refine x_iconst (v := 0) (pc := 32) dX7_init_32 (by decide) ?_
  refine y_putI (pc := 33) dX7_init_33 qRX7_21 okl0 (fun h10 eh10 nxh10 => ?_)
  have hwp := hwp h10 eh10
  have hex := hex.tr nxh10.1
  have hnn := nxh10.2.1.trans hnn
  have hzz := nxh10.2.2.trans hzz
  have okl0 := okl0.ex nxh10.1
  have okbh1 := okbh1.ex nxh10.1
  have okbh4 := okbh4.ex nxh10.1
  have okbh7 := okbh7.ex nxh10.1
  refine x_aload_n (pc := 36) dX7_init_36 rfl ?_
  refine x_iconst (v := 0) (pc := 37) dX7_init_37 (by decide) ?_
  refine y_putI (pc := 38) dX7_init_38 qRX7_25 okl0 (fun h11 eh11 nxh11 => ?_)
  have hwp := hwp h11 eh11
  have hex := hex.tr nxh11.1
  have hnn := nxh11.2.1.trans hnn
  have hzz := nxh11.2.2.trans hzz
  have okl0 := okl0.ex nxh11.1
  have okbh1 := okbh1.ex nxh11.1
  have okbh4 := okbh4.ex nxh11.1
  have okbh7 := okbh7.ex nxh11.1
  refine x_aload_n (pc := 41) dX7_init_41 rfl ?_
  refine x_iconst (v := 0) (pc := 42) dX7_init_42 (by decide) ?_
  refine y_putZ (pc := 43) dX7_init_43 qRX7_28 okl0 (by decide) (fun h12 eh12 nxh12 => ?_)
  have hwp := hwp h12 eh12
  have hex := hex.tr nxh12.1
  have hnn := nxh12.2.1.trans hnn
  have hzz := nxh12.2.2.trans hzz
  have okl0 := okl0.ex nxh12.1
  have okbh1 := okbh1.ex nxh12.1
  have okbh4 := okbh4.ex nxh12.1
  have okbh7 := okbh7.ex nxh12.1
  refine x_aload_n (pc := 46) dX7_init_46 rfl ?_
  refine x_iconst (v := 0) (pc := 47) dX7_init_47 (by decide) ?_
  refine y_putI (pc := 48) dX7_init_48 qRX7_32 okl0 (fun h13 eh13 nxh13 => ?_)
  have hwp := hwp h13 eh13
  have hex := hex.tr nxh13.1
  have hnn := nxh13.2.1.trans hnn
  have hzz := nxh13.2.2.trans hzz
  have okl0 := okl0.ex nxh13.1
  have okbh1 := okbh1.ex nxh13.1
  have okbh4 := okbh4.ex nxh13.1
  have okbh7 := okbh7.ex nxh13.1
  exact x_vret (pc := 51) dX7_init_51 rfl hex hnn hzz ⟨rfl, hwp⟩

theorem dX7_isLetter_0 : decode cX7_isLetter 0 = .ok (.iload_n 0, 1) := by decide +kernel
theorem dX7_isLetter_1 : decode cX7_isLetter 1 = .ok (.bipush 97, 2) := by decide +kernel
theorem dX7_isLetter_3 : decode cX7_isLetter 3 = .ok (.if_icmp .lt 13, 3) := by decide +kernel
theorem dX7_isLetter_6 : decode cX7_isLetter 6 = .ok (.iload_n 0, 1) := by decide +kernel
theorem dX7_isLetter_7 : decode cX7_isLetter 7 = .ok (.bipush 122, 2) := by decide +kernel
theorem dX7_isLetter_9 : decode cX7_isLetter 9 = .ok (.if_icmp .gt 7, 3) := by decide +kernel
theorem dX7_isLetter_12 : decode cX7_isLetter 12 = .ok (.iconst 1, 1) := by decide +kernel
theorem dX7_isLetter_13 : decode cX7_isLetter 13 = .ok (.goto 4, 3) := by decide +kernel
theorem dX7_isLetter_16 : decode cX7_isLetter 16 = .ok (.iconst 0, 1) := by decide +kernel
theorem dX7_isLetter_17 : decode cX7_isLetter 17 = .ok (.ireturn, 1) := by decide +kernel
def wp_X7_isLetter (l0 : Int32) (h : PH) (Q : Int32 → PH → Prop) : Prop := ((l0 < 97 → Q 0 h) ∧ (¬ (l0 < 97) → ((122 < l0 → Q 0 h) ∧ (¬ (122 < l0) → Q 1 h))))
set_option maxHeartbeats 4000000 in
set_option maxRecDepth 100000 in
theorem sn_X7_isLetter (G : GT) (d : Nat) (l0 : Int32) (h : PH) (Q : Int32 → PH → Prop)  (hwp : wp_X7_isLetter l0 h Q) : Mt G (0 + d) 0 0 mX7_isLetter [.int l0] h (qqb Q) := by
  unfold wp_X7_isLetter at hwp
  refine Mt.of (by decide) rfl (Nat.le_of_ble_eq_true rfl) ?_
  have hex := qEx.rf h
  have hnn : qn h = qn h + 0 := rfl
  have hzz : qz h = qz h + 0 := rfl
  refine x_lvE (lv2 := [(0, .int l0)]) rfl ?_
  refine x_iload_n (pc := 0) dX7_isLetter_0 rfl ?_
  refine x_bipush (v := 97) (pc := 1) dX7_isLetter_1 (by decide) ?_
  refine x_icmp_lt (tgt := 16) (pc := 3) dX7_isLetter_3 (by decide) (fun c1 => ?_) (fun c1 => ?_)
  · have hwp := hwp.1 c1
    refine x_iconst (v := 0) (pc := 16) dX7_isLetter_16 (by decide) ?_
    exact x_zret (pc := 17) dX7_isLetter_17 rfl hex hnn hzz (by decide) ⟨_, rfl, by decide, hwp⟩
  · have hwp := hwp.2 c1
    refine x_iload_n (pc := 6) dX7_isLetter_6 rfl ?_
    refine x_bipush (v := 122) (pc := 7) dX7_isLetter_7 (by decide) ?_
    refine x_icmp_gt (tgt := 16) (pc := 9) dX7_isLetter_9 (by decide) (fun c2 => ?_) (fun c2 => ?_)
    · have hwp := hwp.1 c2
      refine x_iconst (v := 0) (pc := 16) dX7_isLetter_16 (by decide) ?_
      exact x_zret (pc := 17) dX7_isLetter_17 rfl hex hnn hzz (by decide) ⟨_, rfl, by decide, hwp⟩
    · have hwp := hwp.2 c2
      refine x_iconst (v := 1) (pc := 12) dX7_isLetter_12 (by decide) ?_
      refine x_goto (tgt := 17) (pc := 13) dX7_isLetter_13 (by decide) ?_
      exact x_zret (pc := 17) dX7_isLetter_17 rfl hex hnn hzz (by decide) ⟨_, rfl, by decide, hwp⟩

theorem dX7_isDigit_0 : decode cX7_isDigit 0 = .ok (.iload_n 0, 1) := by decide +kernel
theorem dX7_isDigit_1 : decode cX7_isDigit 1 = .ok (.bipush 48, 2) := by decide +kernel
theorem dX7_isDigit_3 : decode cX7_isDigit 3 = .ok (.if_icmp .lt 13, 3) := by decide +kernel
theorem dX7_isDigit_6 : decode cX7_isDigit 6 = .ok (.iload_n 0, 1) := by decide +kernel
theorem dX7_isDigit_7 : decode cX7_isDigit 7 = .ok (.bipush 57, 2) := by decide +kernel
theorem dX7_isDigit_9 : decode cX7_isDigit 9 = .ok (.if_icmp .gt 7, 3) := by decide +kernel
theorem dX7_isDigit_12 : decode cX7_isDigit 12 = .ok (.iconst 1, 1) := by decide +kernel
theorem dX7_isDigit_13 : decode cX7_isDigit 13 = .ok (.goto 4, 3) := by decide +kernel
theorem dX7_isDigit_16 : decode cX7_isDigit 16 = .ok (.iconst 0, 1) := by decide +kernel
theorem dX7_isDigit_17 : decode cX7_isDigit 17 = .ok (.ireturn, 1) := by decide +kernel
def wp_X7_isDigit (l0 : Int32) (h : PH) (Q : Int32 → PH → Prop) : Prop := ((l0 < 48 → Q 0 h) ∧ (¬ (l0 < 48) → ((57 < l0 → Q 0 h) ∧ (¬ (57 < l0) → Q 1 h))))
set_option maxHeartbeats 4000000 in
set_option maxRecDepth 100000 in
theorem sn_X7_isDigit (G : GT) (d : Nat) (l0 : Int32) (h : PH) (Q : Int32 → PH → Prop)  (hwp : wp_X7_isDigit l0 h Q) : Mt G (0 + d) 0 0 mX7_isDigit [.int l0] h (qqb Q) := by
  unfold wp_X7_isDigit at hwp
  refine Mt.of (by decide) rfl (Nat.le_of_ble_eq_true rfl) ?_
  have hex := qEx.rf h
  have hnn : qn h = qn h + 0 := rfl
  have hzz : qz h = qz h + 0 := rfl
  refine x_lvE (lv2 := [(0, .int l0)]) rfl ?_
  refine x_iload_n (pc := 0) dX7_isDigit_0 rfl ?_
  refine x_bipush (v := 48) (pc := 1) dX7_isDigit_1 (by decide) ?_
  refine x_icmp_lt (tgt := 16) (pc := 3) dX7_isDigit_3 (by decide) (fun c1 => ?_) (fun c1 => ?_)
  · have hwp := hwp.1 c1
    refine x_iconst (v := 0) (pc := 16) dX7_isDigit_16 (by decide) ?_
    exact x_zret (pc := 17) dX7_isDigit_17 rfl hex hnn hzz (by decide) ⟨_, rfl, by decide, hwp⟩
  · have hwp := hwp.2 c1
    refine x_iload_n (pc := 6) dX7_isDigit_6 rfl ?_
    refine x_bipush (v := 57) (pc := 7) dX7_isDigit_7 (by decide) ?_
    refine x_icmp_gt (tgt := 16) (pc := 9) dX7_isDigit_9 (by decide) (fun c2 => ?_) (fun c2 => ?_)
    · have hwp := hwp.1 c2
      refine x_iconst (v := 0) (pc := 16) dX7_isDigit_16 (by decide) ?_
      exact x_zret (pc := 17) dX7_isDigit_17 rfl hex hnn hzz (by decide) ⟨_, rfl, by decide, hwp⟩
    · have hwp := hwp.2 c2
      refine x_iconst (v := 1) (pc := 12) dX7_isDigit_12 (by decide) ?_
      refine x_goto (tgt := 17) (pc := 13) dX7_isDigit_13 (by decide) ?_
      exact x_zret (pc := 17) dX7_isDigit_17 rfl hex hnn hzz (by decide) ⟨_, rfl, by decide, hwp⟩

theorem dX9_withLetter_0 : decode cX9_withLetter 0 = .ok (.iload_n 0, 1) := by decide +kernel
theorem dX9_withLetter_1 : decode cX9_withLetter 1 = .ok (.bipush 27, 2) := by decide +kernel
theorem dX9_withLetter_3 : decode cX9_withLetter 3 = .ok (.imul, 1) := by decide +kernel
theorem dX9_withLetter_4 : decode cX9_withLetter 4 = .ok (.iload_n 1, 1) := by decide +kernel
theorem dX9_withLetter_5 : decode cX9_withLetter 5 = .ok (.iadd, 1) := by decide +kernel
theorem dX9_withLetter_6 : decode cX9_withLetter 6 = .ok (.bipush 97, 2) := by decide +kernel
theorem dX9_withLetter_8 : decode cX9_withLetter 8 = .ok (.isub, 1) := by decide +kernel
theorem dX9_withLetter_9 : decode cX9_withLetter 9 = .ok (.iconst 1, 1) := by decide +kernel
theorem dX9_withLetter_10 : decode cX9_withLetter 10 = .ok (.iadd, 1) := by decide +kernel
theorem dX9_withLetter_11 : decode cX9_withLetter 11 = .ok (.ireturn, 1) := by decide +kernel
def wp_X9_withLetter (l0 : Int32) (l1 : Int32) (h : PH) (Q : Int32 → PH → Prop) : Prop := Q ((((l0 * 27) + l1) - 97) + 1) h
set_option maxHeartbeats 4000000 in
set_option maxRecDepth 100000 in
theorem sn_X9_withLetter (G : GT) (d : Nat) (l0 : Int32) (l1 : Int32) (h : PH) (Q : Int32 → PH → Prop)  (hwp : wp_X9_withLetter l0 l1 h Q) : Mt G (0 + d) 0 0 mX9_withLetter [.int l0, .int l1] h (qqi Q) := by
  unfold wp_X9_withLetter at hwp
  refine Mt.of (by decide) rfl (Nat.le_of_ble_eq_true rfl) ?_
  have hex := qEx.rf h
  have hnn : qn h = qn h + 0 := rfl
  have hzz : qz h = qz h + 0 := rfl
  refine x_lvE (lv2 := [(0, .int l0), (1, .int l1)]) rfl ?_
  refine x_iload_n (pc := 0) dX9_withLetter_0 rfl ?_
  refine x_bipush (v := 27) (pc := 1) dX9_withLetter_1 (by decide) ?_
  refine x_imul (pc := 3) dX9_withLetter_3 ?_
  refine x_iload_n (pc := 4) dX9_withLetter_4 rfl ?_
  refine x_iadd (pc := 5) dX9_withLetter_5 ?_
  refine x_bipush (v := 97) (pc := 6) dX9_withLetter_6 (by decide) ?_
  refine x_isub (pc := 8) dX9_withLetter_8 ?_
  refine x_iconst (v := 1) (pc := 9) dX9_withLetter_9 (by decide) ?_
  refine x_iadd (pc := 10) dX9_withLetter_10 ?_
  exact x_iret (pc := 11) dX9_withLetter_11 rfl hex hnn hzz ⟨_, rfl, hwp⟩

theorem dX7_add_0 : decode cX7_add 0 = .ok (.aload_n 0, 1) := by decide +kernel
theorem dX7_add_1 : decode cX7_add 1 = .ok (.getfield 21, 3) := by decide +kernel
theorem dX7_add_4 : decode cX7_add 4 = .ok (.ifCond .lt 55, 3) := by decide +kernel
theorem dX7_add_7 : decode cX7_add 7 = .ok (.aload_n 0, 1) := by decide +kernel
theorem dX7_add_8 : decode cX7_add 8 = .ok (.getfield 21, 3) := by decide +kernel
theorem dX7_add_11 : decode cX7_add 11 = .ok (.aload_n 0, 1) := by decide +kernel
theorem dX7_add_12 : decode cX7_add 12 = .ok (.getfield 9, 3) := by decide +kernel
theorem dX7_add_15 : decode cX7_add 15 = .ok (.arraylength, 1) := by decide +kernel
theorem dX7_add_16 : decode cX7_add 16 = .ok (.if_icmp .ge 43, 3) := by decide +kernel
theorem dX7_add_19 : decode cX7_add 19 = .ok (.aload_n 0, 1) := by decide +kernel
theorem dX7_add_20 : decode cX7_add 20 = .ok (.getfield 9, 3) := by decide +kernel
theorem dX7_add_23 : decode cX7_add 23 = .ok (.aload_n 0, 1) := by decide +kernel
theorem dX7_add_24 : decode cX7_add 24 = .ok (.getfield 21, 3) := by decide +kernel
theorem dX7_add_27 : decode cX7_add 27 = .ok (.iload_n 1, 1) := by decide +kernel
theorem dX7_add_28 : decode cX7_add 28 = .ok (.iastore, 1) := by decide +kernel
theorem dX7_add_29 : decode cX7_add 29 = .ok (.aload_n 0, 1) := by decide +kernel
theorem dX7_add_30 : decode cX7_add 30 = .ok (.getfield 15, 3) := by decide +kernel
theorem dX7_add_33 : decode cX7_add 33 = .ok (.aload_n 0, 1) := by decide +kernel
theorem dX7_add_34 : decode cX7_add 34 = .ok (.getfield 21, 3) := by decide +kernel
theorem dX7_add_37 : decode cX7_add 37 = .ok (.iload_n 2, 1) := by decide +kernel
theorem dX7_add_38 : decode cX7_add 38 = .ok (.iastore, 1) := by decide +kernel
theorem dX7_add_39 : decode cX7_add 39 = .ok (.aload_n 0, 1) := by decide +kernel
theorem dX7_add_40 : decode cX7_add 40 = .ok (.getfield 18, 3) := by decide +kernel
theorem dX7_add_43 : decode cX7_add 43 = .ok (.aload_n 0, 1) := by decide +kernel
theorem dX7_add_44 : decode cX7_add 44 = .ok (.getfield 21, 3) := by decide +kernel
theorem dX7_add_47 : decode cX7_add 47 = .ok (.iload_n 3, 1) := by decide +kernel
theorem dX7_add_48 : decode cX7_add 48 = .ok (.iastore, 1) := by decide +kernel
theorem dX7_add_49 : decode cX7_add 49 = .ok (.aload_n 0, 1) := by decide +kernel
theorem dX7_add_50 : decode cX7_add 50 = .ok (.dup, 1) := by decide +kernel
theorem dX7_add_51 : decode cX7_add 51 = .ok (.getfield 21, 3) := by decide +kernel
theorem dX7_add_54 : decode cX7_add 54 = .ok (.iconst 1, 1) := by decide +kernel
theorem dX7_add_55 : decode cX7_add 55 = .ok (.iadd, 1) := by decide +kernel
theorem dX7_add_56 : decode cX7_add 56 = .ok (.putfield 21, 3) := by decide +kernel
theorem dX7_add_59 : decode cX7_add 59 = .ok (.return_, 1) := by decide +kernel
def wp_X7_add (l0 : Nat) (l1 : Int32) (l2 : Int32) (l3 : Int32) (h : PH) (Q : PH → Prop) : Prop := (((qI h l0 3) < 0 → Q h) ∧ (¬ ((qI h l0 3) < 0) → (∃ b2, qR h l0 0 = some b2 ∧ (((nI (qL h b2)) ≤ (qI h l0 3) → Q h) ∧ (¬ ((nI (qL h b2)) ≤ (qI h l0 3)) → (∃ b5, qR h l0 0 = some b5 ∧ (vp_in (qI h l0 3) (qL h b5) ∧ ∀ h7, h7 = qsI h b5 (qI h l0 3).toNatClampNeg l1 → (∃ b9, qR h7 l0 1 = some b9 ∧ (vp_in (qI h7 l0 3) (qL h7 b9) ∧ ∀ h11, h11 = qsI h7 b9 (qI h7 l0 3).toNatClampNeg l2 → (∃ b13, qR h11 l0 2 = some b13 ∧ (vp_in (qI h11 l0 3) (qL h11 b13) ∧ ∀ h15, h15 = qsI h11 b13 (qI h11 l0 3).toNatClampNeg l3 → (∀ h17, h17 = qsI h15 l0 3 ((qI h15 l0 3) + 1) → Q h17))))))))))))
set_option maxHeartbeats 4000000 in
set_option maxRecDepth 100000 in
theorem sn_X7_add (G : GT) (d : Nat) (l0 : Nat) (l1 : Int32) (l2 : Int32) (l3 : Int32) (h : PH) (Q : PH → Prop) (okl0 : qOK h 7 l0) (hwp : wp_X7_add l0 l1 l2 l3 h Q) : Mt G (0 + d) 0 0 mX7_add [.ref l0, .int l1, .int l2, .int l3] h (qqv Q) := by
  unfold wp_X7_add at hwp
  refine Mt.of (by decide) rfl (Nat.le_of_ble_eq_true rfl) ?_
  have hex := qEx.rf h
  have hnn : qn h = qn h + 0 := rfl
  have hzz : qz h = qz h + 0 := rfl
  refine x_lvE (lv2 := [(0, .ref l0), (1, .int l1), (2, .int l2), (3, .int l3)]) rfl ?_
  refine x_aload_n (pc := 0) dX7_add_0 rfl ?_
  refine x_getI (pc := 1) dX7_add_1 qRX7_21 okl0 (by decide) ?_
  refine x_if_lt (tgt := 59) (pc := 4) dX7_add_4 (by decide) (fun c1 => ?_) (fun c1 => ?_)
  · have hwp := hwp.1 c1
    exact x_vret (pc := 59) dX7_add_59 rfl hex hnn hzz ⟨rfl, hwp⟩
  · have hwp := hwp.2 c1
    refine x_aload_n (pc := 7) dX7_add_7 rfl ?_
    refine x_getI (pc := 8) dX7_add_8 qRX7_21 okl0 (by decide) ?_
    refine x_aload_n (pc := 11) dX7_add_11 rfl ?_
    obtain ⟨b2, e3, hwp⟩ := hwp
    refine x_getR (pc := 12) dX7_add_12 qRX7_9 okl0 e3 (fun okb2 => ?_)
    refine x_alen (pc := 15) dX7_add_15 okb2 (by decide) ?_
    refine x_icmp_ge (tgt := 59) (pc := 16) dX7_add_16 (by decide) (fun c4 => ?_) (fun c4 => ?_)
    · have hwp := hwp.1 c4
      exact x_vret (pc := 59) dX7_add_59 rfl hex hnn hzz ⟨rfl, hwp⟩
    · have hwp := hwp.2 c4
      refine x_aload_n (pc := 19) dX7_add_19 rfl ?_
      obtain ⟨b5, e6, hwp⟩ := hwp
      refine x_getR (pc := 20) dX7_add_20 qRX7_9 okl0 e6 (fun okb5 => ?_)
      refine x_aload_n (pc := 23) dX7_add_23 rfl ?_
      refine x_getI (pc := 24) dX7_add_24 qRX7_21 okl0 (by decide) ?_
      refine x_iload_n (pc := 27) dX7_add_27 rfl ?_
      obtain ⟨i8, hwp⟩ := hwp
      refine y_iastore (pc := 28) dX7_add_28 okb5 i8 (fun h7 eh7 nxh7 => ?_)
      have hwp := hwp h7 eh7
      have hex := hex.tr nxh7.1
      have hnn := nxh7.2.1.trans hnn
      have hzz := nxh7.2.2.trans hzz
      have okl0 := okl0.ex nxh7.1
      have okb2 := okb2.ex nxh7.1
      have okb5 := okb5.ex nxh7.1
      refine x_aload_n (pc := 29) dX7_add_29 rfl ?_
      obtain ⟨b9, e10, hwp⟩ := hwp
      refine x_getR (pc := 30) dX7_add_30 qRX7_15 okl0 e10 (fun okb9 => ?_)
      refine x_aload_n (pc := 33) dX7_add_33 rfl ?_
      refine x_getI (pc := 34) dX7_add_34 qRX7_21 okl0 (by decide) ?_
      refine x_iload_n (pc := 37) dX7_add_37 rfl ?_
      obtain ⟨i12, hwp⟩ := hwp
      refine y_iastore (pc := 38) dX7_add_38 okb9 i12 (fun h11 eh11 nxh11 => ?_)
      have hwp := hwp h11 eh11
      have hex := hex.tr nxh11.1
      have hnn := nxh11.2.1.trans hnn
      have hzz := nxh11.2.2.trans hzz
      have okl0 := okl0.ex nxh11.1
      have okb2 := okb2.ex nxh11.1
      have okb5 := okb5.ex nxh11.1
      have okb9 := okb9.ex nxh11.1
      refine x_aload_n (pc := 39) dX7_add_39 rfl ?_
      obtain ⟨b13, e14, hwp⟩ := hwp
      refine x_getR (pc := 40) dX7_add_40 qRX7_18 okl0 e14 (fun okb13 => ?_)
      refine x_aload_n (pc := 43) dX7_add_43 rfl ?_
      refine x_getI (pc := 44) dX7_add_44 qRX7_21 okl0 (by decide) ?_
      refine x_iload_n (pc := 47) dX7_add_47 rfl ?_
      obtain ⟨i16, hwp⟩ := hwp
      refine y_iastore (pc := 48) dX7_add_48 okb13 i16 (fun h15 eh15 nxh15 => ?_)
      have hwp := hwp h15 eh15
      have hex := hex.tr nxh15.1
      have hnn := nxh15.2.1.trans hnn
      have hzz := nxh15.2.2.trans hzz
      have okl0 := okl0.ex nxh15.1
      have okb2 := okb2.ex nxh15.1
      have okb5 := okb5.ex nxh15.1
      have okb9 := okb9.ex nxh15.1
      have okb13 := okb13.ex nxh15.1
      refine x_aload_n (pc := 49) dX7_add_49 rfl ?_
      refine x_dup (pc := 50) dX7_add_50 rfl ?_
      refine x_getI (pc := 51) dX7_add_51 qRX7_21 okl0 (by decide) ?_
      refine x_iconst (v := 1) (pc := 54) dX7_add_54 (by decide) ?_
      refine x_iadd (pc := 55) dX7_add_55 ?_
      refine y_putI (pc := 56) dX7_add_56 qRX7_21 okl0 (fun h17 eh17 nxh17 => ?_)
      have hwp := hwp h17 eh17
      have hex := hex.tr nxh17.1
      have hnn := nxh17.2.1.trans hnn
      have hzz := nxh17.2.2.trans hzz
      have okl0 := okl0.ex nxh17.1
      have okb2 := okb2.ex nxh17.1
      have okb5 := okb5.ex nxh17.1
      have okb9 := okb9.ex nxh17.1
      have okb13 := okb13.ex nxh17.1
      exact x_vret (pc := 59) dX7_add_59 rfl hex hnn hzz ⟨rfl, hwp⟩

theorem dX7_cutWordOrNumber_0 : decode cX7_cutWordOrNumber 0 = .ok (.iconst 0, 1) := by decide +kernel
theorem dX7_cutWordOrNumber_1 : decode cX7_cutWordOrNumber 1 = .ok (.istore_n 3, 1) := by decide +kernel
theorem dX7_cutWordOrNumber_2 : decode cX7_cutWordOrNumber 2 = .ok (.iconst 0, 1) := by decide +kernel
theorem dX7_cutWordOrNumber_3 : decode cX7_cutWordOrNumber 3 = .ok (.istore 4, 2) := by decide +kernel
theorem dX7_cutWordOrNumber_5 : decode cX7_cutWordOrNumber 5 = .ok (.iconst 0, 1) := by decide +kernel
theorem dX7_cutWordOrNumber_6 : decode cX7_cutWordOrNumber 6 = .ok (.istore 5, 2) := by decide +kernel
theorem dX7_cutWordOrNumber_8 : decode cX7_cutWordOrNumber 8 = .ok (.iconst 0, 1) := by decide +kernel
theorem dX7_cutWordOrNumber_9 : decode cX7_cutWordOrNumber 9 = .ok (.istore 6, 2) := by decide +kernel
theorem dX7_cutWordOrNumber_11 : decode cX7_cutWordOrNumber 11 = .ok (.iload_n 2, 1) := by decide +kernel
theorem dX7_cutWordOrNumber_12 : decode cX7_cutWordOrNumber 12 = .ok (.istore 7, 2) := by decide +kernel
theorem dX7_cutWordOrNumber_14 : decode cX7_cutWordOrNumber 14 = .ok (.iload 7, 2) := by decide +kernel
theorem dX7_cutWordOrNumber_16 : decode cX7_cutWordOrNumber 16 = .ok (.aload_n 1, 1) := by decide +kernel
theorem dX7_cutWordOrNumber_17 : decode cX7_cutWordOrNumber 17 = .ok (.getfield 35, 3) := by decide +kernel
theorem dX7_cutWordOrNumber_20 : decode cX7_cutWordOrNumber 20 = .ok (.if_icmp .ge 80, 3) := by decide +kernel
theorem dX7_cutWordOrNumber_23 : decode cX7_cutWordOrNumber 23 = .ok (.aload_n 1, 1) := by decide +kernel
theorem dX7_cutWordOrNumber_24 : decode cX7_cutWordOrNumber 24 = .ok (.iload 7, 2) := by decide +kernel
theorem dX7_cutWordOrNumber_26 : decode cX7_cutWordOrNumber 26 = .ok (.invokevirtual 46, 3) := by decide +kernel
theorem dX7_cutWordOrNumber_29 : decode cX7_cutWordOrNumber 29 = .ok (.invokestatic 50, 3) := by decide +kernel
theorem dX7_cutWordOrNumber_32 : decode cX7_cutWordOrNumber 32 = .ok (.ifCond .ne 15, 3) := by decide +kernel
theorem dX7_cutWordOrNumber_35 : decode cX7_cutWordOrNumber 35 = .ok (.aload_n 1, 1) := by decide +kernel
theorem dX7_cutWordOrNumber_36 : decode cX7_cutWordOrNumber 36 = .ok (.iload 7, 2) := by decide +kernel
theorem dX7_cutWordOrNumber_38 : decode cX7_cutWordOrNumber 38 = .ok (.invokevirtual 46, 3) := by decide +kernel
theorem dX7_cutWordOrNumber_41 : decode cX7_cutWordOrNumber 41 = .ok (.invokestatic 54, 3) := by decide +kernel
theorem dX7_cutWordOrNumber_44 : decode cX7_cutWordOrNumber 44 = .ok (.ifCond .eq 56, 3) := by decide +kernel
theorem dX7_cutWordOrNumber_47 : decode cX7_cutWordOrNumber 47 = .ok (.aload_n 1, 1) := by decide +kernel
theorem dX7_cutWordOrNumber_48 : decode cX7_cutWordOrNumber 48 = .ok (.iload 7, 2) := by decide +kernel
theorem dX7_cutWordOrNumber_50 : decode cX7_cutWordOrNumber 50 = .ok (.invokevirtual 46, 3) := by decide +kernel
theorem dX7_cutWordOrNumber_53 : decode cX7_cutWordOrNumber 53 = .ok (.istore 8, 2) := by decide +kernel
theorem dX7_cutWordOrNumber_55 : decode cX7_cutWordOrNumber 55 = .ok (.iload 8, 2) := by decide +kernel
theorem dX7_cutWordOrNumber_57 : decode cX7_cutWordOrNumber 57 = .ok (.invokestatic 50, 3) := by decide +kernel
theorem dX7_cutWordOrNumber_60 : decode cX7_cutWordOrNumber 60 = .ok (.ifCond .eq 18, 3) := by decide +kernel
theorem dX7_cutWordOrNumber_63 : decode cX7_cutWordOrNumber 63 = .ok (.iinc 3 1, 3) := by decide +kernel
theorem dX7_cutWordOrNumber_66 : decode cX7_cutWordOrNumber 66 = .ok (.iload 5, 2) := by decide +kernel
theorem dX7_cutWordOrNumber_68 : decode cX7_cutWordOrNumber 68 = .ok (.iload 8, 2) := by decide +kernel
theorem dX7_cutWordOrNumber_70 : decode cX7_cutWordOrNumber 70 = .ok (.invokestatic 71, 3) := by decide +kernel
theorem dX7_cutWordOrNumber_73 : decode cX7_cutWordOrNumber 73 = .ok (.istore 5, 2) := by decide +kernel
theorem dX7_cutWordOrNumber_75 : decode cX7_cutWordOrNumber 75 = .ok (.goto 19, 3) := by decide +kernel
theorem dX7_cutWordOrNumber_78 : decode cX7_cutWordOrNumber 78 = .ok (.iinc 4 1, 3) := by decide +kernel
theorem dX7_cutWordOrNumber_81 : decode cX7_cutWordOrNumber 81 = .ok (.iload 6, 2) := by decide +kernel
theorem dX7_cutWordOrNumber_83 : decode cX7_cutWordOrNumber 83 = .ok (.bipush 10, 2) := by decide +kernel
theorem dX7_cutWordOrNumber_85 : decode cX7_cutWordOrNumber 85 = .ok (.imul, 1) := by decide +kernel
theorem dX7_cutWordOrNumber_86 : decode cX7_cutWordOrNumber 86 = .ok (.iload 8, 2) := by decide +kernel
theorem dX7_cutWordOrNumber_88 : decode cX7_cutWordOrNumber 88 = .ok (.iadd, 1) := by decide +kernel
theorem dX7_cutWordOrNumber_89 : decode cX7_cutWordOrNumber 89 = .ok (.bipush 48, 2) := by decide +kernel
theorem dX7_cutWordOrNumber_91 : decode cX7_cutWordOrNumber 91 = .ok (.isub, 1) := by decide +kernel
theorem dX7_cutWordOrNumber_92 : decode cX7_cutWordOrNumber 92 = .ok (.istore 6, 2) := by decide +kernel
theorem dX7_cutWordOrNumber_94 : decode cX7_cutWordOrNumber 94 = .ok (.iinc 7 1, 3) := by decide +kernel
theorem dX7_cutWordOrNumber_97 : decode cX7_cutWordOrNumber 97 = .ok (.goto (-83), 3) := by decide +kernel
theorem dX7_cutWordOrNumber_100 : decode cX7_cutWordOrNumber 100 = .ok (.iload 4, 2) := by decide +kernel
theorem dX7_cutWordOrNumber_102 : decode cX7_cutWordOrNumber 102 = .ok (.ifCond .ne 20, 3) := by decide +kernel
theorem dX7_cutWordOrNumber_105 : decode cX7_cutWordOrNumber 105 = .ok (.iload_n 3, 1) := by decide +kernel
theorem dX7_cutWordOrNumber_106 : decode cX7_cutWordOrNumber 106 = .ok (.bipush 6, 2) := by decide +kernel
theorem dX7_cutWordOrNumber_108 : decode cX7_cutWordOrNumber 108 = .ok (.if_icmp .gt 14, 3) := by decide +kernel
theorem dX7_cutWordOrNumber_111 : decode cX7_cutWordOrNumber 111 = .ok (.aload_n 0, 1) := by decide +kernel
theorem dX7_cutWordOrNumber_112 : decode cX7_cutWordOrNumber 112 = .ok (.iconst 1, 1) := by decide +kernel
theorem dX7_cutWordOrNumber_113 : decode cX7_cutWordOrNumber 113 = .ok (.iload 5, 2) := by decide +kernel
theorem dX7_cutWordOrNumber_115 : decode cX7_cutWordOrNumber 115 = .ok (.iload_n 2, 1) := by decide +kernel
theorem dX7_cutWordOrNumber_116 : decode cX7_cutWordOrNumber 116 = .ok (.invokevirtual 67, 3) := by decide +kernel
theorem dX7_cutWordOrNumber_119 : decode cX7_cutWordOrNumber 119 = .ok (.goto 31, 3) := by decide +kernel
theorem dX7_cutWordOrNumber_122 : decode cX7_cutWordOrNumber 122 = .ok (.iload_n 3, 1) := by decide +kernel
theorem dX7_cutWordOrNumber_123 : decode cX7_cutWordOrNumber 123 = .ok (.ifCond .ne 20, 3) := by decide +kernel
theorem dX7_cutWordOrNumber_126 : decode cX7_cutWordOrNumber 126 = .ok (.iload 4, 2) := by decide +kernel
theorem dX7_cutWordOrNumber_128 : decode cX7_cutWordOrNumber 128 = .ok (.iconst 3, 1) := by decide +kernel
theorem dX7_cutWordOrNumber_129 : decode cX7_cutWordOrNumber 129 = .ok (.if_icmp .gt 14, 3) := by decide +kernel
theorem dX7_cutWordOrNumber_132 : decode cX7_cutWordOrNumber 132 = .ok (.aload_n 0, 1) := by decide +kernel
theorem dX7_cutWordOrNumber_133 : decode cX7_cutWordOrNumber 133 = .ok (.iconst 2, 1) := by decide +kernel
theorem dX7_cutWordOrNumber_134 : decode cX7_cutWordOrNumber 134 = .ok (.iload 6, 2) := by decide +kernel
theorem dX7_cutWordOrNumber_136 : decode cX7_cutWordOrNumber 136 = .ok (.iload_n 2, 1) := by decide +kernel
theorem dX7_cutWordOrNumber_137 : decode cX7_cutWordOrNumber 137 = .ok (.invokevirtual 67, 3) := by decide +kernel
theorem dX7_cutWordOrNumber_140 : decode cX7_cutWordOrNumber 140 = .ok (.goto 10, 3) := by decide +kernel
theorem dX7_cutWordOrNumber_143 : decode cX7_cutWordOrNumber 143 = .ok (.aload_n 0, 1) := by decide +kernel
theorem dX7_cutWordOrNumber_144 : decode cX7_cutWordOrNumber 144 = .ok (.iconst 4, 1) := by decide +kernel
theorem dX7_cutWordOrNumber_145 : decode cX7_cutWordOrNumber 145 = .ok (.iconst 0, 1) := by decide +kernel
theorem dX7_cutWordOrNumber_146 : decode cX7_cutWordOrNumber 146 = .ok (.iload_n 2, 1) := by decide +kernel
theorem dX7_cutWordOrNumber_147 : decode cX7_cutWordOrNumber 147 = .ok (.invokevirtual 67, 3) := by decide +kernel
theorem dX7_cutWordOrNumber_150 : decode cX7_cutWordOrNumber 150 = .ok (.iload 7, 2) := by decide +kernel
theorem dX7_cutWordOrNumber_152 : decode cX7_cutWordOrNumber 152 = .ok (.ireturn, 1) := by decide +kernel
def E_X7_cutWordOrNumber_14 (G : GT) (d : Nat) (h0 hb : PH) (l0 : Nat) (l1 : Nat) (l2 : Int32) (Q : Int32 → PH → Prop) (s : Int32 × Int32 × Int32 × Int32 × Int32 × PH) : Prop := qEx hb s.2.2.2.2.2 ∧ qn s.2.2.2.2.2 = qn hb ∧ qz s.2.2.2.2.2 = qz hb → Ex G (qrm (1 + d) 0 0) mX7_cutWordOrNumber (qn h0) (qz h0) (ZN G h0 0 0 (qqi Q)) 14 [(0, .ref l0), (1, .ref l1), (2, .int l2), (3, .int s.1), (4, .int s.2.1), (5, .int s.2.2.1), (6, .int s.2.2.2.1), (7, .int s.2.2.2.2.1)] [] s.2.2.2.2.2
def wp_X7_cutWordOrNumber_47 (l0 : Nat) (l1 : Nat) (l2 : Int32) (l3 : Int32) (l4 : Int32) (l5 : Int32) (l6 : Int32) (l7 : Int32) (bk14 : Int32 × Int32 × Int32 × Int32 × Int32 × PH → Prop) (h : PH) (Q : Int32 → PH → Prop) : Prop := (wp_X6_byteAt l1 l7 h (fun r17 h16 => (wp_X7_isLetter r17 h16 (fun r19 h18 => ((r19 = 0 → ∀ v21 : Int32, v21 = l4 + 1 → ∀ v22 : Int32, v22 = ((l6 * 10) + r17) - 48 → ∀ v23 : Int32, v23 = l7 + 1 → bk14 (l3, v21, l5, v22, v23, h18)) ∧ (¬ (r19 = 0) → ∀ v24 : Int32, v24 = l3 + 1 → (wp_X9_withLetter l5 r17 h18 (fun r26 h25 => ∀ v27 : Int32, v27 = l7 + 1 → bk14 (v24, l4, r26, l6, v27, h25)))))))))
set_option maxHeartbeats 4000000 in
set_option maxRecDepth 100000 in
theorem sg_X7_cutWordOrNumber_47 (G : GT) (d : Nat) (h0 : PH) (l0 : Nat) (l1 : Nat) (l2 : Int32) (l3 : Int32) (l4 : Int32) (l5 : Int32) (l6 : Int32) (l7 : Int32) (h : PH) (Q : Int32 → PH → Prop) (hb14 : PH) (bk14 : Int32 × Int32 × Int32 × Int32 × Int32 × PH → Prop) (hbk14 : ∀ s2, bk14 s2 → E_X7_cutWordOrNumber_14 G d h0 hb14 l0 l1 l2 Q s2) (hx14 : qEx hb14 h) (hn14 : qn h = qn hb14) (hz14 : qz h = qz hb14) (hex : qEx h0 h) (hnn : qn h = qn h0 + 0) (hzz : qz h = qz h0 + 0) (okl0 : qOK h 7 l0) (okl1 : qOK h 6 l1) (hwp : wp_X7_cutWordOrNumber_47 l0 l1 l2 l3 l4 l5 l6 l7 bk14 h Q) : Ex G (qrm (1 + d) 0 0) mX7_cutWordOrNumber (qn h0) (qz h0) (ZN G h0 0 0 (qqi Q)) 47 [(0, .ref l0), (1, .ref l1), (2, .int l2), (3, .int l3), (4, .int l4), (5, .int l5), (6, .int l6), (7, .int l7)] [] h := by
  unfold wp_X7_cutWordOrNumber_47 at hwp
  refine x_aload_n (pc := 47) dX7_cutWordOrNumber_47 rfl ?_
  refine x_iload (pc := 48) dX7_cutWordOrNumber_48 rfl ?_
  refine x_invV (As := [.int l7]) (st := []) (pc := 50) dX7_cutWordOrNumber_50 lRX7_46 fX6_byteAt vX6_byteAt okl1 rfl (Nat.le_of_ble_eq_true rfl) (q_R (by omega) (by decide)) (q_C hnn hzz (by decide) (by decide)) (sn_X6_byteAt G (d + 0) l1 l7 h _ okl1 hwp) (k_i (fun r17 h16 hwp cxh16 => ?_))
  have hex := hex.tr cxh16.1
  have hnn : qn h16 = qn h0 + 0 := by have := cxh16.2.1; omega
  have hzz : qz h16 = qz h0 + 0 := by have := cxh16.2.2; omega
  have hx14 := hx14.tr cxh16.1
  have hn14 : qn h16 = qn hb14 := by have := cxh16.2.1; omega
  have hz14 : qz h16 = qz hb14 := by have := cxh16.2.2; omega
  have okl0 := okl0.ex cxh16.1
  have okl1 := okl1.ex cxh16.1
  refine x_istore (lv2 := [(8, .int r17), (0, .ref l0), (1, .ref l1), (2, .int l2), (3, .int l3), (4, .int l4), (5, .int l5), (6, .int l6), (7, .int l7)]) (pc := 53) dX7_cutWordOrNumber_53 (by decide) rfl ?_
  refine x_iload (pc := 55) dX7_cutWordOrNumber_55 rfl ?_
  refine x_invS (As := [.int r17]) (st := []) (pc := 57) dX7_cutWordOrNumber_57 lRX7_50 fX7_isLetter sX7_isLetter rfl (Nat.le_of_ble_eq_true rfl) (q_R (by omega) (by decide)) (q_C hnn hzz (by decide) (by decide)) (sn_X7_isLetter G (d + 0) r17 h16 _  hwp) (k_b (fun r19 h18 hwp zbr19 cxh18 => ?_))
  have hex := hex.tr cxh18.1
  have hnn : qn h18 = qn h0 + 0 := by have := cxh18.2.1; omega
  have hzz : qz h18 = qz h0 + 0 := by have := cxh18.2.2; omega
  have hx14 := hx14.tr cxh18.1
  have hn14 : qn h18 = qn hb14 := by have := cxh18.2.1; omega
  have hz14 : qz h18 = qz hb14 := by have := cxh18.2.2; omega
  have okl0 := okl0.ex cxh18.1
  have okl1 := okl1.ex cxh18.1
  refine x_if_eq (tgt := 78) (pc := 60) dX7_cutWordOrNumber_60 (by decide) (fun c20 => ?_) (fun c20 => ?_)
  · have hwp := hwp.1 c20
    refine y_iinc (c := 1) (pc := 78) dX7_cutWordOrNumber_78 rfl (by decide) (by decide) (fun v21 ev21 => ?_)
    have hwp := hwp v21 ev21
    refine x_lvE (lv2 := [(4, .int v21), (8, .int r17), (0, .ref l0), (1, .ref l1), (2, .int l2), (3, .int l3), (5, .int l5), (6, .int l6), (7, .int l7)]) rfl ?_
    refine x_iload (pc := 81) dX7_cutWordOrNumber_81 rfl ?_
    refine x_bipush (v := 10) (pc := 83) dX7_cutWordOrNumber_83 (by decide) ?_
    refine x_imul (pc := 85) dX7_cutWordOrNumber_85 ?_
    refine x_iload (pc := 86) dX7_cutWordOrNumber_86 rfl ?_
    refine x_iadd (pc := 88) dX7_cutWordOrNumber_88 ?_
    refine x_bipush (v := 48) (pc := 89) dX7_cutWordOrNumber_89 (by decide) ?_
    refine x_isub (pc := 91) dX7_cutWordOrNumber_91 ?_
    refine x_nmI (fun v22 ev22 => ?_)
    have hwp := hwp v22 ev22
    refine x_istore (lv2 := [(6, .int v22), (4, .int v21), (8, .int r17), (0, .ref l0), (1, .ref l1), (2, .int l2), (3, .int l3), (5, .int l5), (7, .int l7)]) (pc := 92) dX7_cutWordOrNumber_92 (by decide) rfl ?_
    refine y_iinc (c := 1) (pc := 94) dX7_cutWordOrNumber_94 rfl (by decide) (by decide) (fun v23 ev23 => ?_)
    have hwp := hwp v23 ev23
    refine x_lvE (lv2 := [(7, .int v23), (6, .int v22), (4, .int v21), (8, .int r17), (0, .ref l0), (1, .ref l1), (2, .int l2), (3, .int l3), (5, .int l5)]) rfl ?_
    refine x_goto (tgt := 14) (pc := 97) dX7_cutWordOrNumber_97 (by decide) ?_
    refine x_sub [4, 5, 6, 7, 2, 8, 1, 0] rfl ?_
    exact hbk14 _ hwp ⟨hx14, hn14, hz14⟩
  · have hwp := hwp.2 c20
    refine y_iinc (c := 1) (pc := 63) dX7_cutWordOrNumber_63 rfl (by decide) (by decide) (fun v24 ev24 => ?_)
    have hwp := hwp v24 ev24
    refine x_lvE (lv2 := [(3, .int v24), (8, .int r17), (0, .ref l0), (1, .ref l1), (2, .int l2), (4, .int l4), (5, .int l5), (6, .int l6), (7, .int l7)]) rfl ?_
    refine x_iload (pc := 66) dX7_cutWordOrNumber_66 rfl ?_
    refine x_iload (pc := 68) dX7_cutWordOrNumber_68 rfl ?_
    refine x_invS (As := [.int l5, .int r17]) (st := []) (pc := 70) dX7_cutWordOrNumber_70 lRX7_71 fX9_withLetter sX9_withLetter rfl (Nat.le_of_ble_eq_true rfl) (q_R (by omega) (by decide)) (q_C hnn hzz (by decide) (by decide)) (sn_X9_withLetter G (d + 0) l5 r17 h18 _  hwp) (k_i (fun r26 h25 hwp cxh25 => ?_))
    have hex := hex.tr cxh25.1
    have hnn : qn h25 = qn h0 + 0 := by have := cxh25.2.1; omega
    have hzz : qz h25 = qz h0 + 0 := by have := cxh25.2.2; omega
    have hx14 := hx14.tr cxh25.1
    have hn14 : qn h25 = qn hb14 := by have := cxh25.2.1; omega
    have hz14 : qz h25 = qz hb14 := by have := cxh25.2.2; omega
    have okl0 := okl0.ex cxh25.1
    have okl1 := okl1.ex cxh25.1
    refine x_istore (lv2 := [(5, .int r26), (3, .int v24), (8, .int r17), (0, .ref l0), (1, .ref l1), (2, .int l2), (4, .int l4), (6, .int l6), (7, .int l7)]) (pc := 73) dX7_cutWordOrNumber_73 (by decide) rfl ?_
    refine x_goto (tgt := 94) (pc := 75) dX7_cutWordOrNumber_75 (by decide) ?_
    refine y_iinc (c := 1) (pc := 94) dX7_cutWordOrNumber_94 rfl (by decide) (by decide) (fun v27 ev27 => ?_)
    have hwp := hwp v27 ev27
    refine x_lvE (lv2 := [(7, .int v27), (5, .int r26), (3, .int v24), (8, .int r17), (0, .ref l0), (1, .ref l1), (2, .int l2), (4, .int l4), (6, .int l6)]) rfl ?_
    refine x_goto (tgt := 14) (pc := 97) dX7_cutWordOrNumber_97 (by decide) ?_
    refine x_sub [4, 5, 6, 2, 7, 1, 8, 0] rfl ?_
    exact hbk14 _ hwp ⟨hx14, hn14, hz14⟩
def wp_X7_cutWordOrNumber_122 (l0 : Nat) (l2 : Int32) (l3 : Int32) (l4 : Int32) (l6 : Int32) (l7 : Int32)  (h : PH) (Q : Int32 → PH → Prop) : Prop := ((¬ l3 = 0 → (wp_X7_add l0 4 0 l2 h (fun h29 => Q l7 h29))) ∧ (l3 = 0 → ((3 < l4 → (wp_X7_add l0 4 0 l2 h (fun h32 => Q l7 h32))) ∧ (¬ (3 < l4) → (wp_X7_add l0 2 l6 l2 h (fun h34 => Q l7 h34))))))
set_option maxHeartbeats 4000000 in
set_option maxRecDepth 100000 in
theorem sg_X7_cutWordOrNumber_122 (G : GT) (d : Nat) (h0 : PH) (l0 : Nat) (l2 : Int32) (l3 : Int32) (l4 : Int32) (l6 : Int32) (l7 : Int32) (h : PH) (Q : Int32 → PH → Prop) (hex : qEx h0 h) (hnn : qn h = qn h0 + 0) (hzz : qz h = qz h0 + 0) (okl0 : qOK h 7 l0) (hwp : wp_X7_cutWordOrNumber_122 l0 l2 l3 l4 l6 l7 h Q) : Ex G (qrm (1 + d) 0 0) mX7_cutWordOrNumber (qn h0) (qz h0) (ZN G h0 0 0 (qqi Q)) 122 [(0, .ref l0), (2, .int l2), (3, .int l3), (4, .int l4), (6, .int l6), (7, .int l7)] [] h := by
  unfold wp_X7_cutWordOrNumber_122 at hwp
  refine x_iload_n (pc := 122) dX7_cutWordOrNumber_122 rfl ?_
  refine x_if_ne (tgt := 143) (pc := 123) dX7_cutWordOrNumber_123 (by decide) (fun c28 => ?_) (fun c28 => ?_)
  · have hwp := hwp.1 c28
    refine x_aload_n (pc := 143) dX7_cutWordOrNumber_143 rfl ?_
    refine x_iconst (v := 4) (pc := 144) dX7_cutWordOrNumber_144 (by decide) ?_
    refine x_iconst (v := 0) (pc := 145) dX7_cutWordOrNumber_145 (by decide) ?_
    refine x_iload_n (pc := 146) dX7_cutWordOrNumber_146 rfl ?_
    refine x_invV (As := [.int 4, .int 0, .int l2]) (st := []) (pc := 147) dX7_cutWordOrNumber_147 lRX7_67 fX7_add vX7_add okl0 rfl (Nat.le_of_ble_eq_true rfl) (q_R (by omega) (by decide)) (q_C hnn hzz (by decide) (by decide)) (sn_X7_add G (d + 0) l0 4 0 l2 h _ okl0 hwp) (k_v (fun h29 hwp cxh29 => ?_))
    have hex := hex.tr cxh29.1
    have hnn : qn h29 = qn h0 + 0 := by have := cxh29.2.1; omega
    have hzz : qz h29 = qz h0 + 0 := by have := cxh29.2.2; omega
    have okl0 := okl0.ex cxh29.1
    refine x_iload (pc := 150) dX7_cutWordOrNumber_150 rfl ?_
    exact x_iret (pc := 152) dX7_cutWordOrNumber_152 rfl hex hnn hzz ⟨_, rfl, hwp⟩
  · have hwp := hwp.2 c28
    refine x_iload (pc := 126) dX7_cutWordOrNumber_126 rfl ?_
    refine x_iconst (v := 3) (pc := 128) dX7_cutWordOrNumber_128 (by decide) ?_
    refine x_icmp_gt (tgt := 143) (pc := 129) dX7_cutWordOrNumber_129 (by decide) (fun c31 => ?_) (fun c31 => ?_)
    · have hwp := hwp.1 c31
      refine x_aload_n (pc := 143) dX7_cutWordOrNumber_143 rfl ?_
      refine x_iconst (v := 4) (pc := 144) dX7_cutWordOrNumber_144 (by decide) ?_
      refine x_iconst (v := 0) (pc := 145) dX7_cutWordOrNumber_145 (by decide) ?_
      refine x_iload_n (pc := 146) dX7_cutWordOrNumber_146 rfl ?_
      refine x_invV (As := [.int 4, .int 0, .int l2]) (st := []) (pc := 147) dX7_cutWordOrNumber_147 lRX7_67 fX7_add vX7_add okl0 rfl (Nat.le_of_ble_eq_true rfl) (q_R (by omega) (by decide)) (q_C hnn hzz (by decide) (by decide)) (sn_X7_add G (d + 0) l0 4 0 l2 h _ okl0 hwp) (k_v (fun h32 hwp cxh32 => ?_))
      have hex := hex.tr cxh32.1
      have hnn : qn h32 = qn h0 + 0 := by have := cxh32.2.1; omega
      have hzz : qz h32 = qz h0 + 0 := by have := cxh32.2.2; omega
      have okl0 := okl0.ex cxh32.1
      refine x_iload (pc := 150) dX7_cutWordOrNumber_150 rfl ?_
      exact x_iret (pc := 152) dX7_cutWordOrNumber_152 rfl hex hnn hzz ⟨_, rfl, hwp⟩
    · have hwp := hwp.2 c31
      refine x_aload_n (pc := 132) dX7_cutWordOrNumber_132 rfl ?_
      refine x_iconst (v := 2) (pc := 133) dX7_cutWordOrNumber_133 (by decide) ?_
      refine x_iload (pc := 134) dX7_cutWordOrNumber_134 rfl ?_
      refine x_iload_n (pc := 136) dX7_cutWordOrNumber_136 rfl ?_
      refine x_invV (As := [.int 2, .int l6, .int l2]) (st := []) (pc := 137) dX7_cutWordOrNumber_137 lRX7_67 fX7_add vX7_add okl0 rfl (Nat.le_of_ble_eq_true rfl) (q_R (by omega) (by decide)) (q_C hnn hzz (by decide) (by decide)) (sn_X7_add G (d + 0) l0 2 l6 l2 h _ okl0 hwp) (k_v (fun h34 hwp cxh34 => ?_))
      have hex := hex.tr cxh34.1
      have hnn : qn h34 = qn h0 + 0 := by have := cxh34.2.1; omega
      have hzz : qz h34 = qz h0 + 0 := by have := cxh34.2.2; omega
      have okl0 := okl0.ex cxh34.1
      refine x_goto (tgt := 150) (pc := 140) dX7_cutWordOrNumber_140 (by decide) ?_
      refine x_iload (pc := 150) dX7_cutWordOrNumber_150 rfl ?_
      exact x_iret (pc := 152) dX7_cutWordOrNumber_152 rfl hex hnn hzz ⟨_, rfl, hwp⟩
def wp_X7_cutWordOrNumber_100 (l0 : Nat) (l2 : Int32) (l3 : Int32) (l4 : Int32) (l5 : Int32) (l6 : Int32) (l7 : Int32)  (h : PH) (Q : Int32 → PH → Prop) : Prop := ((¬ l4 = 0 → (wp_X7_cutWordOrNumber_122 l0 l2 l3 l4 l6 l7 h Q)) ∧ (l4 = 0 → ((6 < l3 → (wp_X7_cutWordOrNumber_122 l0 l2 l3 l4 l6 l7 h Q)) ∧ (¬ (6 < l3) → (wp_X7_add l0 1 l5 l2 h (fun h14 => Q l7 h14))))))
set_option maxHeartbeats 4000000 in
set_option maxRecDepth 100000 in
theorem sg_X7_cutWordOrNumber_100 (G : GT) (d : Nat) (h0 : PH) (l0 : Nat) (l2 : Int32) (l3 : Int32) (l4 : Int32) (l5 : Int32) (l6 : Int32) (l7 : Int32) (h : PH) (Q : Int32 → PH → Prop) (hex : qEx h0 h) (hnn : qn h = qn h0 + 0) (hzz : qz h = qz h0 + 0) (okl0 : qOK h 7 l0) (hwp : wp_X7_cutWordOrNumber_100 l0 l2 l3 l4 l5 l6 l7 h Q) : Ex G (qrm (1 + d) 0 0) mX7_cutWordOrNumber (qn h0) (qz h0) (ZN G h0 0 0 (qqi Q)) 100 [(0, .ref l0), (2, .int l2), (3, .int l3), (4, .int l4), (5, .int l5), (6, .int l6), (7, .int l7)] [] h := by
  unfold wp_X7_cutWordOrNumber_100 at hwp
  refine x_iload (pc := 100) dX7_cutWordOrNumber_100 rfl ?_
  refine x_if_ne (tgt := 122) (pc := 102) dX7_cutWordOrNumber_102 (by decide) (fun c12 => ?_) (fun c12 => ?_)
  · have hwp := hwp.1 c12
    refine x_sub [0, 1, 2, 3, 5, 6] rfl ?_
    exact sg_X7_cutWordOrNumber_122 G d h0 l0 l2 l3 l4 l6 l7 h Q hex hnn hzz okl0 hwp
  · have hwp := hwp.2 c12
    refine x_iload_n (pc := 105) dX7_cutWordOrNumber_105 rfl ?_
    refine x_bipush (v := 6) (pc := 106) dX7_cutWordOrNumber_106 (by decide) ?_
    refine x_icmp_gt (tgt := 122) (pc := 108) dX7_cutWordOrNumber_108 (by decide) (fun c13 => ?_) (fun c13 => ?_)
    · have hwp := hwp.1 c13
      refine x_sub [0, 1, 2, 3, 5, 6] rfl ?_
      exact sg_X7_cutWordOrNumber_122 G d h0 l0 l2 l3 l4 l6 l7 h Q hex hnn hzz okl0 hwp
    · have hwp := hwp.2 c13
      refine x_aload_n (pc := 111) dX7_cutWordOrNumber_111 rfl ?_
      refine x_iconst (v := 1) (pc := 112) dX7_cutWordOrNumber_112 (by decide) ?_
      refine x_iload (pc := 113) dX7_cutWordOrNumber_113 rfl ?_
      refine x_iload_n (pc := 115) dX7_cutWordOrNumber_115 rfl ?_
      refine x_invV (As := [.int 1, .int l5, .int l2]) (st := []) (pc := 116) dX7_cutWordOrNumber_116 lRX7_67 fX7_add vX7_add okl0 rfl (Nat.le_of_ble_eq_true rfl) (q_R (by omega) (by decide)) (q_C hnn hzz (by decide) (by decide)) (sn_X7_add G (d + 0) l0 1 l5 l2 h _ okl0 hwp) (k_v (fun h14 hwp cxh14 => ?_))
      have hex := hex.tr cxh14.1
      have hnn : qn h14 = qn h0 + 0 := by have := cxh14.2.1; omega
      have hzz : qz h14 = qz h0 + 0 := by have := cxh14.2.2; omega
      have okl0 := okl0.ex cxh14.1
      refine x_goto (tgt := 150) (pc := 119) dX7_cutWordOrNumber_119 (by decide) ?_
      refine x_iload (pc := 150) dX7_cutWordOrNumber_150 rfl ?_
      exact x_iret (pc := 152) dX7_cutWordOrNumber_152 rfl hex hnn hzz ⟨_, rfl, hwp⟩
def wb_X7_cutWordOrNumber_14 (l0 : Nat) (l1 : Nat) (l2 : Int32)  (Q : Int32 → PH → Prop) (bk14 : Int32 × Int32 × Int32 × Int32 × Int32 × PH → Prop) (l3 : Int32) (l4 : Int32) (l5 : Int32) (l6 : Int32) (l7 : Int32) (h : PH) : Prop := (((qI h l1 1) ≤ l7 → (wp_X7_cutWordOrNumber_100 l0 l2 l3 l4 l5 l6 l7 h Q)) ∧ (¬ ((qI h l1 1) ≤ l7) → (wp_X6_byteAt l1 l7 h (fun r3 h2 => (wp_X7_isLetter r3 h2 (fun r5 h4 => ((¬ r5 = 0 → (wp_X7_cutWordOrNumber_47 l0 l1 l2 l3 l4 l5 l6 l7 bk14 h4 Q)) ∧ (r5 = 0 → (wp_X6_byteAt l1 l7 h4 (fun r8 h7 => (wp_X7_isDigit r8 h7 (fun r10 h9 => ((r10 = 0 → (wp_X7_cutWordOrNumber_100 l0 l2 l3 l4 l5 l6 l7 h9 Q)) ∧ (¬ (r10 = 0) → (wp_X7_cutWordOrNumber_47 l0 l1 l2 l3 l4 l5 l6 l7 bk14 h9 Q)))))))))))))))
def wp_X7_cutWordOrNumber_14 (l0 : Nat) (l1 : Nat) (l2 : Int32)  (Q : Int32 → PH → Prop) (bk14 : Int32 × Int32 × Int32 × Int32 × Int32 × PH → Prop) (s : Int32 × Int32 × Int32 × Int32 × Int32 × PH) : Prop := wb_X7_cutWordOrNumber_14 l0 l1 l2 Q bk14 s.1 s.2.1 s.2.2.1 s.2.2.2.1 s.2.2.2.2.1 s.2.2.2.2.2
set_option maxHeartbeats 4000000 in
set_option maxRecDepth 100000 in
theorem bd_X7_cutWordOrNumber_14 (G : GT) (d : Nat) (h0 hb : PH) (l0 : Nat) (l1 : Nat) (l2 : Int32) (Q : Int32 → PH → Prop)  (hex : qEx h0 hb) (hnn : qn hb = qn h0 + 0) (hzz : qz hb = qz h0 + 0) (okl0 : qOK hb 7 l0) (okl1 : qOK hb 6 l1) (bk14 : Int32 × Int32 × Int32 × Int32 × Int32 × PH → Prop) (hbk14 : ∀ s2, bk14 s2 → E_X7_cutWordOrNumber_14 G d h0 hb l0 l1 l2 Q s2) (l3 : Int32) (l4 : Int32) (l5 : Int32) (l6 : Int32) (l7 : Int32) (h : PH) (hwp : wb_X7_cutWordOrNumber_14 l0 l1 l2 Q bk14 l3 l4 l5 l6 l7 h) (hx14 : qEx hb h) (hn14 : qn h = qn hb) (hz14 : qz h = qz hb) : Ex G (qrm (1 + d) 0 0) mX7_cutWordOrNumber (qn h0) (qz h0) (ZN G h0 0 0 (qqi Q)) 14 [(0, .ref l0), (1, .ref l1), (2, .int l2), (3, .int l3), (4, .int l4), (5, .int l5), (6, .int l6), (7, .int l7)] [] h := by
  unfold wb_X7_cutWordOrNumber_14 at hwp
  have hex := hex.tr hx14
  have hnn := hn14.trans hnn
  have hzz := hz14.trans hzz
  have okl0 := okl0.ex hx14
  have okl1 := okl1.ex hx14
  refine x_iload (pc := 14) dX7_cutWordOrNumber_14 rfl ?_
  refine x_aload_n (pc := 16) dX7_cutWordOrNumber_16 rfl ?_
  refine x_getI (pc := 17) dX7_cutWordOrNumber_17 qRX7_35 okl1 (by decide) ?_
  refine x_icmp_ge (tgt := 100) (pc := 20) dX7_cutWordOrNumber_20 (by decide) (fun c1 => ?_) (fun c1 => ?_)
  · have hwp := hwp.1 c1
    refine x_sub [0, 2, 3, 4, 5, 6, 7] rfl ?_
    exact sg_X7_cutWordOrNumber_100 G d h0 l0 l2 l3 l4 l5 l6 l7 h Q hex hnn hzz okl0 hwp
  · have hwp := hwp.2 c1
    refine x_aload_n (pc := 23) dX7_cutWordOrNumber_23 rfl ?_
    refine x_iload (pc := 24) dX7_cutWordOrNumber_24 rfl ?_
    refine x_invV (As := [.int l7]) (st := []) (pc := 26) dX7_cutWordOrNumber_26 lRX7_46 fX6_byteAt vX6_byteAt okl1 rfl (Nat.le_of_ble_eq_true rfl) (q_R (by omega) (by decide)) (q_C hnn hzz (by decide) (by decide)) (sn_X6_byteAt G (d + 0) l1 l7 h _ okl1 hwp) (k_i (fun r3 h2 hwp cxh2 => ?_))
    have hex := hex.tr cxh2.1
    have hnn : qn h2 = qn h0 + 0 := by have := cxh2.2.1; omega
    have hzz : qz h2 = qz h0 + 0 := by have := cxh2.2.2; omega
    have hx14 := hx14.tr cxh2.1
    have hn14 : qn h2 = qn hb := by have := cxh2.2.1; omega
    have hz14 : qz h2 = qz hb := by have := cxh2.2.2; omega
    have okl0 := okl0.ex cxh2.1
    have okl1 := okl1.ex cxh2.1
    refine x_invS (As := [.int r3]) (st := []) (pc := 29) dX7_cutWordOrNumber_29 lRX7_50 fX7_isLetter sX7_isLetter rfl (Nat.le_of_ble_eq_true rfl) (q_R (by omega) (by decide)) (q_C hnn hzz (by decide) (by decide)) (sn_X7_isLetter G (d + 0) r3 h2 _  hwp) (k_b (fun r5 h4 hwp zbr5 cxh4 => ?_))
    have hex := hex.tr cxh4.1
    have hnn : qn h4 = qn h0 + 0 := by have := cxh4.2.1; omega
    have hzz : qz h4 = qz h0 + 0 := by have := cxh4.2.2; omega
    have hx14 := hx14.tr cxh4.1
    have hn14 : qn h4 = qn hb := by have := cxh4.2.1; omega
    have hz14 : qz h4 = qz hb := by have := cxh4.2.2; omega
    have okl0 := okl0.ex cxh4.1
    have okl1 := okl1.ex cxh4.1
    refine x_if_ne (tgt := 47) (pc := 32) dX7_cutWordOrNumber_32 (by decide) (fun c6 => ?_) (fun c6 => ?_)
    · have hwp := hwp.1 c6
      refine x_sub [0, 1, 2, 3, 4, 5, 6, 7] rfl ?_
      exact sg_X7_cutWordOrNumber_47 G d h0 l0 l1 l2 l3 l4 l5 l6 l7 h4 Q hb bk14 hbk14 hx14 hn14 hz14 hex hnn hzz okl0 okl1 hwp
    · have hwp := hwp.2 c6
      refine x_aload_n (pc := 35) dX7_cutWordOrNumber_35 rfl ?_
      refine x_iload (pc := 36) dX7_cutWordOrNumber_36 rfl ?_
      refine x_invV (As := [.int l7]) (st := []) (pc := 38) dX7_cutWordOrNumber_38 lRX7_46 fX6_byteAt vX6_byteAt okl1 rfl (Nat.le_of_ble_eq_true rfl) (q_R (by omega) (by decide)) (q_C hnn hzz (by decide) (by decide)) (sn_X6_byteAt G (d + 0) l1 l7 h4 _ okl1 hwp) (k_i (fun r8 h7 hwp cxh7 => ?_))
      have hex := hex.tr cxh7.1
      have hnn : qn h7 = qn h0 + 0 := by have := cxh7.2.1; omega
      have hzz : qz h7 = qz h0 + 0 := by have := cxh7.2.2; omega
      have hx14 := hx14.tr cxh7.1
      have hn14 : qn h7 = qn hb := by have := cxh7.2.1; omega
      have hz14 : qz h7 = qz hb := by have := cxh7.2.2; omega
      have okl0 := okl0.ex cxh7.1
      have okl1 := okl1.ex cxh7.1
      refine x_invS (As := [.int r8]) (st := []) (pc := 41) dX7_cutWordOrNumber_41 lRX7_54 fX7_isDigit sX7_isDigit rfl (Nat.le_of_ble_eq_true rfl) (q_R (by omega) (by decide)) (q_C hnn hzz (by decide) (by decide)) (sn_X7_isDigit G (d + 0) r8 h7 _  hwp) (k_b (fun r10 h9 hwp zbr10 cxh9 => ?_))
      have hex := hex.tr cxh9.1
      have hnn : qn h9 = qn h0 + 0 := by have := cxh9.2.1; omega
      have hzz : qz h9 = qz h0 + 0 := by have := cxh9.2.2; omega
      have hx14 := hx14.tr cxh9.1
      have hn14 : qn h9 = qn hb := by have := cxh9.2.1; omega
      have hz14 : qz h9 = qz hb := by have := cxh9.2.2; omega
      have okl0 := okl0.ex cxh9.1
      have okl1 := okl1.ex cxh9.1
      refine x_if_eq (tgt := 100) (pc := 44) dX7_cutWordOrNumber_44 (by decide) (fun c11 => ?_) (fun c11 => ?_)
      · have hwp := hwp.1 c11
        refine x_sub [0, 2, 3, 4, 5, 6, 7] rfl ?_
        exact sg_X7_cutWordOrNumber_100 G d h0 l0 l2 l3 l4 l5 l6 l7 h9 Q hex hnn hzz okl0 hwp
      · have hwp := hwp.2 c11
        refine x_sub [0, 1, 2, 3, 4, 5, 6, 7] rfl ?_
        exact sg_X7_cutWordOrNumber_47 G d h0 l0 l1 l2 l3 l4 l5 l6 l7 h9 Q hb bk14 hbk14 hx14 hn14 hz14 hex hnn hzz okl0 okl1 hwp
theorem lp_X7_cutWordOrNumber_14 (G : GT) (d : Nat) (h0 hb : PH) (l0 : Nat) (l1 : Nat) (l2 : Int32) (Q : Int32 → PH → Prop)  (hex : qEx h0 hb) (hnn : qn hb = qn h0 + 0) (hzz : qz hb = qz h0 + 0) (okl0 : qOK hb 7 l0) (okl1 : qOK hb 6 l1) {s : Int32 × Int32 × Int32 × Int32 × Int32 × PH} (hwp : qLoop (wp_X7_cutWordOrNumber_14 l0 l1 l2 Q) s) : E_X7_cutWordOrNumber_14 G d h0 hb l0 l1 l2 Q s :=
  qLoop.use (E := E_X7_cutWordOrNumber_14 G d h0 hb l0 l1 l2 Q) (fun back s hbk hw hx => bd_X7_cutWordOrNumber_14 G d h0 hb l0 l1 l2 Q hex hnn hzz okl0 okl1 back hbk s.1 s.2.1 s.2.2.1 s.2.2.2.1 s.2.2.2.2.1 s.2.2.2.2.2 hw hx.1 hx.2.1 hx.2.2) hwp
def wp_X7_cutWordOrNumber (l0 : Nat) (l1 : Nat) (l2 : Int32) (h : PH) (Q : Int32 → PH → Prop) : Prop := (qLoop (wp_X7_cutWordOrNumber_14 l0 l1 l2 Q) (0, 0, 0, 0, l2, h))
set_option maxHeartbeats 4000000 in
set_option maxRecDepth 100000 in
theorem sn_X7_cutWordOrNumber (G : GT) (d : Nat) (l0 : Nat) (l1 : Nat) (l2 : Int32) (h : PH) (Q : Int32 → PH → Prop) (okl0 : qOK h 7 l0) (okl1 : qOK h 6 l1) (hwp : wp_X7_cutWordOrNumber l0 l1 l2 h Q) : Mt G (1 + d) 0 0 mX7_cutWordOrNumber [.ref l0, .ref l1, .int l2] h (qqi Q) := by
  unfold wp_X7_cutWordOrNumber at hwp
  refine Mt.of (by decide) rfl (Nat.le_of_ble_eq_true rfl) ?_
  have hex := qEx.rf h
  have hnn : qn h = qn h + 0 := rfl
  have hzz : qz h = qz h + 0 := rfl
  refine x_lvE (lv2 := [(0, .ref l0), (1, .ref l1), (2, .int l2)]) rfl ?_
  refine x_iconst (v := 0) (pc := 0) dX7_cutWordOrNumber_0 (by decide) ?_
  refine x_istore_n (lv2 := [(3, .int 0), (0, .ref l0), (1, .ref l1), (2, .int l2)]) (pc := 1) dX7_cutWordOrNumber_1 (by decide) rfl ?_
  refine x_iconst (v := 0) (pc := 2) dX7_cutWordOrNumber_2 (by decide) ?_
  refine x_istore (lv2 := [(4, .int 0), (3, .int 0), (0, .ref l0), (1, .ref l1), (2, .int l2)]) (pc := 3) dX7_cutWordOrNumber_3 (by decide) rfl ?_
  refine x_iconst (v := 0) (pc := 5) dX7_cutWordOrNumber_5 (by decide) ?_
  refine x_istore (lv2 := [(5, .int 0), (4, .int 0), (3, .int 0), (0, .ref l0), (1, .ref l1), (2, .int l2)]) (pc := 6) dX7_cutWordOrNumber_6 (by decide) rfl ?_
  refine x_iconst (v := 0) (pc := 8) dX7_cutWordOrNumber_8 (by decide) ?_
  refine x_istore (lv2 := [(6, .int 0), (5, .int 0), (4, .int 0), (3, .int 0), (0, .ref l0), (1, .ref l1), (2, .int l2)]) (pc := 9) dX7_cutWordOrNumber_9 (by decide) rfl ?_
  refine x_iload_n (pc := 11) dX7_cutWordOrNumber_11 rfl ?_
  refine x_istore (lv2 := [(7, .int l2), (6, .int 0), (5, .int 0), (4, .int 0), (3, .int 0), (0, .ref l0), (1, .ref l1), (2, .int l2)]) (pc := 12) dX7_cutWordOrNumber_12 (by decide) rfl ?_
  refine x_sub [5, 6, 7, 4, 3, 2, 1, 0] rfl ?_
  exact lp_X7_cutWordOrNumber_14 G d h h l0 l1 l2 Q hex hnn hzz okl0 okl1 hwp ⟨qEx.rf _, rfl, rfl⟩

theorem dX7_isSingle_0 : decode cX7_isSingle 0 = .ok (.iload_n 0, 1) := by decide +kernel
theorem dX7_isSingle_1 : decode cX7_isSingle 1 = .ok (.bipush 59, 2) := by decide +kernel
theorem dX7_isSingle_3 : decode cX7_isSingle 3 = .ok (.if_icmp .eq 33, 3) := by decide +kernel
theorem dX7_isSingle_6 : decode cX7_isSingle 6 = .ok (.iload_n 0, 1) := by decide +kernel
theorem dX7_isSingle_7 : decode cX7_isSingle 7 = .ok (.bipush 60, 2) := by decide +kernel
theorem dX7_isSingle_9 : decode cX7_isSingle 9 = .ok (.if_icmp .eq 27, 3) := by decide +kernel
theorem dX7_isSingle_12 : decode cX7_isSingle 12 = .ok (.iload_n 0, 1) := by decide +kernel
theorem dX7_isSingle_13 : decode cX7_isSingle 13 = .ok (.bipush 61, 2) := by decide +kernel
theorem dX7_isSingle_15 : decode cX7_isSingle 15 = .ok (.if_icmp .eq 21, 3) := by decide +kernel
theorem dX7_isSingle_18 : decode cX7_isSingle 18 = .ok (.iload_n 0, 1) := by decide +kernel
theorem dX7_isSingle_19 : decode cX7_isSingle 19 = .ok (.bipush 62, 2) := by decide +kernel
theorem dX7_isSingle_21 : decode cX7_isSingle 21 = .ok (.if_icmp .eq 15, 3) := by decide +kernel
theorem dX7_isSingle_24 : decode cX7_isSingle 24 = .ok (.iload_n 0, 1) := by decide +kernel
theorem dX7_isSingle_25 : decode cX7_isSingle 25 = .ok (.bipush 40, 2) := by decide +kernel
theorem dX7_isSingle_27 : decode cX7_isSingle 27 = .ok (.if_icmp .eq 9, 3) := by decide +kernel
theorem dX7_isSingle_30 : decode cX7_isSingle 30 = .ok (.iload_n 0, 1) := by decide +kernel
theorem dX7_isSingle_31 : decode cX7_isSingle 31 = .ok (.bipush 41, 2) := by decide +kernel
theorem dX7_isSingle_33 : decode cX7_isSingle 33 = .ok (.if_icmp .ne 7, 3) := by decide +kernel
theorem dX7_isSingle_36 : decode cX7_isSingle 36 = .ok (.iconst 1, 1) := by decide +kernel
theorem dX7_isSingle_37 : decode cX7_isSingle 37 = .ok (.goto 4, 3) := by decide +kernel
theorem dX7_isSingle_40 : decode cX7_isSingle 40 = .ok (.iconst 0, 1) := by decide +kernel
theorem dX7_isSingle_41 : decode cX7_isSingle 41 = .ok (.ireturn, 1) := by decide +kernel
def wp_X7_isSingle (l0 : Int32) (h : PH) (Q : Int32 → PH → Prop) : Prop := ((l0 = 59 → Q 1 h) ∧ (¬ (l0 = 59) → ((l0 = 60 → Q 1 h) ∧ (¬ (l0 = 60) → ((l0 = 61 → Q 1 h) ∧ (¬ (l0 = 61) → ((l0 = 62 → Q 1 h) ∧ (¬ (l0 = 62) → ((l0 = 40 → Q 1 h) ∧ (¬ (l0 = 40) → ((¬ l0 = 41 → Q 0 h) ∧ (l0 = 41 → Q 1 h))))))))))))
set_option maxHeartbeats 4000000 in
set_option maxRecDepth 100000 in
theorem sn_X7_isSingle (G : GT) (d : Nat) (l0 : Int32) (h : PH) (Q : Int32 → PH → Prop)  (hwp : wp_X7_isSingle l0 h Q) : Mt G (0 + d) 0 0 mX7_isSingle [.int l0] h (qqb Q) := by
  unfold wp_X7_isSingle at hwp
  refine Mt.of (by decide) rfl (Nat.le_of_ble_eq_true rfl) ?_
  have hex := qEx.rf h
  have hnn : qn h = qn h + 0 := rfl
  have hzz : qz h = qz h + 0 := rfl
  refine x_lvE (lv2 := [(0, .int l0)]) rfl ?_
  refine x_iload_n (pc := 0) dX7_isSingle_0 rfl ?_
  refine x_bipush (v := 59) (pc := 1) dX7_isSingle_1 (by decide) ?_
  refine x_icmp_eq (tgt := 36) (pc := 3) dX7_isSingle_3 (by decide) (fun c1 => ?_) (fun c1 => ?_)
  · have hwp := hwp.1 c1
    refine x_iconst (v := 1) (pc := 36) dX7_isSingle_36 (by decide) ?_
    refine x_goto (tgt := 41) (pc := 37) dX7_isSingle_37 (by decide) ?_
    exact x_zret (pc := 41) dX7_isSingle_41 rfl hex hnn hzz (by decide) ⟨_, rfl, by decide, hwp⟩
  · have hwp := hwp.2 c1
    refine x_iload_n (pc := 6) dX7_isSingle_6 rfl ?_
    refine x_bipush (v := 60) (pc := 7) dX7_isSingle_7 (by decide) ?_
    refine x_icmp_eq (tgt := 36) (pc := 9) dX7_isSingle_9 (by decide) (fun c2 => ?_) (fun c2 => ?_)
    · have hwp := hwp.1 c2
      refine x_iconst (v := 1) (pc := 36) dX7_isSingle_36 (by decide) ?_
      refine x_goto (tgt := 41) (pc := 37) dX7_isSingle_37 (by decide) ?_
      exact x_zret (pc := 41) dX7_isSingle_41 rfl hex hnn hzz (by decide) ⟨_, rfl, by decide, hwp⟩
    · have hwp := hwp.2 c2
      refine x_iload_n (pc := 12) dX7_isSingle_12 rfl ?_
      refine x_bipush (v := 61) (pc := 13) dX7_isSingle_13 (by decide) ?_
      refine x_icmp_eq (tgt := 36) (pc := 15) dX7_isSingle_15 (by decide) (fun c3 => ?_) (fun c3 => ?_)
      · have hwp := hwp.1 c3
        refine x_iconst (v := 1) (pc := 36) dX7_isSingle_36 (by decide) ?_
        refine x_goto (tgt := 41) (pc := 37) dX7_isSingle_37 (by decide) ?_
        exact x_zret (pc := 41) dX7_isSingle_41 rfl hex hnn hzz (by decide) ⟨_, rfl, by decide, hwp⟩
      · have hwp := hwp.2 c3
        refine x_iload_n (pc := 18) dX7_isSingle_18 rfl ?_
        refine x_bipush (v := 62) (pc := 19) dX7_isSingle_19 (by decide) ?_
        refine x_icmp_eq (tgt := 36) (pc := 21) dX7_isSingle_21 (by decide) (fun c4 => ?_) (fun c4 => ?_)
        · have hwp := hwp.1 c4
          refine x_iconst (v := 1) (pc := 36) dX7_isSingle_36 (by decide) ?_
          refine x_goto (tgt := 41) (pc := 37) dX7_isSingle_37 (by decide) ?_
          exact x_zret (pc := 41) dX7_isSingle_41 rfl hex hnn hzz (by decide) ⟨_, rfl, by decide, hwp⟩
        · have hwp := hwp.2 c4
          refine x_iload_n (pc := 24) dX7_isSingle_24 rfl ?_
          refine x_bipush (v := 40) (pc := 25) dX7_isSingle_25 (by decide) ?_
          refine x_icmp_eq (tgt := 36) (pc := 27) dX7_isSingle_27 (by decide) (fun c5 => ?_) (fun c5 => ?_)
          · have hwp := hwp.1 c5
            refine x_iconst (v := 1) (pc := 36) dX7_isSingle_36 (by decide) ?_
            refine x_goto (tgt := 41) (pc := 37) dX7_isSingle_37 (by decide) ?_
            exact x_zret (pc := 41) dX7_isSingle_41 rfl hex hnn hzz (by decide) ⟨_, rfl, by decide, hwp⟩
          · have hwp := hwp.2 c5
            refine x_iload_n (pc := 30) dX7_isSingle_30 rfl ?_
            refine x_bipush (v := 41) (pc := 31) dX7_isSingle_31 (by decide) ?_
            refine x_icmp_ne (tgt := 40) (pc := 33) dX7_isSingle_33 (by decide) (fun c6 => ?_) (fun c6 => ?_)
            · have hwp := hwp.1 c6
              refine x_iconst (v := 0) (pc := 40) dX7_isSingle_40 (by decide) ?_
              exact x_zret (pc := 41) dX7_isSingle_41 rfl hex hnn hzz (by decide) ⟨_, rfl, by decide, hwp⟩
            · have hwp := hwp.2 c6
              refine x_iconst (v := 1) (pc := 36) dX7_isSingle_36 (by decide) ?_
              refine x_goto (tgt := 41) (pc := 37) dX7_isSingle_37 (by decide) ?_
              exact x_zret (pc := 41) dX7_isSingle_41 rfl hex hnn hzz (by decide) ⟨_, rfl, by decide, hwp⟩

theorem dX7_cut_0 : decode cX7_cut 0 = .ok (.aload_n 1, 1) := by decide +kernel
theorem dX7_cut_1 : decode cX7_cut 1 = .ok (.getfield 35, 3) := by decide +kernel
theorem dX7_cut_4 : decode cX7_cut 4 = .ok (.iload_n 2, 1) := by decide +kernel
theorem dX7_cut_5 : decode cX7_cut 5 = .ok (.invokestatic 40, 3) := by decide +kernel
theorem dX7_cut_8 : decode cX7_cut 8 = .ok (.istore_n 3, 1) := by decide +kernel
theorem dX7_cut_9 : decode cX7_cut 9 = .ok (.aload_n 0, 1) := by decide +kernel
theorem dX7_cut_10 : decode cX7_cut 10 = .ok (.aload_n 1, 1) := by decide +kernel
theorem dX7_cut_11 : decode cX7_cut 11 = .ok (.getfield 35, 3) := by decide +kernel
theorem dX7_cut_14 : decode cX7_cut 14 = .ok (.iload_n 2, 1) := by decide +kernel
theorem dX7_cut_15 : decode cX7_cut 15 = .ok (.if_icmp .le 7, 3) := by decide +kernel
theorem dX7_cut_18 : decode cX7_cut 18 = .ok (.iconst 1, 1) := by decide +kernel
theorem dX7_cut_19 : decode cX7_cut 19 = .ok (.goto 4, 3) := by decide +kernel
theorem dX7_cut_22 : decode cX7_cut 22 = .ok (.iconst 0, 1) := by decide +kernel
theorem dX7_cut_23 : decode cX7_cut 23 = .ok (.putfield 28, 3) := by decide +kernel
theorem dX7_cut_26 : decode cX7_cut 26 = .ok (.aload_n 0, 1) := by decide +kernel
theorem dX7_cut_27 : decode cX7_cut 27 = .ok (.iconst 0, 1) := by decide +kernel
theorem dX7_cut_28 : decode cX7_cut 28 = .ok (.putfield 32, 3) := by decide +kernel
theorem dX7_cut_31 : decode cX7_cut 31 = .ok (.aload_n 0, 1) := by decide +kernel
theorem dX7_cut_32 : decode cX7_cut 32 = .ok (.iconst 0, 1) := by decide +kernel
theorem dX7_cut_33 : decode cX7_cut 33 = .ok (.putfield 21, 3) := by decide +kernel
theorem dX7_cut_36 : decode cX7_cut 36 = .ok (.aload_n 0, 1) := by decide +kernel
theorem dX7_cut_37 : decode cX7_cut 37 = .ok (.iconst 0, 1) := by decide +kernel
theorem dX7_cut_38 : decode cX7_cut 38 = .ok (.putfield 25, 3) := by decide +kernel
theorem dX7_cut_41 : decode cX7_cut 41 = .ok (.iconst 0, 1) := by decide +kernel
theorem dX7_cut_42 : decode cX7_cut 42 = .ok (.istore 4, 2) := by decide +kernel
theorem dX7_cut_44 : decode cX7_cut 44 = .ok (.iload 4, 2) := by decide +kernel
theorem dX7_cut_46 : decode cX7_cut 46 = .ok (.iload_n 3, 1) := by decide +kernel
theorem dX7_cut_47 : decode cX7_cut 47 = .ok (.if_icmp .ge 93, 3) := by decide +kernel
theorem dX7_cut_50 : decode cX7_cut 50 = .ok (.aload_n 1, 1) := by decide +kernel
theorem dX7_cut_51 : decode cX7_cut 51 = .ok (.iload 4, 2) := by decide +kernel
theorem dX7_cut_53 : decode cX7_cut 53 = .ok (.invokevirtual 46, 3) := by decide +kernel
theorem dX7_cut_56 : decode cX7_cut 56 = .ok (.istore 5, 2) := by decide +kernel
theorem dX7_cut_58 : decode cX7_cut 58 = .ok (.iload 5, 2) := by decide +kernel
theorem dX7_cut_60 : decode cX7_cut 60 = .ok (.bipush 32, 2) := by decide +kernel
theorem dX7_cut_62 : decode cX7_cut 62 = .ok (.if_icmp .eq 10, 3) := by decide +kernel
theorem dX7_cut_65 : decode cX7_cut 65 = .ok (.iload 5, 2) := by decide +kernel
theorem dX7_cut_67 : decode cX7_cut 67 = .ok (.bipush 10, 2) := by decide +kernel
theorem dX7_cut_69 : decode cX7_cut 69 = .ok (.if_icmp .ne 9, 3) := by decide +kernel
theorem dX7_cut_72 : decode cX7_cut 72 = .ok (.iinc 4 1, 3) := by decide +kernel
theorem dX7_cut_75 : decode cX7_cut 75 = .ok (.goto 62, 3) := by decide +kernel
theorem dX7_cut_78 : decode cX7_cut 78 = .ok (.iload 5, 2) := by decide +kernel
theorem dX7_cut_80 : decode cX7_cut 80 = .ok (.invokestatic 50, 3) := by decide +kernel
theorem dX7_cut_83 : decode cX7_cut 83 = .ok (.ifCond .ne 11, 3) := by decide +kernel
theorem dX7_cut_86 : decode cX7_cut 86 = .ok (.iload 5, 2) := by decide +kernel
theorem dX7_cut_88 : decode cX7_cut 88 = .ok (.invokestatic 54, 3) := by decide +kernel
theorem dX7_cut_91 : decode cX7_cut 91 = .ok (.ifCond .eq 22, 3) := by decide +kernel
theorem dX7_cut_94 : decode cX7_cut 94 = .ok (.iload 4, 2) := by decide +kernel
theorem dX7_cut_96 : decode cX7_cut 96 = .ok (.iconst 1, 1) := by decide +kernel
theorem dX7_cut_97 : decode cX7_cut 97 = .ok (.iadd, 1) := by decide +kernel
theorem dX7_cut_98 : decode cX7_cut 98 = .ok (.aload_n 0, 1) := by decide +kernel
theorem dX7_cut_99 : decode cX7_cut 99 = .ok (.aload_n 1, 1) := by decide +kernel
theorem dX7_cut_100 : decode cX7_cut 100 = .ok (.iload 4, 2) := by decide +kernel
theorem dX7_cut_102 : decode cX7_cut 102 = .ok (.invokevirtual 57, 3) := by decide +kernel
theorem dX7_cut_105 : decode cX7_cut 105 = .ok (.invokestatic 61, 3) := by decide +kernel
theorem dX7_cut_108 : decode cX7_cut 108 = .ok (.istore 4, 2) := by decide +kernel
theorem dX7_cut_110 : decode cX7_cut 110 = .ok (.goto 27, 3) := by decide +kernel
theorem dX7_cut_113 : decode cX7_cut 113 = .ok (.aload_n 0, 1) := by decide +kernel
theorem dX7_cut_114 : decode cX7_cut 114 = .ok (.iload 5, 2) := by decide +kernel
theorem dX7_cut_116 : decode cX7_cut 116 = .ok (.invokestatic 64, 3) := by decide +kernel
theorem dX7_cut_119 : decode cX7_cut 119 = .ok (.ifCond .eq 7, 3) := by decide +kernel
theorem dX7_cut_122 : decode cX7_cut 122 = .ok (.iconst 3, 1) := by decide +kernel
theorem dX7_cut_123 : decode cX7_cut 123 = .ok (.goto 4, 3) := by decide +kernel
theorem dX7_cut_126 : decode cX7_cut 126 = .ok (.iconst 4, 1) := by decide +kernel
theorem dX7_cut_127 : decode cX7_cut 127 = .ok (.iload 5, 2) := by decide +kernel
theorem dX7_cut_129 : decode cX7_cut 129 = .ok (.iload 4, 2) := by decide +kernel
theorem dX7_cut_131 : decode cX7_cut 131 = .ok (.invokevirtual 67, 3) := by decide +kernel
theorem dX7_cut_134 : decode cX7_cut 134 = .ok (.iinc 4 1, 3) := by decide +kernel
theorem dX7_cut_137 : decode cX7_cut 137 = .ok (.goto (-93), 3) := by decide +kernel
theorem dX7_cut_140 : decode cX7_cut 140 = .ok (.aload_n 0, 1) := by decide +kernel
theorem dX7_cut_141 : decode cX7_cut 141 = .ok (.iconst 0, 1) := by decide +kernel
theorem dX7_cut_142 : decode cX7_cut 142 = .ok (.iconst 0, 1) := by decide +kernel
theorem dX7_cut_143 : decode cX7_cut 143 = .ok (.iload_n 3, 1) := by decide +kernel
theorem dX7_cut_144 : decode cX7_cut 144 = .ok (.invokevirtual 67, 3) := by decide +kernel
theorem dX7_cut_147 : decode cX7_cut 147 = .ok (.return_, 1) := by decide +kernel
def E_X7_cut_44 (G : GT) (d : Nat) (h0 hb : PH) (l0 : Nat) (l1 : Nat) (l3 : Int32) (Q : PH → Prop) (s : Int32 × PH) : Prop := qEx hb s.2 ∧ qn s.2 = qn hb ∧ qz s.2 = qz hb → Ex G (qrm (2 + d) 0 0) mX7_cut (qn h0) (qz h0) (ZN G h0 0 0 (qqv Q)) 44 [(0, .ref l0), (1, .ref l1), (3, .int l3), (4, .int s.1)] [] s.2
def wb_X7_cut_44 (l0 : Nat) (l1 : Nat) (l3 : Int32)  (Q : PH → Prop) (bk44 : Int32 × PH → Prop) (l4 : Int32) (h : PH) : Prop := ((l3 ≤ l4 → (wp_X7_add l0 0 0 l3 h (fun h10 => Q h10))) ∧ (¬ (l3 ≤ l4) → (wp_X6_byteAt l1 l4 h (fun r13 h12 => ((r13 = 32 → ∀ v15 : Int32, v15 = l4 + 1 → bk44 (v15, h12)) ∧ (¬ (r13 = 32) → ((¬ r13 = 10 → (wp_X7_isLetter r13 h12 (fun r18 h17 => ((¬ r18 = 0 → (wp_X7_cutWordOrNumber l0 l1 l4 h17 (fun r21 h20 => (wp_J9_max_7cf53 (l4 + 1) r21 h20 (fun r23 h22 => bk44 (r23, h22)))))) ∧ (r18 = 0 → (wp_X7_isDigit r13 h17 (fun r25 h24 => ((r25 = 0 → (wp_X7_isSingle r13 h24 (fun r28 h27 => ((r28 = 0 → (wp_X7_add l0 4 r13 l4 h27 (fun h30 => ∀ v32 : Int32, v32 = l4 + 1 → bk44 (v32, h30)))) ∧ (¬ (r28 = 0) → (wp_X7_add l0 3 r13 l4 h27 (fun h33 => ∀ v35 : Int32, v35 = l4 + 1 → bk44 (v35, h33)))))))) ∧ (¬ (r25 = 0) → (wp_X7_cutWordOrNumber l0 l1 l4 h24 (fun r37 h36 => (wp_J9_max_7cf53 (l4 + 1) r37 h36 (fun r39 h38 => bk44 (r39, h38)))))))))))))) ∧ (r13 = 10 → ∀ v40 : Int32, v40 = l4 + 1 → bk44 (v40, h12)))))))))
def wp_X7_cut_44 (l0 : Nat) (l1 : Nat) (l3 : Int32)  (Q : PH → Prop) (bk44 : Int32 × PH → Prop) (s : Int32 × PH) : Prop := wb_X7_cut_44 l0 l1 l3 Q bk44 s.1 s.2
set_option maxHeartbeats 4000000 in
set_option maxRecDepth 100000 in
theorem bd_X7_cut_44 (G : GT) (d : Nat) (h0 hb : PH) (l0 : Nat) (l1 : Nat) (l3 : Int32) (Q : PH → Prop)  (hex : qEx h0 hb) (hnn : qn hb = qn h0 + 0) (hzz : qz hb = qz h0 + 0) (okl0 : qOK hb 7 l0) (okl1 : qOK hb 6 l1) (bk44 : Int32 × PH → Prop) (hbk44 : ∀ s2, bk44 s2 → E_X7_cut_44 G d h0 hb l0 l1 l3 Q s2) (l4 : Int32) (h : PH) (hwp : wb_X7_cut_44 l0 l1 l3 Q bk44 l4 h) (hx44 : qEx hb h) (hn44 : qn h = qn hb) (hz44 : qz h = qz hb) : Ex G (qrm (2 + d) 0 0) mX7_cut (qn h0) (qz h0) (ZN G h0 0 0 (qqv Q)) 44 [(0, .ref l0), (1, .ref l1), (3, .int l3), (4, .int l4)] [] h := by
  unfold wb_X7_cut_44 at hwp
  have hex := hex.tr hx44
  have hnn := hn44.trans hnn
  have hzz := hz44.trans hzz
  have okl0 := okl0.ex hx44
  have okl1 := okl1.ex hx44
  refine x_iload (pc := 44) dX7_cut_44 rfl ?_
  refine x_iload_n (pc := 46) dX7_cut_46 rfl ?_
  refine x_icmp_ge (tgt := 140) (pc := 47) dX7_cut_47 (by decide) (fun c9 => ?_) (fun c9 => ?_)
  · have hwp := hwp.1 c9
    refine x_aload_n (pc := 140) dX7_cut_140 rfl ?_
    refine x_iconst (v := 0) (pc := 141) dX7_cut_141 (by decide) ?_
    refine x_iconst (v := 0) (pc := 142) dX7_cut_142 (by decide) ?_
    refine x_iload_n (pc := 143) dX7_cut_143 rfl ?_
    refine x_invV (As := [.int 0, .int 0, .int l3]) (st := []) (pc := 144) dX7_cut_144 lRX7_67 fX7_add vX7_add okl0 rfl (Nat.le_of_ble_eq_true rfl) (q_R (by omega) (by decide)) (q_C hnn hzz (by decide) (by decide)) (sn_X7_add G (d + 1) l0 0 0 l3 h _ okl0 hwp) (k_v (fun h10 hwp cxh10 => ?_))
    have hex := hex.tr cxh10.1
    have hnn : qn h10 = qn h0 + 0 := by have := cxh10.2.1; omega
    have hzz : qz h10 = qz h0 + 0 := by have := cxh10.2.2; omega
    have hx44 := hx44.tr cxh10.1
    have hn44 : qn h10 = qn hb := by have := cxh10.2.1; omega
    have hz44 : qz h10 = qz hb := by have := cxh10.2.2; omega
    have okl0 := okl0.ex cxh10.1
    have okl1 := okl1.ex cxh10.1
    exact x_vret (pc := 147) dX7_cut_147 rfl hex hnn hzz ⟨rfl, hwp⟩
  · have hwp := hwp.2 c9
    refine x_aload_n (pc := 50) dX7_cut_50 rfl ?_
    refine x_iload (pc := 51) dX7_cut_51 rfl ?_
    refine x_invV (As := [.int l4]) (st := []) (pc := 53) dX7_cut_53 lRX7_46 fX6_byteAt vX6_byteAt okl1 rfl (Nat.le_of_ble_eq_true rfl) (q_R (by omega) (by decide)) (q_C hnn hzz (by decide) (by decide)) (sn_X6_byteAt G (d + 1) l1 l4 h _ okl1 hwp) (k_i (fun r13 h12 hwp cxh12 => ?_))
    have hex := hex.tr cxh12.1
    have hnn : qn h12 = qn h0 + 0 := by have := cxh12.2.1; omega
    have hzz : qz h12 = qz h0 + 0 := by have := cxh12.2.2; omega
    have hx44 := hx44.tr cxh12.1
    have hn44 : qn h12 = qn hb := by have := cxh12.2.1; omega
    have hz44 : qz h12 = qz hb := by have := cxh12.2.2; omega
    have okl0 := okl0.ex cxh12.1
    have okl1 := okl1.ex cxh12.1
    refine x_istore (lv2 := [(5, .int r13), (0, .ref l0), (1, .ref l1), (3, .int l3), (4, .int l4)]) (pc := 56) dX7_cut_56 (by decide) rfl ?_
    refine x_iload (pc := 58) dX7_cut_58 rfl ?_
    refine x_bipush (v := 32) (pc := 60) dX7_cut_60 (by decide) ?_
    refine x_icmp_eq (tgt := 72) (pc := 62) dX7_cut_62 (by decide) (fun c14 => ?_) (fun c14 => ?_)
    · have hwp := hwp.1 c14
      refine y_iinc (c := 1) (pc := 72) dX7_cut_72 rfl (by decide) (by decide) (fun v15 ev15 => ?_)
      have hwp := hwp v15 ev15
      refine x_lvE (lv2 := [(4, .int v15), (5, .int r13), (0, .ref l0), (1, .ref l1), (3, .int l3)]) rfl ?_
      refine x_goto (tgt := 137) (pc := 75) dX7_cut_75 (by decide) ?_
      refine x_goto (tgt := 44) (pc := 137) dX7_cut_137 (by decide) ?_
      refine x_sub [2, 3, 4, 0] rfl ?_
      exact hbk44 _ hwp ⟨hx44, hn44, hz44⟩
    · have hwp := hwp.2 c14
      refine x_iload (pc := 65) dX7_cut_65 rfl ?_
      refine x_bipush (v := 10) (pc := 67) dX7_cut_67 (by decide) ?_
      refine x_icmp_ne (tgt := 78) (pc := 69) dX7_cut_69 (by decide) (fun c16 => ?_) (fun c16 => ?_)
      · have hwp := hwp.1 c16
        refine x_iload (pc := 78) dX7_cut_78 rfl ?_
        refine x_invS (As := [.int r13]) (st := []) (pc := 80) dX7_cut_80 lRX7_50 fX7_isLetter sX7_isLetter rfl (Nat.le_of_ble_eq_true rfl) (q_R (by omega) (by decide)) (q_C hnn hzz (by decide) (by decide)) (sn_X7_isLetter G (d + 1) r13 h12 _  hwp) (k_b (fun r18 h17 hwp zbr18 cxh17 => ?_))
        have hex := hex.tr cxh17.1
        have hnn : qn h17 = qn h0 + 0 := by have := cxh17.2.1; omega
        have hzz : qz h17 = qz h0 + 0 := by have := cxh17.2.2; omega
        have hx44 := hx44.tr cxh17.1
        have hn44 : qn h17 = qn hb := by have := cxh17.2.1; omega
        have hz44 : qz h17 = qz hb := by have := cxh17.2.2; omega
        have okl0 := okl0.ex cxh17.1
        have okl1 := okl1.ex cxh17.1
        refine x_if_ne (tgt := 94) (pc := 83) dX7_cut_83 (by decide) (fun c19 => ?_) (fun c19 => ?_)
        · have hwp := hwp.1 c19
          refine x_iload (pc := 94) dX7_cut_94 rfl ?_
          refine x_iconst (v := 1) (pc := 96) dX7_cut_96 (by decide) ?_
          refine x_iadd (pc := 97) dX7_cut_97 ?_
          refine x_aload_n (pc := 98) dX7_cut_98 rfl ?_
          refine x_aload_n (pc := 99) dX7_cut_99 rfl ?_
          refine x_iload (pc := 100) dX7_cut_100 rfl ?_
          refine x_invV (As := [.ref l1, .int l4]) (st := [.int (l4 + 1)]) (pc := 102) dX7_cut_102 lRX7_57 fX7_cutWordOrNumber vX7_cutWordOrNumber okl0 rfl (Nat.le_of_ble_eq_true rfl) (q_R (by omega) (by decide)) (q_C hnn hzz (by decide) (by decide)) (sn_X7_cutWordOrNumber G (d + 0) l0 l1 l4 h17 _ okl0 okl1 hwp) (k_i (fun r21 h20 hwp cxh20 => ?_))
          have hex := hex.tr cxh20.1
          have hnn : qn h20 = qn h0 + 0 := by have := cxh20.2.1; omega
          have hzz : qz h20 = qz h0 + 0 := by have := cxh20.2.2; omega
          have hx44 := hx44.tr cxh20.1
          have hn44 : qn h20 = qn hb := by have := cxh20.2.1; omega
          have hz44 : qz h20 = qz hb := by have := cxh20.2.2; omega
          have okl0 := okl0.ex cxh20.1
          have okl1 := okl1.ex cxh20.1
          refine x_invS (As := [.int (l4 + 1), .int r21]) (st := []) (pc := 105) dX7_cut_105 lRX7_61 fJ9_max_7cf53 sJ9_max_7cf53 rfl (Nat.le_of_ble_eq_true rfl) (q_R (by omega) (by decide)) (q_C hnn hzz (by decide) (by decide)) (sn_J9_max_7cf53 G (d + 1) (l4 + 1) r21 h20 _  hwp) (k_i (fun r23 h22 hwp cxh22 => ?_))
          have hex := hex.tr cxh22.1
          have hnn : qn h22 = qn h0 + 0 := by have := cxh22.2.1; omega
          have hzz : qz h22 = qz h0 + 0 := by have := cxh22.2.2; omega
          have hx44 := hx44.tr cxh22.1
          have hn44 : qn h22 = qn hb := by have := cxh22.2.1; omega
          have hz44 : qz h22 = qz hb := by have := cxh22.2.2; omega
          have okl0 := okl0.ex cxh22.1
          have okl1 := okl1.ex cxh22.1
          refine x_istore (lv2 := [(4, .int r23), (5, .int r13), (0, .ref l0), (1, .ref l1), (3, .int l3)]) (pc := 108) dX7_cut_108 (by decide) rfl ?_
          refine x_goto (tgt := 137) (pc := 110) dX7_cut_110 (by decide) ?_
          refine x_goto (tgt := 44) (pc := 137) dX7_cut_137 (by decide) ?_
          refine x_sub [2, 3, 4, 0] rfl ?_
          exact hbk44 _ hwp ⟨hx44, hn44, hz44⟩
        · have hwp := hwp.2 c19
          refine x_iload (pc := 86) dX7_cut_86 rfl ?_
          refine x_invS (As := [.int r13]) (st := []) (pc := 88) dX7_cut_88 lRX7_54 fX7_isDigit sX7_isDigit rfl (Nat.le_of_ble_eq_true rfl) (q_R (by omega) (by decide)) (q_C hnn hzz (by decide) (by decide)) (sn_X7_isDigit G (d + 1) r13 h17 _  hwp) (k_b (fun r25 h24 hwp zbr25 cxh24 => ?_))
          have hex := hex.tr cxh24.1
          have hnn : qn h24 = qn h0 + 0 := by have := cxh24.2.1; omega
          have hzz : qz h24 = qz h0 + 0 := by have := cxh24.2.2; omega
          have hx44 := hx44.tr cxh24.1
          have hn44 : qn h24 = qn hb := by have := cxh24.2.1; omega
          have hz44 : qz h24 = qz hb := by have := cxh24.2.2; omega
          have okl0 := okl0.ex cxh24.1
          have okl1 := okl1.ex cxh24.1
          refine x_if_eq (tgt := 113) (pc := 91) dX7_cut_91 (by decide) (fun c26 => ?_) (fun c26 => ?_)
          · have hwp := hwp.1 c26
            refine x_aload_n (pc := 113) dX7_cut_113 rfl ?_
            refine x_iload (pc := 114) dX7_cut_114 rfl ?_
            refine x_invS (As := [.int r13]) (st := [.ref l0]) (pc := 116) dX7_cut_116 lRX7_64 fX7_isSingle sX7_isSingle rfl (Nat.le_of_ble_eq_true rfl) (q_R (by omega) (by decide)) (q_C hnn hzz (by decide) (by decide)) (sn_X7_isSingle G (d + 1) r13 h24 _  hwp) (k_b (fun r28 h27 hwp zbr28 cxh27 => ?_))
            have hex := hex.tr cxh27.1
            have hnn : qn h27 = qn h0 + 0 := by have := cxh27.2.1; omega
            have hzz : qz h27 = qz h0 + 0 := by have := cxh27.2.2; omega
            have hx44 := hx44.tr cxh27.1
            have hn44 : qn h27 = qn hb := by have := cxh27.2.1; omega
            have hz44 : qz h27 = qz hb := by have := cxh27.2.2; omega
            have okl0 := okl0.ex cxh27.1
            have okl1 := okl1.ex cxh27.1
            refine x_if_eq (tgt := 126) (pc := 119) dX7_cut_119 (by decide) (fun c29 => ?_) (fun c29 => ?_)
            · have hwp := hwp.1 c29
              refine x_iconst (v := 4) (pc := 126) dX7_cut_126 (by decide) ?_
              refine x_iload (pc := 127) dX7_cut_127 rfl ?_
              refine x_iload (pc := 129) dX7_cut_129 rfl ?_
              refine x_invV (As := [.int 4, .int r13, .int l4]) (st := []) (pc := 131) dX7_cut_131 lRX7_67 fX7_add vX7_add okl0 rfl (Nat.le_of_ble_eq_true rfl) (q_R (by omega) (by decide)) (q_C hnn hzz (by decide) (by decide)) (sn_X7_add G (d + 1) l0 4 r13 l4 h27 _ okl0 hwp) (k_v (fun h30 hwp cxh30 => ?_))
              have hex := hex.tr cxh30.1
              have hnn : qn h30 = qn h0 + 0 := by have := cxh30.2.1; omega
              have hzz : qz h30 = qz h0 + 0 := by have := cxh30.2.2; omega
              have hx44 := hx44.tr cxh30.1
              have hn44 : qn h30 = qn hb := by have := cxh30.2.1; omega
              have hz44 : qz h30 = qz hb := by have := cxh30.2.2; omega
              have okl0 := okl0.ex cxh30.1
              have okl1 := okl1.ex cxh30.1
              refine y_iinc (c := 1) (pc := 134) dX7_cut_134 rfl (by decide) (by decide) (fun v32 ev32 => ?_)
              have hwp := hwp v32 ev32
              refine x_lvE (lv2 := [(4, .int v32), (5, .int r13), (0, .ref l0), (1, .ref l1), (3, .int l3)]) rfl ?_
              refine x_goto (tgt := 44) (pc := 137) dX7_cut_137 (by decide) ?_
              refine x_sub [2, 3, 4, 0] rfl ?_
              exact hbk44 _ hwp ⟨hx44, hn44, hz44⟩
            · have hwp := hwp.2 c29
              refine x_iconst (v := 3) (pc := 122) dX7_cut_122 (by decide) ?_
              refine x_goto (tgt := 127) (pc := 123) dX7_cut_123 (by decide) ?_
              refine x_iload (pc := 127) dX7_cut_127 rfl ?_
              refine x_iload (pc := 129) dX7_cut_129 rfl ?_
              refine x_invV (As := [.int 3, .int r13, .int l4]) (st := []) (pc := 131) dX7_cut_131 lRX7_67 fX7_add vX7_add okl0 rfl (Nat.le_of_ble_eq_true rfl) (q_R (by omega) (by decide)) (q_C hnn hzz (by decide) (by decide)) (sn_X7_add G (d + 1) l0 3 r13 l4 h27 _ okl0 hwp) (k_v (fun h33 hwp cxh33 => ?_))
              have hex := hex.tr cxh33.1
              have hnn : qn h33 = qn h0 + 0 := by have := cxh33.2.1; omega
              have hzz : qz h33 = qz h0 + 0 := by have := cxh33.2.2; omega
              have hx44 := hx44.tr cxh33.1
              have hn44 : qn h33 = qn hb := by have := cxh33.2.1; omega
              have hz44 : qz h33 = qz hb := by have := cxh33.2.2; omega
              have okl0 := okl0.ex cxh33.1
              have okl1 := okl1.ex cxh33.1
              refine y_iinc (c := 1) (pc := 134) dX7_cut_134 rfl (by decide) (by decide) (fun v35 ev35 => ?_)
              have hwp := hwp v35 ev35
              refine x_lvE (lv2 := [(4, .int v35), (5, .int r13), (0, .ref l0), (1, .ref l1), (3, .int l3)]) rfl ?_
              refine x_goto (tgt := 44) (pc := 137) dX7_cut_137 (by decide) ?_
              refine x_sub [2, 3, 4, 0] rfl ?_
              exact hbk44 _ hwp ⟨hx44, hn44, hz44⟩
          · have hwp := hwp.2 c26
            refine x_iload (pc := 94) dX7_cut_94 rfl ?_
            refine x_iconst (v := 1) (pc := 96) dX7_cut_96 (by decide) ?_
            refine x_iadd (pc := 97) dX7_cut_97 ?_
            refine x_aload_n (pc := 98) dX7_cut_98 rfl ?_
            refine x_aload_n (pc := 99) dX7_cut_99 rfl ?_
            refine x_iload (pc := 100) dX7_cut_100 rfl ?_
            refine x_invV (As := [.ref l1, .int l4]) (st := [.int (l4 + 1)]) (pc := 102) dX7_cut_102 lRX7_57 fX7_cutWordOrNumber vX7_cutWordOrNumber okl0 rfl (Nat.le_of_ble_eq_true rfl) (q_R (by omega) (by decide)) (q_C hnn hzz (by decide) (by decide)) (sn_X7_cutWordOrNumber G (d + 0) l0 l1 l4 h24 _ okl0 okl1 hwp) (k_i (fun r37 h36 hwp cxh36 => ?_))
            have hex := hex.tr cxh36.1
            have hnn : qn h36 = qn h0 + 0 := by have := cxh36.2.1; omega
            have hzz : qz h36 = qz h0 + 0 := by have := cxh36.2.2; omega
            have hx44 := hx44.tr cxh36.1
            have hn44 : qn h36 = qn hb := by have := cxh36.2.1; omega
            have hz44 : qz h36 = qz hb := by have := cxh36.2.2; omega
            have okl0 := okl0.ex cxh36.1
            have okl1 := okl1.ex cxh36.1
            refine x_invS (As := [.int (l4 + 1), .int r37]) (st := []) (pc := 105) dX7_cut_105 lRX7_61 fJ9_max_7cf53 sJ9_max_7cf53 rfl (Nat.le_of_ble_eq_true rfl) (q_R (by omega) (by decide)) (q_C hnn hzz (by decide) (by decide)) (sn_J9_max_7cf53 G (d + 1) (l4 + 1) r37 h36 _  hwp) (k_i (fun r39 h38 hwp cxh38 => ?_))
            have hex := hex.tr cxh38.1
            have hnn : qn h38 = qn h0 + 0 := by have := cxh38.2.1; omega
            have hzz : qz h38 = qz h0 + 0 := by have := cxh38.2.2; omega
            have hx44 := hx44.tr cxh38.1
            have hn44 : qn h38 = qn hb := by have := cxh38.2.1; omega
            have hz44 : qz h38 = qz hb := by have := cxh38.2.2; omega
            have okl0 := okl0.ex cxh38.1
            have okl1 := okl1.ex cxh38.1
            refine x_istore (lv2 := [(4, .int r39), (5, .int r13), (0, .ref l0), (1, .ref l1), (3, .int l3)]) (pc := 108) dX7_cut_108 (by decide) rfl ?_
            refine x_goto (tgt := 137) (pc := 110) dX7_cut_110 (by decide) ?_
            refine x_goto (tgt := 44) (pc := 137) dX7_cut_137 (by decide) ?_
            refine x_sub [2, 3, 4, 0] rfl ?_
            exact hbk44 _ hwp ⟨hx44, hn44, hz44⟩
      · have hwp := hwp.2 c16
        refine y_iinc (c := 1) (pc := 72) dX7_cut_72 rfl (by decide) (by decide) (fun v40 ev40 => ?_)
        have hwp := hwp v40 ev40
        refine x_lvE (lv2 := [(4, .int v40), (5, .int r13), (0, .ref l0), (1, .ref l1), (3, .int l3)]) rfl ?_
        refine x_goto (tgt := 137) (pc := 75) dX7_cut_75 (by decide) ?_
        refine x_goto (tgt := 44) (pc := 137) dX7_cut_137 (by decide) ?_
        refine x_sub [2, 3, 4, 0] rfl ?_
        exact hbk44 _ hwp ⟨hx44, hn44, hz44⟩
theorem lp_X7_cut_44 (G : GT) (d : Nat) (h0 hb : PH) (l0 : Nat) (l1 : Nat) (l3 : Int32) (Q : PH → Prop)  (hex : qEx h0 hb) (hnn : qn hb = qn h0 + 0) (hzz : qz hb = qz h0 + 0) (okl0 : qOK hb 7 l0) (okl1 : qOK hb 6 l1) {s : Int32 × PH} (hwp : qLoop (wp_X7_cut_44 l0 l1 l3 Q) s) : E_X7_cut_44 G d h0 hb l0 l1 l3 Q s :=
  qLoop.use (E := E_X7_cut_44 G d h0 hb l0 l1 l3 Q) (fun back s hbk hw hx => bd_X7_cut_44 G d h0 hb l0 l1 l3 Q hex hnn hzz okl0 okl1 back hbk s.1 s.2 hw hx.1 hx.2.1 hx.2.2) hwp
def wp_X7_cut_23 (l0 : Nat) (l1 : Nat) (l3 : Int32) (s0 : Int32) (s1 : Nat)  (h : PH) (Q : PH → Prop) : Prop := ((s0 = 0 ∨ s0 = 1) ∧ ∀ h4, h4 = qsI h s1 5 s0 → (∀ h6, h6 = qsI h4 l0 6 0 → (∀ h7, h7 = qsI h6 l0 3 0 → (∀ h8, h8 = qsI h7 l0 4 0 → (qLoop (wp_X7_cut_44 l0 l1 l3 Q) (0, h8))))))
set_option maxHeartbeats 4000000 in
set_option maxRecDepth 100000 in
theorem sg_X7_cut_23 (G : GT) (d : Nat) (h0 : PH) (l0 : Nat) (l1 : Nat) (l3 : Int32) (s0 : Int32) (s1 : Nat) (h : PH) (Q : PH → Prop) (hex : qEx h0 h) (hnn : qn h = qn h0 + 0) (hzz : qz h = qz h0 + 0) (okl0 : qOK h 7 l0) (okl1 : qOK h 6 l1) (oks1 : qOK h 7 s1) (hwp : wp_X7_cut_23 l0 l1 l3 s0 s1 h Q) : Ex G (qrm (2 + d) 0 0) mX7_cut (qn h0) (qz h0) (ZN G h0 0 0 (qqv Q)) 23 [(0, .ref l0), (1, .ref l1), (3, .int l3)] [.int s0, .ref s1] h := by
  unfold wp_X7_cut_23 at hwp
  obtain ⟨z5, hwp⟩ := hwp
  refine y_putZ (pc := 23) dX7_cut_23 qRX7_28 oks1 z5 (fun h4 eh4 nxh4 => ?_)
  have hwp := hwp h4 eh4
  have hex := hex.tr nxh4.1
  have hnn := nxh4.2.1.trans hnn
  have hzz := nxh4.2.2.trans hzz
  have okl0 := okl0.ex nxh4.1
  have okl1 := okl1.ex nxh4.1
  have oks1 := oks1.ex nxh4.1
  refine x_aload_n (pc := 26) dX7_cut_26 rfl ?_
  refine x_iconst (v := 0) (pc := 27) dX7_cut_27 (by decide) ?_
  refine y_putI (pc := 28) dX7_cut_28 qRX7_32 okl0 (fun h6 eh6 nxh6 => ?_)
  have hwp := hwp h6 eh6
  have hex := hex.tr nxh6.1
  have hnn := nxh6.2.1.trans hnn
  have hzz := nxh6.2.2.trans hzz
  have okl0 := okl0.ex nxh6.1
  have okl1 := okl1.ex nxh6.1
  have oks1 := oks1.ex nxh6.1
  refine x_aload_n (pc := 31) dX7_cut_31 rfl ?_
  refine x_iconst (v := 0) (pc := 32) dX7_cut_32 (by decide) ?_
  refine y_putI (pc := 33) dX7_cut_33 qRX7_21 okl0 (fun h7 eh7 nxh7 => ?_)
  have hwp := hwp h7 eh7
  have hex := hex.tr nxh7.1
  have hnn := nxh7.2.1.trans hnn
  have hzz := nxh7.2.2.trans hzz
  have okl0 := okl0.ex nxh7.1
  have okl1 := okl1.ex nxh7.1
  have oks1 := oks1.ex nxh7.1
  refine x_aload_n (pc := 36) dX7_cut_36 rfl ?_
  refine x_iconst (v := 0) (pc := 37) dX7_cut_37 (by decide) ?_
  refine y_putI (pc := 38) dX7_cut_38 qRX7_25 okl0 (fun h8 eh8 nxh8 => ?_)
  have hwp := hwp h8 eh8
  have hex := hex.tr nxh8.1
  have hnn := nxh8.2.1.trans hnn
  have hzz := nxh8.2.2.trans hzz
  have okl0 := okl0.ex nxh8.1
  have okl1 := okl1.ex nxh8.1
  have oks1 := oks1.ex nxh8.1
  refine x_iconst (v := 0) (pc := 41) dX7_cut_41 (by decide) ?_
  refine x_istore (lv2 := [(4, .int 0), (0, .ref l0), (1, .ref l1), (3, .int l3)]) (pc := 42) dX7_cut_42 (by decide) rfl ?_
  refine x_sub [1, 2, 3, 0] rfl ?_
  exact lp_X7_cut_44 G d h0 h8 l0 l1 l3 Q hex hnn hzz okl0 okl1 hwp ⟨qEx.rf _, rfl, rfl⟩
def wp_X7_cut (l0 : Nat) (l1 : Nat) (l2 : Int32) (h : PH) (Q : PH → Prop) : Prop := (wp_J9_min_7cf53 (qI h l1 1) l2 h (fun r2 h1 => (((qI h1 l1 1) ≤ l2 → (wp_X7_cut_23 l0 l1 r2 0 l0 h1 Q)) ∧ (¬ ((qI h1 l1 1) ≤ l2) → (wp_X7_cut_23 l0 l1 r2 1 l0 h1 Q)))))
set_option maxHeartbeats 4000000 in
set_option maxRecDepth 100000 in
theorem sn_X7_cut (G : GT) (d : Nat) (l0 : Nat) (l1 : Nat) (l2 : Int32) (h : PH) (Q : PH → Prop) (okl0 : qOK h 7 l0) (okl1 : qOK h 6 l1) (hwp : wp_X7_cut l0 l1 l2 h Q) : Mt G (2 + d) 0 0 mX7_cut [.ref l0, .ref l1, .int l2] h (qqv Q) := by
  unfold wp_X7_cut at hwp
  refine Mt.of (by decide) rfl (Nat.le_of_ble_eq_true rfl) ?_
  have hex := qEx.rf h
  have hnn : qn h = qn h + 0 := rfl
  have hzz : qz h = qz h + 0 := rfl
  refine x_lvE (lv2 := [(0, .ref l0), (1, .ref l1), (2, .int l2)]) rfl ?_
  refine x_aload_n (pc := 0) dX7_cut_0 rfl ?_
  refine x_getI (pc := 1) dX7_cut_1 qRX7_35 okl1 (by decide) ?_
  refine x_iload_n (pc := 4) dX7_cut_4 rfl ?_
  refine x_invS (As := [.int (qI h l1 1), .int l2]) (st := []) (pc := 5) dX7_cut_5 lRX7_40 fJ9_min_7cf53 sJ9_min_7cf53 rfl (Nat.le_of_ble_eq_true rfl) (q_R (by omega) (by decide)) (q_C hnn hzz (by decide) (by decide)) (sn_J9_min_7cf53 G (d + 1) (qI h l1 1) l2 h _  hwp) (k_i (fun r2 h1 hwp cxh1 => ?_))
  have hex := hex.tr cxh1.1
  have hnn : qn h1 = qn h + 0 := by have := cxh1.2.1; omega
  have hzz : qz h1 = qz h + 0 := by have := cxh1.2.2; omega
  have okl0 := okl0.ex cxh1.1
  have okl1 := okl1.ex cxh1.1
  refine x_istore_n (lv2 := [(3, .int r2), (0, .ref l0), (1, .ref l1), (2, .int l2)]) (pc := 8) dX7_cut_8 (by decide) rfl ?_
  refine x_aload_n (pc := 9) dX7_cut_9 rfl ?_
  refine x_aload_n (pc := 10) dX7_cut_10 rfl ?_
  refine x_getI (pc := 11) dX7_cut_11 qRX7_35 okl1 (by decide) ?_
  refine x_iload_n (pc := 14) dX7_cut_14 rfl ?_
  refine x_icmp_le (tgt := 22) (pc := 15) dX7_cut_15 (by decide) (fun c3 => ?_) (fun c3 => ?_)
  · have hwp := hwp.1 c3
    refine x_iconst (v := 0) (pc := 22) dX7_cut_22 (by decide) ?_
    refine x_sub [1, 2, 0] rfl ?_
    exact sg_X7_cut_23 G d h l0 l1 r2 0 l0 h1 Q hex hnn hzz okl0 okl1 okl0 hwp
  · have hwp := hwp.2 c3
    refine x_iconst (v := 1) (pc := 18) dX7_cut_18 (by decide) ?_
    refine x_goto (tgt := 23) (pc := 19) dX7_cut_19 (by decide) ?_
    refine x_sub [1, 2, 0] rfl ?_
    exact sg_X7_cut_23 G d h l0 l1 r2 1 l0 h1 Q hex hnn hzz okl0 okl1 okl0 hwp

theorem dX7_faultAnswer_0 : decode cX7_faultAnswer 0 = .ok (.iconst (-1), 1) := by decide +kernel
theorem dX7_faultAnswer_1 : decode cX7_faultAnswer 1 = .ok (.aload_n 0, 1) := by decide +kernel
theorem dX7_faultAnswer_2 : decode cX7_faultAnswer 2 = .ok (.getfield 18, 3) := by decide +kernel
theorem dX7_faultAnswer_5 : decode cX7_faultAnswer 5 = .ok (.aload_n 0, 1) := by decide +kernel
theorem dX7_faultAnswer_6 : decode cX7_faultAnswer 6 = .ok (.getfield 25, 3) := by decide +kernel
theorem dX7_faultAnswer_9 : decode cX7_faultAnswer 9 = .ok (.iaload, 1) := by decide +kernel
theorem dX7_faultAnswer_10 : decode cX7_faultAnswer 10 = .ok (.isub, 1) := by decide +kernel
theorem dX7_faultAnswer_11 : decode cX7_faultAnswer 11 = .ok (.ireturn, 1) := by decide +kernel
def wp_X7_faultAnswer (l0 : Nat) (h : PH) (Q : Int32 → PH → Prop) : Prop := (∃ b1, qR h l0 2 = some b1 ∧ (vp_in (qI h l0 4) (qL h b1) ∧ Q ((-1) - (qI h b1 (qI h l0 4).toNatClampNeg)) h))
set_option maxHeartbeats 4000000 in
set_option maxRecDepth 100000 in
theorem sn_X7_faultAnswer (G : GT) (d : Nat) (l0 : Nat) (h : PH) (Q : Int32 → PH → Prop) (okl0 : qOK h 7 l0) (hwp : wp_X7_faultAnswer l0 h Q) : Mt G (0 + d) 0 0 mX7_faultAnswer [.ref l0] h (qqi Q) := by
  unfold wp_X7_faultAnswer at hwp
  refine Mt.of (by decide) rfl (Nat.le_of_ble_eq_true rfl) ?_
  have hex := qEx.rf h
  have hnn : qn h = qn h + 0 := rfl
  have hzz : qz h = qz h + 0 := rfl
  refine x_lvE (lv2 := [(0, .ref l0)]) rfl ?_
  refine x_iconst (v := (-1)) (pc := 0) dX7_faultAnswer_0 (by decide) ?_
  refine x_aload_n (pc := 1) dX7_faultAnswer_1 rfl ?_
  obtain ⟨b1, e2, hwp⟩ := hwp
  refine x_getR (pc := 2) dX7_faultAnswer_2 qRX7_18 okl0 e2 (fun okb1 => ?_)
  refine x_aload_n (pc := 5) dX7_faultAnswer_5 rfl ?_
  refine x_getI (pc := 6) dX7_faultAnswer_6 qRX7_25 okl0 (by decide) ?_
  obtain ⟨i3, hwp⟩ := hwp
  refine x_iaload (pc := 9) dX7_faultAnswer_9 okb1 i3 ?_
  refine x_isub (pc := 10) dX7_faultAnswer_10 ?_
  exact x_iret (pc := 11) dX7_faultAnswer_11 rfl hex hnn hzz ⟨_, rfl, hwp⟩

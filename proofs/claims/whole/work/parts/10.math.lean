theorem dJ9_max_7cf53_0 : decode cJ9_max_7cf53 0 = .ok (.iload_n 0, 1) := by decide +kernel
theorem dJ9_max_7cf53_1 : decode cJ9_max_7cf53 1 = .ok (.iload_n 1, 1) := by decide +kernel
theorem dJ9_max_7cf53_2 : decode cJ9_max_7cf53 2 = .ok (.if_icmp .lt 7, 3) := by decide +kernel
theorem dJ9_max_7cf53_5 : decode cJ9_max_7cf53 5 = .ok (.iload_n 0, 1) := by decide +kernel
theorem dJ9_max_7cf53_6 : decode cJ9_max_7cf53 6 = .ok (.goto 4, 3) := by decide +kernel
theorem dJ9_max_7cf53_9 : decode cJ9_max_7cf53 9 = .ok (.iload_n 1, 1) := by decide +kernel
theorem dJ9_max_7cf53_10 : decode cJ9_max_7cf53 10 = .ok (.ireturn, 1) := by decide +kernel
def wp_J9_max_7cf53 (l0 : Int32) (l1 : Int32) (h : PH) (Q : Int32 → PH → Prop) : Prop := ((l0 < l1 → Q l1 h) ∧ (¬ (l0 < l1) → Q l0 h))
set_option maxHeartbeats 4000000 in
set_option maxRecDepth 100000 in
theorem sn_J9_max_7cf53 (G : GT) (d : Nat) (l0 : Int32) (l1 : Int32) (h : PH) (Q : Int32 → PH → Prop)  (hwp : wp_J9_max_7cf53 l0 l1 h Q) : Mt G (0 + d) 0 0 mJ9_max_7cf53 [.int l0, .int l1] h (qqi Q) := by
  unfold wp_J9_max_7cf53 at hwp
  refine Mt.ofF (by decide +kernel) rfl (Nat.le_of_ble_eq_true rfl) ?_
  have hex := qEx.rf h
  have hnn : qn h = qn h + 0 := rfl
  have hzz : qz h = qz h + 0 := rfl
  refine x_lvE (lv2 := [(0, .int l0), (1, .int l1)]) rfl ?_
  refine x_iload_n (pc := 0) dJ9_max_7cf53_0 rfl ?_
  refine x_iload_n (pc := 1) dJ9_max_7cf53_1 rfl ?_
  refine x_icmp_lt (tgt := 9) (pc := 2) dJ9_max_7cf53_2 (by decide) (fun c1 => ?_) (fun c1 => ?_)
  · have hwp := hwp.1 c1
    refine x_iload_n (pc := 9) dJ9_max_7cf53_9 rfl ?_
    exact x_iret (pc := 10) dJ9_max_7cf53_10 rfl hex hnn hzz ⟨_, rfl, hwp⟩
  · have hwp := hwp.2 c1
    refine x_iload_n (pc := 5) dJ9_max_7cf53_5 rfl ?_
    refine x_goto (tgt := 10) (pc := 6) dJ9_max_7cf53_6 (by decide) ?_
    exact x_iret (pc := 10) dJ9_max_7cf53_10 rfl hex hnn hzz ⟨_, rfl, hwp⟩

theorem dJ9_floorMod_7cf53_0 : decode cJ9_floorMod_7cf53 0 = .ok (.iload_n 0, 1) := by decide +kernel
theorem dJ9_floorMod_7cf53_1 : decode cJ9_floorMod_7cf53 1 = .ok (.iload_n 1, 1) := by decide +kernel
theorem dJ9_floorMod_7cf53_2 : decode cJ9_floorMod_7cf53 2 = .ok (.irem, 1) := by decide +kernel
theorem dJ9_floorMod_7cf53_3 : decode cJ9_floorMod_7cf53 3 = .ok (.istore_n 2, 1) := by decide +kernel
theorem dJ9_floorMod_7cf53_4 : decode cJ9_floorMod_7cf53 4 = .ok (.iload_n 0, 1) := by decide +kernel
theorem dJ9_floorMod_7cf53_5 : decode cJ9_floorMod_7cf53 5 = .ok (.iload_n 1, 1) := by decide +kernel
theorem dJ9_floorMod_7cf53_6 : decode cJ9_floorMod_7cf53 6 = .ok (.ixor, 1) := by decide +kernel
theorem dJ9_floorMod_7cf53_7 : decode cJ9_floorMod_7cf53 7 = .ok (.ifCond .ge 11, 3) := by decide +kernel
theorem dJ9_floorMod_7cf53_10 : decode cJ9_floorMod_7cf53 10 = .ok (.iload_n 2, 1) := by decide +kernel
theorem dJ9_floorMod_7cf53_11 : decode cJ9_floorMod_7cf53 11 = .ok (.ifCond .eq 7, 3) := by decide +kernel
theorem dJ9_floorMod_7cf53_14 : decode cJ9_floorMod_7cf53 14 = .ok (.iload_n 2, 1) := by decide +kernel
theorem dJ9_floorMod_7cf53_15 : decode cJ9_floorMod_7cf53 15 = .ok (.iload_n 1, 1) := by decide +kernel
theorem dJ9_floorMod_7cf53_16 : decode cJ9_floorMod_7cf53 16 = .ok (.iadd, 1) := by decide +kernel
theorem dJ9_floorMod_7cf53_17 : decode cJ9_floorMod_7cf53 17 = .ok (.ireturn, 1) := by decide +kernel
theorem dJ9_floorMod_7cf53_18 : decode cJ9_floorMod_7cf53 18 = .ok (.iload_n 2, 1) := by decide +kernel
theorem dJ9_floorMod_7cf53_19 : decode cJ9_floorMod_7cf53 19 = .ok (.ireturn, 1) := by decide +kernel
def wp_J9_floorMod_7cf53 (l0 : Int32) (l1 : Int32) (h : PH) (Q : Int32 → PH → Prop) : Prop := (¬ l1 = 0 ∧ ∀ v2 : Int32, v2 = l0 - l0 / l1 * l1 → ((0 ≤ (l0 ^^^ l1) → Q v2 h) ∧ (¬ (0 ≤ (l0 ^^^ l1)) → ((v2 = 0 → Q v2 h) ∧ (¬ (v2 = 0) → Q (v2 + l1) h)))))
set_option maxHeartbeats 4000000 in
set_option maxRecDepth 100000 in
theorem sn_J9_floorMod_7cf53 (G : GT) (d : Nat) (l0 : Int32) (l1 : Int32) (h : PH) (Q : Int32 → PH → Prop)  (hwp : wp_J9_floorMod_7cf53 l0 l1 h Q) : Mt G (0 + d) 0 0 mJ9_floorMod_7cf53 [.int l0, .int l1] h (qqi Q) := by
  unfold wp_J9_floorMod_7cf53 at hwp
  refine Mt.ofF (by decide +kernel) rfl (Nat.le_of_ble_eq_true rfl) ?_
  have hex := qEx.rf h
  have hnn : qn h = qn h + 0 := rfl
  have hzz : qz h = qz h + 0 := rfl
  refine x_lvE (lv2 := [(0, .int l0), (1, .int l1)]) rfl ?_
  refine x_iload_n (pc := 0) dJ9_floorMod_7cf53_0 rfl ?_
  refine x_iload_n (pc := 1) dJ9_floorMod_7cf53_1 rfl ?_
  obtain ⟨c1, hwp⟩ := hwp
  refine x_irem (pc := 2) dJ9_floorMod_7cf53_2 c1 ?_
  refine x_nmI (fun v2 ev2 => ?_)
  have hwp := hwp v2 ev2
  refine x_istore_n (lv2 := [(2, .int v2), (0, .int l0), (1, .int l1)]) (pc := 3) dJ9_floorMod_7cf53_3 (by decide) rfl ?_
  refine x_iload_n (pc := 4) dJ9_floorMod_7cf53_4 rfl ?_
  refine x_iload_n (pc := 5) dJ9_floorMod_7cf53_5 rfl ?_
  refine x_ixor (pc := 6) dJ9_floorMod_7cf53_6 ?_
  refine x_if_ge (tgt := 18) (pc := 7) dJ9_floorMod_7cf53_7 (by decide) (fun c3 => ?_) (fun c3 => ?_)
  · have hwp := hwp.1 c3
    refine x_iload_n (pc := 18) dJ9_floorMod_7cf53_18 rfl ?_
    exact x_iret (pc := 19) dJ9_floorMod_7cf53_19 rfl hex hnn hzz ⟨_, rfl, hwp⟩
  · have hwp := hwp.2 c3
    refine x_iload_n (pc := 10) dJ9_floorMod_7cf53_10 rfl ?_
    refine x_if_eq (tgt := 18) (pc := 11) dJ9_floorMod_7cf53_11 (by decide) (fun c4 => ?_) (fun c4 => ?_)
    · have hwp := hwp.1 c4
      refine x_iload_n (pc := 18) dJ9_floorMod_7cf53_18 rfl ?_
      exact x_iret (pc := 19) dJ9_floorMod_7cf53_19 rfl hex hnn hzz ⟨_, rfl, hwp⟩
    · have hwp := hwp.2 c4
      refine x_iload_n (pc := 14) dJ9_floorMod_7cf53_14 rfl ?_
      refine x_iload_n (pc := 15) dJ9_floorMod_7cf53_15 rfl ?_
      refine x_iadd (pc := 16) dJ9_floorMod_7cf53_16 ?_
      exact x_iret (pc := 17) dJ9_floorMod_7cf53_17 rfl hex hnn hzz ⟨_, rfl, hwp⟩

theorem dJ9_min_7cf53_0 : decode cJ9_min_7cf53 0 = .ok (.iload_n 0, 1) := by decide +kernel
theorem dJ9_min_7cf53_1 : decode cJ9_min_7cf53 1 = .ok (.iload_n 1, 1) := by decide +kernel
theorem dJ9_min_7cf53_2 : decode cJ9_min_7cf53 2 = .ok (.if_icmp .gt 7, 3) := by decide +kernel
theorem dJ9_min_7cf53_5 : decode cJ9_min_7cf53 5 = .ok (.iload_n 0, 1) := by decide +kernel
theorem dJ9_min_7cf53_6 : decode cJ9_min_7cf53 6 = .ok (.goto 4, 3) := by decide +kernel
theorem dJ9_min_7cf53_9 : decode cJ9_min_7cf53 9 = .ok (.iload_n 1, 1) := by decide +kernel
theorem dJ9_min_7cf53_10 : decode cJ9_min_7cf53 10 = .ok (.ireturn, 1) := by decide +kernel
def wp_J9_min_7cf53 (l0 : Int32) (l1 : Int32) (h : PH) (Q : Int32 → PH → Prop) : Prop := ((l1 < l0 → Q l1 h) ∧ (¬ (l1 < l0) → Q l0 h))
set_option maxHeartbeats 4000000 in
set_option maxRecDepth 100000 in
theorem sn_J9_min_7cf53 (G : GT) (d : Nat) (l0 : Int32) (l1 : Int32) (h : PH) (Q : Int32 → PH → Prop)  (hwp : wp_J9_min_7cf53 l0 l1 h Q) : Mt G (0 + d) 0 0 mJ9_min_7cf53 [.int l0, .int l1] h (qqi Q) := by
  unfold wp_J9_min_7cf53 at hwp
  refine Mt.ofF (by decide +kernel) rfl (Nat.le_of_ble_eq_true rfl) ?_
  have hex := qEx.rf h
  have hnn : qn h = qn h + 0 := rfl
  have hzz : qz h = qz h + 0 := rfl
  refine x_lvE (lv2 := [(0, .int l0), (1, .int l1)]) rfl ?_
  refine x_iload_n (pc := 0) dJ9_min_7cf53_0 rfl ?_
  refine x_iload_n (pc := 1) dJ9_min_7cf53_1 rfl ?_
  refine x_icmp_gt (tgt := 9) (pc := 2) dJ9_min_7cf53_2 (by decide) (fun c1 => ?_) (fun c1 => ?_)
  · have hwp := hwp.1 c1
    refine x_iload_n (pc := 9) dJ9_min_7cf53_9 rfl ?_
    exact x_iret (pc := 10) dJ9_min_7cf53_10 rfl hex hnn hzz ⟨_, rfl, hwp⟩
  · have hwp := hwp.2 c1
    refine x_iload_n (pc := 5) dJ9_min_7cf53_5 rfl ?_
    refine x_goto (tgt := 10) (pc := 6) dJ9_min_7cf53_6 (by decide) ?_
    exact x_iret (pc := 10) dJ9_min_7cf53_10 rfl hex hnn hzz ⟨_, rfl, hwp⟩

theorem dJ9_floorDiv_7cf53_0 : decode cJ9_floorDiv_7cf53 0 = .ok (.iload_n 0, 1) := by decide +kernel
theorem dJ9_floorDiv_7cf53_1 : decode cJ9_floorDiv_7cf53 1 = .ok (.iload_n 1, 1) := by decide +kernel
theorem dJ9_floorDiv_7cf53_2 : decode cJ9_floorDiv_7cf53 2 = .ok (.idiv, 1) := by decide +kernel
theorem dJ9_floorDiv_7cf53_3 : decode cJ9_floorDiv_7cf53 3 = .ok (.istore_n 2, 1) := by decide +kernel
theorem dJ9_floorDiv_7cf53_4 : decode cJ9_floorDiv_7cf53 4 = .ok (.iload_n 0, 1) := by decide +kernel
theorem dJ9_floorDiv_7cf53_5 : decode cJ9_floorDiv_7cf53 5 = .ok (.iload_n 1, 1) := by decide +kernel
theorem dJ9_floorDiv_7cf53_6 : decode cJ9_floorDiv_7cf53 6 = .ok (.ixor, 1) := by decide +kernel
theorem dJ9_floorDiv_7cf53_7 : decode cJ9_floorDiv_7cf53 7 = .ok (.ifCond .ge 14, 3) := by decide +kernel
theorem dJ9_floorDiv_7cf53_10 : decode cJ9_floorDiv_7cf53 10 = .ok (.iload_n 2, 1) := by decide +kernel
theorem dJ9_floorDiv_7cf53_11 : decode cJ9_floorDiv_7cf53 11 = .ok (.iload_n 1, 1) := by decide +kernel
theorem dJ9_floorDiv_7cf53_12 : decode cJ9_floorDiv_7cf53 12 = .ok (.imul, 1) := by decide +kernel
theorem dJ9_floorDiv_7cf53_13 : decode cJ9_floorDiv_7cf53 13 = .ok (.iload_n 0, 1) := by decide +kernel
theorem dJ9_floorDiv_7cf53_14 : decode cJ9_floorDiv_7cf53 14 = .ok (.if_icmp .eq 7, 3) := by decide +kernel
theorem dJ9_floorDiv_7cf53_17 : decode cJ9_floorDiv_7cf53 17 = .ok (.iload_n 2, 1) := by decide +kernel
theorem dJ9_floorDiv_7cf53_18 : decode cJ9_floorDiv_7cf53 18 = .ok (.iconst 1, 1) := by decide +kernel
theorem dJ9_floorDiv_7cf53_19 : decode cJ9_floorDiv_7cf53 19 = .ok (.isub, 1) := by decide +kernel
theorem dJ9_floorDiv_7cf53_20 : decode cJ9_floorDiv_7cf53 20 = .ok (.ireturn, 1) := by decide +kernel
theorem dJ9_floorDiv_7cf53_21 : decode cJ9_floorDiv_7cf53 21 = .ok (.iload_n 2, 1) := by decide +kernel
theorem dJ9_floorDiv_7cf53_22 : decode cJ9_floorDiv_7cf53 22 = .ok (.ireturn, 1) := by decide +kernel
def wp_J9_floorDiv_7cf53 (l0 : Int32) (l1 : Int32) (h : PH) (Q : Int32 → PH → Prop) : Prop := (¬ l1 = 0 ∧ ∀ v2 : Int32, v2 = l0 / l1 → ((0 ≤ (l0 ^^^ l1) → Q v2 h) ∧ (¬ (0 ≤ (l0 ^^^ l1)) → (((v2 * l1) = l0 → Q v2 h) ∧ (¬ ((v2 * l1) = l0) → Q (v2 - 1) h)))))
set_option maxHeartbeats 4000000 in
set_option maxRecDepth 100000 in
theorem sn_J9_floorDiv_7cf53 (G : GT) (d : Nat) (l0 : Int32) (l1 : Int32) (h : PH) (Q : Int32 → PH → Prop)  (hwp : wp_J9_floorDiv_7cf53 l0 l1 h Q) : Mt G (0 + d) 0 0 mJ9_floorDiv_7cf53 [.int l0, .int l1] h (qqi Q) := by
  unfold wp_J9_floorDiv_7cf53 at hwp
  refine Mt.ofF (by decide +kernel) rfl (Nat.le_of_ble_eq_true rfl) ?_
  have hex := qEx.rf h
  have hnn : qn h = qn h + 0 := rfl
  have hzz : qz h = qz h + 0 := rfl
  refine x_lvE (lv2 := [(0, .int l0), (1, .int l1)]) rfl ?_
  refine x_iload_n (pc := 0) dJ9_floorDiv_7cf53_0 rfl ?_
  refine x_iload_n (pc := 1) dJ9_floorDiv_7cf53_1 rfl ?_
  obtain ⟨c1, hwp⟩ := hwp
  refine x_idiv (pc := 2) dJ9_floorDiv_7cf53_2 c1 ?_
  refine x_nmI (fun v2 ev2 => ?_)
  have hwp := hwp v2 ev2
  refine x_istore_n (lv2 := [(2, .int v2), (0, .int l0), (1, .int l1)]) (pc := 3) dJ9_floorDiv_7cf53_3 (by decide) rfl ?_
  refine x_iload_n (pc := 4) dJ9_floorDiv_7cf53_4 rfl ?_
  refine x_iload_n (pc := 5) dJ9_floorDiv_7cf53_5 rfl ?_
  refine x_ixor (pc := 6) dJ9_floorDiv_7cf53_6 ?_
  refine x_if_ge (tgt := 21) (pc := 7) dJ9_floorDiv_7cf53_7 (by decide) (fun c3 => ?_) (fun c3 => ?_)
  · have hwp := hwp.1 c3
    refine x_iload_n (pc := 21) dJ9_floorDiv_7cf53_21 rfl ?_
    exact x_iret (pc := 22) dJ9_floorDiv_7cf53_22 rfl hex hnn hzz ⟨_, rfl, hwp⟩
  · have hwp := hwp.2 c3
    refine x_iload_n (pc := 10) dJ9_floorDiv_7cf53_10 rfl ?_
    refine x_iload_n (pc := 11) dJ9_floorDiv_7cf53_11 rfl ?_
    refine x_imul (pc := 12) dJ9_floorDiv_7cf53_12 ?_
    refine x_iload_n (pc := 13) dJ9_floorDiv_7cf53_13 rfl ?_
    refine x_icmp_eq (tgt := 21) (pc := 14) dJ9_floorDiv_7cf53_14 (by decide) (fun c4 => ?_) (fun c4 => ?_)
    · have hwp := hwp.1 c4
      refine x_iload_n (pc := 21) dJ9_floorDiv_7cf53_21 rfl ?_
      exact x_iret (pc := 22) dJ9_floorDiv_7cf53_22 rfl hex hnn hzz ⟨_, rfl, hwp⟩
    · have hwp := hwp.2 c4
      refine x_iload_n (pc := 17) dJ9_floorDiv_7cf53_17 rfl ?_
      refine x_iconst (v := 1) (pc := 18) dJ9_floorDiv_7cf53_18 (by decide) ?_
      refine x_isub (pc := 19) dJ9_floorDiv_7cf53_19 ?_
      exact x_iret (pc := 20) dJ9_floorDiv_7cf53_20 rfl hex hnn hzz ⟨_, rfl, hwp⟩

theorem dJ6_bitCount_0f7a4_0 : decode cJ6_bitCount_0f7a4 0 = .ok (.iload_n 0, 1) := by decide +kernel
theorem dJ6_bitCount_0f7a4_1 : decode cJ6_bitCount_0f7a4 1 = .ok (.iload_n 0, 1) := by decide +kernel
theorem dJ6_bitCount_0f7a4_2 : decode cJ6_bitCount_0f7a4 2 = .ok (.iconst 1, 1) := by decide +kernel
theorem dJ6_bitCount_0f7a4_3 : decode cJ6_bitCount_0f7a4 3 = .ok (.iushr, 1) := by decide +kernel
theorem dJ6_bitCount_0f7a4_4 : decode cJ6_bitCount_0f7a4 4 = .ok (.ldc_w 265, 3) := by decide +kernel
theorem dJ6_bitCount_0f7a4_7 : decode cJ6_bitCount_0f7a4 7 = .ok (.iand, 1) := by decide +kernel
theorem dJ6_bitCount_0f7a4_8 : decode cJ6_bitCount_0f7a4 8 = .ok (.isub, 1) := by decide +kernel
theorem dJ6_bitCount_0f7a4_9 : decode cJ6_bitCount_0f7a4 9 = .ok (.istore_n 0, 1) := by decide +kernel
theorem dJ6_bitCount_0f7a4_10 : decode cJ6_bitCount_0f7a4 10 = .ok (.iload_n 0, 1) := by decide +kernel
theorem dJ6_bitCount_0f7a4_11 : decode cJ6_bitCount_0f7a4 11 = .ok (.ldc_w 266, 3) := by decide +kernel
theorem dJ6_bitCount_0f7a4_14 : decode cJ6_bitCount_0f7a4 14 = .ok (.iand, 1) := by decide +kernel
theorem dJ6_bitCount_0f7a4_15 : decode cJ6_bitCount_0f7a4 15 = .ok (.iload_n 0, 1) := by decide +kernel
theorem dJ6_bitCount_0f7a4_16 : decode cJ6_bitCount_0f7a4 16 = .ok (.iconst 2, 1) := by decide +kernel
theorem dJ6_bitCount_0f7a4_17 : decode cJ6_bitCount_0f7a4 17 = .ok (.iushr, 1) := by decide +kernel
theorem dJ6_bitCount_0f7a4_18 : decode cJ6_bitCount_0f7a4 18 = .ok (.ldc_w 266, 3) := by decide +kernel
theorem dJ6_bitCount_0f7a4_21 : decode cJ6_bitCount_0f7a4 21 = .ok (.iand, 1) := by decide +kernel
theorem dJ6_bitCount_0f7a4_22 : decode cJ6_bitCount_0f7a4 22 = .ok (.iadd, 1) := by decide +kernel
theorem dJ6_bitCount_0f7a4_23 : decode cJ6_bitCount_0f7a4 23 = .ok (.istore_n 0, 1) := by decide +kernel
theorem dJ6_bitCount_0f7a4_24 : decode cJ6_bitCount_0f7a4 24 = .ok (.iload_n 0, 1) := by decide +kernel
theorem dJ6_bitCount_0f7a4_25 : decode cJ6_bitCount_0f7a4 25 = .ok (.iload_n 0, 1) := by decide +kernel
theorem dJ6_bitCount_0f7a4_26 : decode cJ6_bitCount_0f7a4 26 = .ok (.iconst 4, 1) := by decide +kernel
theorem dJ6_bitCount_0f7a4_27 : decode cJ6_bitCount_0f7a4 27 = .ok (.iushr, 1) := by decide +kernel
theorem dJ6_bitCount_0f7a4_28 : decode cJ6_bitCount_0f7a4 28 = .ok (.iadd, 1) := by decide +kernel
theorem dJ6_bitCount_0f7a4_29 : decode cJ6_bitCount_0f7a4 29 = .ok (.ldc_w 267, 3) := by decide +kernel
theorem dJ6_bitCount_0f7a4_32 : decode cJ6_bitCount_0f7a4 32 = .ok (.iand, 1) := by decide +kernel
theorem dJ6_bitCount_0f7a4_33 : decode cJ6_bitCount_0f7a4 33 = .ok (.istore_n 0, 1) := by decide +kernel
theorem dJ6_bitCount_0f7a4_34 : decode cJ6_bitCount_0f7a4 34 = .ok (.iload_n 0, 1) := by decide +kernel
theorem dJ6_bitCount_0f7a4_35 : decode cJ6_bitCount_0f7a4 35 = .ok (.iload_n 0, 1) := by decide +kernel
theorem dJ6_bitCount_0f7a4_36 : decode cJ6_bitCount_0f7a4 36 = .ok (.bipush 8, 2) := by decide +kernel
theorem dJ6_bitCount_0f7a4_38 : decode cJ6_bitCount_0f7a4 38 = .ok (.iushr, 1) := by decide +kernel
theorem dJ6_bitCount_0f7a4_39 : decode cJ6_bitCount_0f7a4 39 = .ok (.iadd, 1) := by decide +kernel
theorem dJ6_bitCount_0f7a4_40 : decode cJ6_bitCount_0f7a4 40 = .ok (.istore_n 0, 1) := by decide +kernel
theorem dJ6_bitCount_0f7a4_41 : decode cJ6_bitCount_0f7a4 41 = .ok (.iload_n 0, 1) := by decide +kernel
theorem dJ6_bitCount_0f7a4_42 : decode cJ6_bitCount_0f7a4 42 = .ok (.iload_n 0, 1) := by decide +kernel
theorem dJ6_bitCount_0f7a4_43 : decode cJ6_bitCount_0f7a4 43 = .ok (.bipush 16, 2) := by decide +kernel
theorem dJ6_bitCount_0f7a4_45 : decode cJ6_bitCount_0f7a4 45 = .ok (.iushr, 1) := by decide +kernel
theorem dJ6_bitCount_0f7a4_46 : decode cJ6_bitCount_0f7a4 46 = .ok (.iadd, 1) := by decide +kernel
theorem dJ6_bitCount_0f7a4_47 : decode cJ6_bitCount_0f7a4 47 = .ok (.istore_n 0, 1) := by decide +kernel
theorem dJ6_bitCount_0f7a4_48 : decode cJ6_bitCount_0f7a4 48 = .ok (.iload_n 0, 1) := by decide +kernel
theorem dJ6_bitCount_0f7a4_49 : decode cJ6_bitCount_0f7a4 49 = .ok (.bipush 63, 2) := by decide +kernel
theorem dJ6_bitCount_0f7a4_51 : decode cJ6_bitCount_0f7a4 51 = .ok (.iand, 1) := by decide +kernel
theorem dJ6_bitCount_0f7a4_52 : decode cJ6_bitCount_0f7a4 52 = .ok (.ireturn, 1) := by decide +kernel
def wp_J6_bitCount_0f7a4 (l0 : Int32) (h : PH) (Q : Int32 → PH → Prop) : Prop := ∀ v1 : Int32, v1 = l0 - ((q_ushr l0 1) &&& 1431655765) → ∀ v2 : Int32, v2 = (v1 &&& 858993459) + ((q_ushr v1 2) &&& 858993459) → ∀ v3 : Int32, v3 = (v2 + (q_ushr v2 4)) &&& 252645135 → ∀ v4 : Int32, v4 = v3 + (q_ushr v3 8) → ∀ v5 : Int32, v5 = v4 + (q_ushr v4 16) → Q (v5 &&& 63) h
set_option maxHeartbeats 4000000 in
set_option maxRecDepth 100000 in
theorem sn_J6_bitCount_0f7a4 (G : GT) (d : Nat) (l0 : Int32) (h : PH) (Q : Int32 → PH → Prop)  (hwp : wp_J6_bitCount_0f7a4 l0 h Q) : Mt G (0 + d) 0 0 mJ6_bitCount_0f7a4 [.int l0] h (qqi Q) := by
  unfold wp_J6_bitCount_0f7a4 at hwp
  refine Mt.of (by decide) rfl (Nat.le_of_ble_eq_true rfl) ?_
  have hex := qEx.rf h
  have hnn : qn h = qn h + 0 := rfl
  have hzz : qz h = qz h + 0 := rfl
  refine x_lvE (lv2 := [(0, .int l0)]) rfl ?_
  refine x_iload_n (pc := 0) dJ6_bitCount_0f7a4_0 rfl ?_
  refine x_iload_n (pc := 1) dJ6_bitCount_0f7a4_1 rfl ?_
  refine x_iconst (v := 1) (pc := 2) dJ6_bitCount_0f7a4_2 (by decide) ?_
  refine x_iushr (pc := 3) dJ6_bitCount_0f7a4_3 ?_
  refine x_ldcw (v := 1431655765) (pc := 4) dJ6_bitCount_0f7a4_4 kRJ6_265 ?_
  refine x_iand (pc := 7) dJ6_bitCount_0f7a4_7 ?_
  refine x_isub (pc := 8) dJ6_bitCount_0f7a4_8 ?_
  refine x_nmI (fun v1 ev1 => ?_)
  have hwp := hwp v1 ev1
  refine x_istore_n (lv2 := [(0, .int v1)]) (pc := 9) dJ6_bitCount_0f7a4_9 (by decide) rfl ?_
  refine x_iload_n (pc := 10) dJ6_bitCount_0f7a4_10 rfl ?_
  refine x_ldcw (v := 858993459) (pc := 11) dJ6_bitCount_0f7a4_11 kRJ6_266 ?_
  refine x_iand (pc := 14) dJ6_bitCount_0f7a4_14 ?_
  refine x_iload_n (pc := 15) dJ6_bitCount_0f7a4_15 rfl ?_
  refine x_iconst (v := 2) (pc := 16) dJ6_bitCount_0f7a4_16 (by decide) ?_
  refine x_iushr (pc := 17) dJ6_bitCount_0f7a4_17 ?_
  refine x_ldcw (v := 858993459) (pc := 18) dJ6_bitCount_0f7a4_18 kRJ6_266 ?_
  refine x_iand (pc := 21) dJ6_bitCount_0f7a4_21 ?_
  refine x_iadd (pc := 22) dJ6_bitCount_0f7a4_22 ?_
  refine x_nmI (fun v2 ev2 => ?_)
  have hwp := hwp v2 ev2
  refine x_istore_n (lv2 := [(0, .int v2)]) (pc := 23) dJ6_bitCount_0f7a4_23 (by decide) rfl ?_
  refine x_iload_n (pc := 24) dJ6_bitCount_0f7a4_24 rfl ?_
  refine x_iload_n (pc := 25) dJ6_bitCount_0f7a4_25 rfl ?_
  refine x_iconst (v := 4) (pc := 26) dJ6_bitCount_0f7a4_26 (by decide) ?_
  refine x_iushr (pc := 27) dJ6_bitCount_0f7a4_27 ?_
  refine x_iadd (pc := 28) dJ6_bitCount_0f7a4_28 ?_
  refine x_ldcw (v := 252645135) (pc := 29) dJ6_bitCount_0f7a4_29 kRJ6_267 ?_
  refine x_iand (pc := 32) dJ6_bitCount_0f7a4_32 ?_
  refine x_nmI (fun v3 ev3 => ?_)
  have hwp := hwp v3 ev3
  refine x_istore_n (lv2 := [(0, .int v3)]) (pc := 33) dJ6_bitCount_0f7a4_33 (by decide) rfl ?_
  refine x_iload_n (pc := 34) dJ6_bitCount_0f7a4_34 rfl ?_
  refine x_iload_n (pc := 35) dJ6_bitCount_0f7a4_35 rfl ?_
  refine x_bipush (v := 8) (pc := 36) dJ6_bitCount_0f7a4_36 (by decide) ?_
  refine x_iushr (pc := 38) dJ6_bitCount_0f7a4_38 ?_
  refine x_iadd (pc := 39) dJ6_bitCount_0f7a4_39 ?_
  refine x_nmI (fun v4 ev4 => ?_)
  have hwp := hwp v4 ev4
  refine x_istore_n (lv2 := [(0, .int v4)]) (pc := 40) dJ6_bitCount_0f7a4_40 (by decide) rfl ?_
  refine x_iload_n (pc := 41) dJ6_bitCount_0f7a4_41 rfl ?_
  refine x_iload_n (pc := 42) dJ6_bitCount_0f7a4_42 rfl ?_
  refine x_bipush (v := 16) (pc := 43) dJ6_bitCount_0f7a4_43 (by decide) ?_
  refine x_iushr (pc := 45) dJ6_bitCount_0f7a4_45 ?_
  refine x_iadd (pc := 46) dJ6_bitCount_0f7a4_46 ?_
  refine x_nmI (fun v5 ev5 => ?_)
  have hwp := hwp v5 ev5
  refine x_istore_n (lv2 := [(0, .int v5)]) (pc := 47) dJ6_bitCount_0f7a4_47 (by decide) rfl ?_
  refine x_iload_n (pc := 48) dJ6_bitCount_0f7a4_48 rfl ?_
  refine x_bipush (v := 63) (pc := 49) dJ6_bitCount_0f7a4_49 (by decide) ?_
  refine x_iand (pc := 51) dJ6_bitCount_0f7a4_51 ?_
  exact x_iret (pc := 52) dJ6_bitCount_0f7a4_52 rfl hex hnn hzz ⟨_, rfl, hwp⟩

theorem dJ9_abs_0f7a4_0 : decode cJ9_abs_0f7a4 0 = .ok (.iload_n 0, 1) := by decide +kernel
theorem dJ9_abs_0f7a4_1 : decode cJ9_abs_0f7a4 1 = .ok (.ifCond .ge 8, 3) := by decide +kernel
theorem dJ9_abs_0f7a4_4 : decode cJ9_abs_0f7a4 4 = .ok (.iload_n 0, 1) := by decide +kernel
theorem dJ9_abs_0f7a4_5 : decode cJ9_abs_0f7a4 5 = .ok (.ineg, 1) := by decide +kernel
theorem dJ9_abs_0f7a4_6 : decode cJ9_abs_0f7a4 6 = .ok (.goto 4, 3) := by decide +kernel
theorem dJ9_abs_0f7a4_9 : decode cJ9_abs_0f7a4 9 = .ok (.iload_n 0, 1) := by decide +kernel
theorem dJ9_abs_0f7a4_10 : decode cJ9_abs_0f7a4 10 = .ok (.ireturn, 1) := by decide +kernel
def wp_J9_abs_0f7a4 (l0 : Int32) (h : PH) (Q : Int32 → PH → Prop) : Prop := ((0 ≤ l0 → Q l0 h) ∧ (¬ (0 ≤ l0) → Q (-l0) h))
set_option maxHeartbeats 4000000 in
set_option maxRecDepth 100000 in
theorem sn_J9_abs_0f7a4 (G : GT) (d : Nat) (l0 : Int32) (h : PH) (Q : Int32 → PH → Prop)  (hwp : wp_J9_abs_0f7a4 l0 h Q) : Mt G (0 + d) 0 0 mJ9_abs_0f7a4 [.int l0] h (qqi Q) := by
  unfold wp_J9_abs_0f7a4 at hwp
  refine Mt.ofF (by decide +kernel) rfl (Nat.le_of_ble_eq_true rfl) ?_
  have hex := qEx.rf h
  have hnn : qn h = qn h + 0 := rfl
  have hzz : qz h = qz h + 0 := rfl
  refine x_lvE (lv2 := [(0, .int l0)]) rfl ?_
  refine x_iload_n (pc := 0) dJ9_abs_0f7a4_0 rfl ?_
  refine x_if_ge (tgt := 9) (pc := 1) dJ9_abs_0f7a4_1 (by decide) (fun c1 => ?_) (fun c1 => ?_)
  · have hwp := hwp.1 c1
    refine x_iload_n (pc := 9) dJ9_abs_0f7a4_9 rfl ?_
    exact x_iret (pc := 10) dJ9_abs_0f7a4_10 rfl hex hnn hzz ⟨_, rfl, hwp⟩
  · have hwp := hwp.2 c1
    refine x_iload_n (pc := 4) dJ9_abs_0f7a4_4 rfl ?_
    refine x_ineg (pc := 5) dJ9_abs_0f7a4_5 ?_
    refine x_goto (tgt := 10) (pc := 6) dJ9_abs_0f7a4_6 (by decide) ?_
    exact x_iret (pc := 10) dJ9_abs_0f7a4_10 rfl hex hnn hzz ⟨_, rfl, hwp⟩

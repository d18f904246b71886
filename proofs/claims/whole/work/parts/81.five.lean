/-! ===== the five methods that throw, and the law's helpers that catch ===== -/
set_option maxRecDepth 50000 in
theorem clRL_13 : Cond.classLink RL 13 "java/util/NoSuchElementException" ∈ qw_good := qw_g 1138 rfl rfl
set_option maxRecDepth 50000 in
theorem itRL : Cond.initialized RL ∈ qw_good := qw_g 103 rfl rfl
abbrev mL_place : MI := (RL, cL_place, 5, (some .int), yL_place)
set_option maxRecDepth 50000 in
theorem sL_place : Cond.static yL_place ∈ qw_good := qw_g 1136 rfl rfl
set_option maxRecDepth 50000 in
theorem cwL_place : Cond.codeWith mL_place.2.2.2.2 mL_place.2.1 mL_place.2.2.1 mL_place.2.2.2.1 [(0, 10, 13, 13)] ∈ qw_good := qw_g 1137 rfl rfl
set_option maxRecDepth 50000 in
theorem dsL_place : mL_place.2.2.2.2.cls ≠ "java/lang/invoke/MethodHandle" ∧ mL_place.2.2.2.2.cls ≠ "java/lang/invoke/VarHandle" ∧ (parseMethodDescriptor mL_place.2.2.2.2.desc).map (fun d => d.parameters.length) = some 4 := ⟨by decide +kernel, by decide +kernel, by decide +kernel⟩
set_option maxRecDepth 50000 in
theorem lRL_7 : Cond.methodLink RL 7 yX11_place ∈ qw_good := qw_g 1139 rfl rfl
abbrev mL_energy : MI := (RL, cL_energy, 5, (some .int), yL_energy)
set_option maxRecDepth 50000 in
theorem sL_energy : Cond.static yL_energy ∈ qw_good := qw_g 1214 rfl rfl
set_option maxRecDepth 50000 in
theorem cwL_energy : Cond.codeWith mL_energy.2.2.2.2 mL_energy.2.1 mL_energy.2.2.1 mL_energy.2.2.2.1 [(0, 10, 13, 13)] ∈ qw_good := qw_g 1215 rfl rfl
set_option maxRecDepth 50000 in
theorem dsL_energy : mL_energy.2.2.2.2.cls ≠ "java/lang/invoke/MethodHandle" ∧ mL_energy.2.2.2.2.cls ≠ "java/lang/invoke/VarHandle" ∧ (parseMethodDescriptor mL_energy.2.2.2.2.desc).map (fun d => d.parameters.length) = some 4 := ⟨by decide +kernel, by decide +kernel, by decide +kernel⟩
set_option maxRecDepth 50000 in
theorem lRL_15 : Cond.methodLink RL 15 yX11_energy ∈ qw_good := qw_g 1216 rfl rfl
abbrev mL_gives : MI := (RL, cL_gives, 6, (some .int), yL_gives)
set_option maxRecDepth 50000 in
theorem sL_gives : Cond.static yL_gives ∈ qw_good := qw_g 1223 rfl rfl
set_option maxRecDepth 50000 in
theorem cwL_gives : Cond.codeWith mL_gives.2.2.2.2 mL_gives.2.1 mL_gives.2.2.1 mL_gives.2.2.2.1 [(0, 12, 15, 13)] ∈ qw_good := qw_g 1224 rfl rfl
set_option maxRecDepth 50000 in
theorem dsL_gives : mL_gives.2.2.2.2.cls ≠ "java/lang/invoke/MethodHandle" ∧ mL_gives.2.2.2.2.cls ≠ "java/lang/invoke/VarHandle" ∧ (parseMethodDescriptor mL_gives.2.2.2.2.desc).map (fun d => d.parameters.length) = some 5 := ⟨by decide +kernel, by decide +kernel, by decide +kernel⟩
set_option maxRecDepth 50000 in
theorem lRL_18 : Cond.methodLink RL 18 yX11_gives ∈ qw_good := qw_g 1225 rfl rfl
abbrev mL_sum : MI := (RL, cL_sum, 5, (some .int), yL_sum)
set_option maxRecDepth 50000 in
theorem sL_sum : Cond.static yL_sum ∈ qw_good := qw_g 1232 rfl rfl
set_option maxRecDepth 50000 in
theorem cwL_sum : Cond.codeWith mL_sum.2.2.2.2 mL_sum.2.1 mL_sum.2.2.1 mL_sum.2.2.2.1 [(0, 10, 13, 13)] ∈ qw_good := qw_g 1233 rfl rfl
set_option maxRecDepth 50000 in
theorem dsL_sum : mL_sum.2.2.2.2.cls ≠ "java/lang/invoke/MethodHandle" ∧ mL_sum.2.2.2.2.cls ≠ "java/lang/invoke/VarHandle" ∧ (parseMethodDescriptor mL_sum.2.2.2.2.desc).map (fun d => d.parameters.length) = some 4 := ⟨by decide +kernel, by decide +kernel, by decide +kernel⟩
set_option maxRecDepth 50000 in
theorem lRL_22 : Cond.methodLink RL 22 yX11_sum ∈ qw_good := qw_g 1234 rfl rfl
abbrev mL_value : MI := (RL, cL_value, 5, (some .int), yL_value)
set_option maxRecDepth 50000 in
theorem sL_value : Cond.static yL_value ∈ qw_good := qw_g 1240 rfl rfl
set_option maxRecDepth 50000 in
theorem cwL_value : Cond.codeWith mL_value.2.2.2.2 mL_value.2.1 mL_value.2.2.1 mL_value.2.2.2.1 [(0, 10, 13, 13)] ∈ qw_good := qw_g 1241 rfl rfl
set_option maxRecDepth 50000 in
theorem dsL_value : mL_value.2.2.2.2.cls ≠ "java/lang/invoke/MethodHandle" ∧ mL_value.2.2.2.2.cls ≠ "java/lang/invoke/VarHandle" ∧ (parseMethodDescriptor mL_value.2.2.2.2.desc).map (fun d => d.parameters.length) = some 4 := ⟨by decide +kernel, by decide +kernel, by decide +kernel⟩
set_option maxRecDepth 50000 in
theorem lRL_25 : Cond.methodLink RL 25 yX11_value ∈ qw_good := qw_g 1242 rfl rfl
theorem dX11_place_0 : decode cX11_place 0 = .ok (.aload_n 0, 1) := by decide +kernel
theorem dX11_place_1 : decode cX11_place 1 = .ok (.iload_n 1, 1) := by decide +kernel
theorem dX11_place_2 : decode cX11_place 2 = .ok (.invokevirtual 130, 3) := by decide +kernel
theorem dX11_place_5 : decode cX11_place 5 = .ok (.ifCond .eq 11, 3) := by decide +kernel
theorem dX11_place_8 : decode cX11_place 8 = .ok (.aload_n 0, 1) := by decide +kernel
theorem dX11_place_9 : decode cX11_place 9 = .ok (.iload_n 2, 1) := by decide +kernel
theorem dX11_place_10 : decode cX11_place 10 = .ok (.invokevirtual 134, 3) := by decide +kernel
theorem dX11_place_13 : decode cX11_place 13 = .ok (.ifCond .ne 13, 3) := by decide +kernel
theorem dX11_place_16 : decode cX11_place 16 = .ok (.new 137, 3) := by decide +kernel
theorem dX11_place_19 : decode cX11_place 19 = .ok (.dup, 1) := by decide +kernel
theorem dX11_place_20 : decode cX11_place 20 = .ok (.ldc 139, 2) := by decide +kernel
theorem dX11_place_22 : decode cX11_place 22 = .ok (.invokespecial 141, 3) := by decide +kernel
theorem dX11_place_25 : decode cX11_place 25 = .ok (.athrow, 1) := by decide +kernel
theorem dX11_place_26 : decode cX11_place 26 = .ok (.aload_n 0, 1) := by decide +kernel
theorem dX11_place_27 : decode cX11_place 27 = .ok (.getfield 70, 3) := by decide +kernel
theorem dX11_place_30 : decode cX11_place 30 = .ok (.getfield 144, 3) := by decide +kernel
theorem dX11_place_33 : decode cX11_place 33 = .ok (.iload_n 1, 1) := by decide +kernel
theorem dX11_place_34 : decode cX11_place 34 = .ok (.aaload, 1) := by decide +kernel
theorem dX11_place_35 : decode cX11_place 35 = .ok (.iload_n 2, 1) := by decide +kernel
theorem dX11_place_36 : decode cX11_place 36 = .ok (.aload_n 0, 1) := by decide +kernel
theorem dX11_place_37 : decode cX11_place 37 = .ok (.getfield 70, 3) := by decide +kernel
theorem dX11_place_40 : decode cX11_place 40 = .ok (.getfield 148, 3) := by decide +kernel
theorem dX11_place_43 : decode cX11_place 43 = .ok (.invokevirtual 151, 3) := by decide +kernel
theorem dX11_place_46 : decode cX11_place 46 = .ok (.ireturn, 1) := by decide +kernel
def wp_X11_place (l0 : Nat) (l1 : Int32) (l2 : Int32) (h : PH) (Q : Int32 → PH → Prop) : Prop := (wp_X11_isPart l0 l1 h (fun r2 h1 => ((r2 = 0 → False) ∧ (¬ (r2 = 0) → (wp_X11_isPlace l0 l2 h1 (fun r5 h4 => ((¬ r5 = 0 → (∃ b7, qR h4 l0 10 = some b7 ∧ (∃ b9, qR h4 b7 0 = some b9 ∧ (vp_in l1 (qL h4 b9) ∧ ∃ b12, qR h4 b9 l1.toNatClampNeg = some b12 ∧ (∃ b14, qR h4 l0 10 = some b14 ∧ (wp_X4_placeAt b12 l2 (qI h4 b14 2) h4 (fun r17 h16 => Q r17 h16))))))) ∧ (r5 = 0 → False))))))))
set_option maxHeartbeats 4000000 in
set_option maxRecDepth 100000 in
theorem sn_X11_place (G : GT) (d : Nat) (l0 : Nat) (l1 : Int32) (l2 : Int32) (h : PH) (Q : Int32 → PH → Prop) (okl0 : qOK h 10 l0) (hwp : wp_X11_place l0 l1 l2 h Q) : Mt G (1 + d) 0 0 mX11_place [.ref l0, .int l1, .int l2] h (qqi Q) := by
  unfold wp_X11_place at hwp
  refine Mt.of (by decide) rfl (Nat.le_of_ble_eq_true rfl) ?_
  have hex := qEx.rf h
  have hnn : qn h = qn h + 0 := rfl
  have hzz : qz h = qz h + 0 := rfl
  refine x_lvE (lv2 := [(0, .ref l0), (1, .int l1), (2, .int l2)]) rfl ?_
  refine x_aload_n (pc := 0) dX11_place_0 rfl ?_
  refine x_iload_n (pc := 1) dX11_place_1 rfl ?_
  refine x_invV (As := [.int l1]) (st := []) (pc := 2) dX11_place_2 lRX11_130 fX11_isPart vX11_isPart okl0 rfl (Nat.le_of_ble_eq_true rfl) (q_R (by omega) (by decide)) (q_C hnn hzz (by decide) (by decide)) (sn_X11_isPart G (d + 0) l0 l1 h _ okl0 hwp) (k_b (fun r2 h1 hwp zbr2 cxh1 => ?_))
  have hex := hex.tr cxh1.1
  have hnn : qn h1 = qn h + 0 := by have := cxh1.2.1; omega
  have hzz : qz h1 = qz h + 0 := by have := cxh1.2.2; omega
  have okl0 := okl0.ex cxh1.1
  refine x_if_eq (tgt := 16) (pc := 5) dX11_place_5 (by decide) (fun c3 => ?_) (fun c3 => ?_)
  · have hwp := hwp.1 c3
    exact absurd hwp (fun w => w)
  · have hwp := hwp.2 c3
    refine x_aload_n (pc := 8) dX11_place_8 rfl ?_
    refine x_iload_n (pc := 9) dX11_place_9 rfl ?_
    refine x_invV (As := [.int l2]) (st := []) (pc := 10) dX11_place_10 lRX11_134 fX11_isPlace vX11_isPlace okl0 rfl (Nat.le_of_ble_eq_true rfl) (q_R (by omega) (by decide)) (q_C hnn hzz (by decide) (by decide)) (sn_X11_isPlace G (d + 0) l0 l2 h1 _ okl0 hwp) (k_b (fun r5 h4 hwp zbr5 cxh4 => ?_))
    have hex := hex.tr cxh4.1
    have hnn : qn h4 = qn h + 0 := by have := cxh4.2.1; omega
    have hzz : qz h4 = qz h + 0 := by have := cxh4.2.2; omega
    have okl0 := okl0.ex cxh4.1
    refine x_if_ne (tgt := 26) (pc := 13) dX11_place_13 (by decide) (fun c6 => ?_) (fun c6 => ?_)
    · have hwp := hwp.1 c6
      refine x_aload_n (pc := 26) dX11_place_26 rfl ?_
      obtain ⟨b7, e8, hwp⟩ := hwp
      refine x_getR (pc := 27) dX11_place_27 qRX11_70 okl0 e8 (fun okb7 => ?_)
      obtain ⟨b9, e10, hwp⟩ := hwp
      refine x_getR (pc := 30) dX11_place_30 qRX11_144 okb7 e10 (fun okb9 => ?_)
      refine x_iload_n (pc := 33) dX11_place_33 rfl ?_
      obtain ⟨i11, b12, e13, hwp⟩ := hwp
      refine x_aaload (t := 18) (pc := 34) dX11_place_34 okb9 (by decide) i11 e13 (fun okb12 => ?_)
      refine x_iload_n (pc := 35) dX11_place_35 rfl ?_
      refine x_aload_n (pc := 36) dX11_place_36 rfl ?_
      obtain ⟨b14, e15, hwp⟩ := hwp
      refine x_getR (pc := 37) dX11_place_37 qRX11_70 okl0 e15 (fun okb14 => ?_)
      refine x_getI (pc := 40) dX11_place_40 qRX11_148 okb14 (by decide) ?_
      refine x_invV (As := [.int l2, .int (qI h4 b14 2)]) (st := []) (pc := 43) dX11_place_43 lRX11_151 fX4_placeAt vX4_placeAt okb12 rfl (Nat.le_of_ble_eq_true rfl) (q_R (by omega) (by decide)) (q_C hnn hzz (by decide) (by decide)) (sn_X4_placeAt G (d + 0) b12 l2 (qI h4 b14 2) h4 _ okb12 hwp) (k_i (fun r17 h16 hwp cxh16 => ?_))
      have hex := hex.tr cxh16.1
      have hnn : qn h16 = qn h + 0 := by have := cxh16.2.1; omega
      have hzz : qz h16 = qz h + 0 := by have := cxh16.2.2; omega
      have okl0 := okl0.ex cxh16.1
      have okb7 := okb7.ex cxh16.1
      have okb9 := okb9.ex cxh16.1
      have okb12 := okb12.ex cxh16.1
      have okb14 := okb14.ex cxh16.1
      exact x_iret (pc := 46) dX11_place_46 rfl hex hnn hzz ⟨_, rfl, hwp⟩
    · have hwp := hwp.2 c6
      exact absurd hwp (fun w => w)

theorem dX11_energy_0 : decode cX11_energy 0 = .ok (.aload_n 0, 1) := by decide +kernel
theorem dX11_energy_1 : decode cX11_energy 1 = .ok (.iload_n 1, 1) := by decide +kernel
theorem dX11_energy_2 : decode cX11_energy 2 = .ok (.invokevirtual 130, 3) := by decide +kernel
theorem dX11_energy_5 : decode cX11_energy 5 = .ok (.ifCond .eq 11, 3) := by decide +kernel
theorem dX11_energy_8 : decode cX11_energy 8 = .ok (.aload_n 0, 1) := by decide +kernel
theorem dX11_energy_9 : decode cX11_energy 9 = .ok (.iload_n 2, 1) := by decide +kernel
theorem dX11_energy_10 : decode cX11_energy 10 = .ok (.invokevirtual 134, 3) := by decide +kernel
theorem dX11_energy_13 : decode cX11_energy 13 = .ok (.ifCond .ne 13, 3) := by decide +kernel
theorem dX11_energy_16 : decode cX11_energy 16 = .ok (.new 137, 3) := by decide +kernel
theorem dX11_energy_19 : decode cX11_energy 19 = .ok (.dup, 1) := by decide +kernel
theorem dX11_energy_20 : decode cX11_energy 20 = .ok (.ldc 157, 2) := by decide +kernel
theorem dX11_energy_22 : decode cX11_energy 22 = .ok (.invokespecial 141, 3) := by decide +kernel
theorem dX11_energy_25 : decode cX11_energy 25 = .ok (.athrow, 1) := by decide +kernel
theorem dX11_energy_26 : decode cX11_energy 26 = .ok (.aload_n 0, 1) := by decide +kernel
theorem dX11_energy_27 : decode cX11_energy 27 = .ok (.getfield 70, 3) := by decide +kernel
theorem dX11_energy_30 : decode cX11_energy 30 = .ok (.getfield 144, 3) := by decide +kernel
theorem dX11_energy_33 : decode cX11_energy 33 = .ok (.iload_n 1, 1) := by decide +kernel
theorem dX11_energy_34 : decode cX11_energy 34 = .ok (.aaload, 1) := by decide +kernel
theorem dX11_energy_35 : decode cX11_energy 35 = .ok (.iload_n 2, 1) := by decide +kernel
theorem dX11_energy_36 : decode cX11_energy 36 = .ok (.aload_n 0, 1) := by decide +kernel
theorem dX11_energy_37 : decode cX11_energy 37 = .ok (.getfield 70, 3) := by decide +kernel
theorem dX11_energy_40 : decode cX11_energy 40 = .ok (.getfield 148, 3) := by decide +kernel
theorem dX11_energy_43 : decode cX11_energy 43 = .ok (.invokevirtual 159, 3) := by decide +kernel
theorem dX11_energy_46 : decode cX11_energy 46 = .ok (.ireturn, 1) := by decide +kernel
def wp_X11_energy (l0 : Nat) (l1 : Int32) (l2 : Int32) (h : PH) (Q : Int32 → PH → Prop) : Prop := (wp_X11_isPart l0 l1 h (fun r2 h1 => ((r2 = 0 → False) ∧ (¬ (r2 = 0) → (wp_X11_isPlace l0 l2 h1 (fun r5 h4 => ((¬ r5 = 0 → (∃ b7, qR h4 l0 10 = some b7 ∧ (∃ b9, qR h4 b7 0 = some b9 ∧ (vp_in l1 (qL h4 b9) ∧ ∃ b12, qR h4 b9 l1.toNatClampNeg = some b12 ∧ (∃ b14, qR h4 l0 10 = some b14 ∧ (wp_X4_energyAt b12 l2 (qI h4 b14 2) h4 (fun r17 h16 => Q r17 h16))))))) ∧ (r5 = 0 → False))))))))
set_option maxHeartbeats 4000000 in
set_option maxRecDepth 100000 in
theorem sn_X11_energy (G : GT) (d : Nat) (l0 : Nat) (l1 : Int32) (l2 : Int32) (h : PH) (Q : Int32 → PH → Prop) (okl0 : qOK h 10 l0) (hwp : wp_X11_energy l0 l1 l2 h Q) : Mt G (3 + d) 0 0 mX11_energy [.ref l0, .int l1, .int l2] h (qqi Q) := by
  unfold wp_X11_energy at hwp
  refine Mt.of (by decide) rfl (Nat.le_of_ble_eq_true rfl) ?_
  have hex := qEx.rf h
  have hnn : qn h = qn h + 0 := rfl
  have hzz : qz h = qz h + 0 := rfl
  refine x_lvE (lv2 := [(0, .ref l0), (1, .int l1), (2, .int l2)]) rfl ?_
  refine x_aload_n (pc := 0) dX11_energy_0 rfl ?_
  refine x_iload_n (pc := 1) dX11_energy_1 rfl ?_
  refine x_invV (As := [.int l1]) (st := []) (pc := 2) dX11_energy_2 lRX11_130 fX11_isPart vX11_isPart okl0 rfl (Nat.le_of_ble_eq_true rfl) (q_R (by omega) (by decide)) (q_C hnn hzz (by decide) (by decide)) (sn_X11_isPart G (d + 2) l0 l1 h _ okl0 hwp) (k_b (fun r2 h1 hwp zbr2 cxh1 => ?_))
  have hex := hex.tr cxh1.1
  have hnn : qn h1 = qn h + 0 := by have := cxh1.2.1; omega
  have hzz : qz h1 = qz h + 0 := by have := cxh1.2.2; omega
  have okl0 := okl0.ex cxh1.1
  refine x_if_eq (tgt := 16) (pc := 5) dX11_energy_5 (by decide) (fun c3 => ?_) (fun c3 => ?_)
  · have hwp := hwp.1 c3
    exact absurd hwp (fun w => w)
  · have hwp := hwp.2 c3
    refine x_aload_n (pc := 8) dX11_energy_8 rfl ?_
    refine x_iload_n (pc := 9) dX11_energy_9 rfl ?_
    refine x_invV (As := [.int l2]) (st := []) (pc := 10) dX11_energy_10 lRX11_134 fX11_isPlace vX11_isPlace okl0 rfl (Nat.le_of_ble_eq_true rfl) (q_R (by omega) (by decide)) (q_C hnn hzz (by decide) (by decide)) (sn_X11_isPlace G (d + 2) l0 l2 h1 _ okl0 hwp) (k_b (fun r5 h4 hwp zbr5 cxh4 => ?_))
    have hex := hex.tr cxh4.1
    have hnn : qn h4 = qn h + 0 := by have := cxh4.2.1; omega
    have hzz : qz h4 = qz h + 0 := by have := cxh4.2.2; omega
    have okl0 := okl0.ex cxh4.1
    refine x_if_ne (tgt := 26) (pc := 13) dX11_energy_13 (by decide) (fun c6 => ?_) (fun c6 => ?_)
    · have hwp := hwp.1 c6
      refine x_aload_n (pc := 26) dX11_energy_26 rfl ?_
      obtain ⟨b7, e8, hwp⟩ := hwp
      refine x_getR (pc := 27) dX11_energy_27 qRX11_70 okl0 e8 (fun okb7 => ?_)
      obtain ⟨b9, e10, hwp⟩ := hwp
      refine x_getR (pc := 30) dX11_energy_30 qRX11_144 okb7 e10 (fun okb9 => ?_)
      refine x_iload_n (pc := 33) dX11_energy_33 rfl ?_
      obtain ⟨i11, b12, e13, hwp⟩ := hwp
      refine x_aaload (t := 18) (pc := 34) dX11_energy_34 okb9 (by decide) i11 e13 (fun okb12 => ?_)
      refine x_iload_n (pc := 35) dX11_energy_35 rfl ?_
      refine x_aload_n (pc := 36) dX11_energy_36 rfl ?_
      obtain ⟨b14, e15, hwp⟩ := hwp
      refine x_getR (pc := 37) dX11_energy_37 qRX11_70 okl0 e15 (fun okb14 => ?_)
      refine x_getI (pc := 40) dX11_energy_40 qRX11_148 okb14 (by decide) ?_
      refine x_invV (As := [.int l2, .int (qI h4 b14 2)]) (st := []) (pc := 43) dX11_energy_43 lRX11_159 fX4_energyAt vX4_energyAt okb12 rfl (Nat.le_of_ble_eq_true rfl) (q_R (by omega) (by decide)) (q_C hnn hzz (by decide) (by decide)) (sn_X4_energyAt G (d + 0) b12 l2 (qI h4 b14 2) h4 _ okb12 hwp) (k_i (fun r17 h16 hwp cxh16 => ?_))
      have hex := hex.tr cxh16.1
      have hnn : qn h16 = qn h + 0 := by have := cxh16.2.1; omega
      have hzz : qz h16 = qz h + 0 := by have := cxh16.2.2; omega
      have okl0 := okl0.ex cxh16.1
      have okb7 := okb7.ex cxh16.1
      have okb9 := okb9.ex cxh16.1
      have okb12 := okb12.ex cxh16.1
      have okb14 := okb14.ex cxh16.1
      exact x_iret (pc := 46) dX11_energy_46 rfl hex hnn hzz ⟨_, rfl, hwp⟩
    · have hwp := hwp.2 c6
      exact absurd hwp (fun w => w)

theorem dX11_gives_0 : decode cX11_gives 0 = .ok (.aload_n 0, 1) := by decide +kernel
theorem dX11_gives_1 : decode cX11_gives 1 = .ok (.iload_n 1, 1) := by decide +kernel
theorem dX11_gives_2 : decode cX11_gives 2 = .ok (.invokevirtual 130, 3) := by decide +kernel
theorem dX11_gives_5 : decode cX11_gives 5 = .ok (.ifCond .eq 18, 3) := by decide +kernel
theorem dX11_gives_8 : decode cX11_gives 8 = .ok (.aload_n 0, 1) := by decide +kernel
theorem dX11_gives_9 : decode cX11_gives 9 = .ok (.iload_n 2, 1) := by decide +kernel
theorem dX11_gives_10 : decode cX11_gives 10 = .ok (.invokevirtual 134, 3) := by decide +kernel
theorem dX11_gives_13 : decode cX11_gives 13 = .ok (.ifCond .eq 10, 3) := by decide +kernel
theorem dX11_gives_16 : decode cX11_gives 16 = .ok (.iload_n 3, 1) := by decide +kernel
theorem dX11_gives_17 : decode cX11_gives 17 = .ok (.invokestatic 162, 3) := by decide +kernel
theorem dX11_gives_20 : decode cX11_gives 20 = .ok (.ifCond .ne 13, 3) := by decide +kernel
theorem dX11_gives_23 : decode cX11_gives 23 = .ok (.new 137, 3) := by decide +kernel
theorem dX11_gives_26 : decode cX11_gives 26 = .ok (.dup, 1) := by decide +kernel
theorem dX11_gives_27 : decode cX11_gives 27 = .ok (.ldc 165, 2) := by decide +kernel
theorem dX11_gives_29 : decode cX11_gives 29 = .ok (.invokespecial 141, 3) := by decide +kernel
theorem dX11_gives_32 : decode cX11_gives 32 = .ok (.athrow, 1) := by decide +kernel
theorem dX11_gives_33 : decode cX11_gives 33 = .ok (.aload_n 0, 1) := by decide +kernel
theorem dX11_gives_34 : decode cX11_gives 34 = .ok (.getfield 70, 3) := by decide +kernel
theorem dX11_gives_37 : decode cX11_gives 37 = .ok (.getfield 144, 3) := by decide +kernel
theorem dX11_gives_40 : decode cX11_gives 40 = .ok (.iload_n 1, 1) := by decide +kernel
theorem dX11_gives_41 : decode cX11_gives 41 = .ok (.aaload, 1) := by decide +kernel
theorem dX11_gives_42 : decode cX11_gives 42 = .ok (.iload_n 2, 1) := by decide +kernel
theorem dX11_gives_43 : decode cX11_gives 43 = .ok (.iload_n 3, 1) := by decide +kernel
theorem dX11_gives_44 : decode cX11_gives 44 = .ok (.aload_n 0, 1) := by decide +kernel
theorem dX11_gives_45 : decode cX11_gives 45 = .ok (.getfield 70, 3) := by decide +kernel
theorem dX11_gives_48 : decode cX11_gives 48 = .ok (.getfield 148, 3) := by decide +kernel
theorem dX11_gives_51 : decode cX11_gives 51 = .ok (.invokevirtual 167, 3) := by decide +kernel
theorem dX11_gives_54 : decode cX11_gives 54 = .ok (.ireturn, 1) := by decide +kernel
def wp_X11_gives (l0 : Nat) (l1 : Int32) (l2 : Int32) (l3 : Int32) (h : PH) (Q : Int32 → PH → Prop) : Prop := (wp_X11_isPart l0 l1 h (fun r2 h1 => ((r2 = 0 → False) ∧ (¬ (r2 = 0) → (wp_X11_isPlace l0 l2 h1 (fun r5 h4 => ((r5 = 0 → False) ∧ (¬ (r5 = 0) → (wp_X11_isLawSet l3 h4 (fun r8 h7 => ((¬ r8 = 0 → (∃ b10, qR h7 l0 10 = some b10 ∧ (∃ b12, qR h7 b10 0 = some b12 ∧ (vp_in l1 (qL h7 b12) ∧ ∃ b15, qR h7 b12 l1.toNatClampNeg = some b15 ∧ (∃ b17, qR h7 l0 10 = some b17 ∧ (wp_X4_givesIn b15 l2 l3 (qI h7 b17 2) h7 (fun r20 h19 => Q r20 h19))))))) ∧ (r8 = 0 → False))))))))))))
set_option maxHeartbeats 4000000 in
set_option maxRecDepth 100000 in
theorem sn_X11_gives (G : GT) (d : Nat) (l0 : Nat) (l1 : Int32) (l2 : Int32) (l3 : Int32) (h : PH) (Q : Int32 → PH → Prop) (okl0 : qOK h 10 l0) (hwp : wp_X11_gives l0 l1 l2 l3 h Q) : Mt G (4 + d) 0 0 mX11_gives [.ref l0, .int l1, .int l2, .int l3] h (qqi Q) := by
  unfold wp_X11_gives at hwp
  refine Mt.of (by decide) rfl (Nat.le_of_ble_eq_true rfl) ?_
  have hex := qEx.rf h
  have hnn : qn h = qn h + 0 := rfl
  have hzz : qz h = qz h + 0 := rfl
  refine x_lvE (lv2 := [(0, .ref l0), (1, .int l1), (2, .int l2), (3, .int l3)]) rfl ?_
  refine x_aload_n (pc := 0) dX11_gives_0 rfl ?_
  refine x_iload_n (pc := 1) dX11_gives_1 rfl ?_
  refine x_invV (As := [.int l1]) (st := []) (pc := 2) dX11_gives_2 lRX11_130 fX11_isPart vX11_isPart okl0 rfl (Nat.le_of_ble_eq_true rfl) (q_R (by omega) (by decide)) (q_C hnn hzz (by decide) (by decide)) (sn_X11_isPart G (d + 3) l0 l1 h _ okl0 hwp) (k_b (fun r2 h1 hwp zbr2 cxh1 => ?_))
  have hex := hex.tr cxh1.1
  have hnn : qn h1 = qn h + 0 := by have := cxh1.2.1; omega
  have hzz : qz h1 = qz h + 0 := by have := cxh1.2.2; omega
  have okl0 := okl0.ex cxh1.1
  refine x_if_eq (tgt := 23) (pc := 5) dX11_gives_5 (by decide) (fun c3 => ?_) (fun c3 => ?_)
  · have hwp := hwp.1 c3
    exact absurd hwp (fun w => w)
  · have hwp := hwp.2 c3
    refine x_aload_n (pc := 8) dX11_gives_8 rfl ?_
    refine x_iload_n (pc := 9) dX11_gives_9 rfl ?_
    refine x_invV (As := [.int l2]) (st := []) (pc := 10) dX11_gives_10 lRX11_134 fX11_isPlace vX11_isPlace okl0 rfl (Nat.le_of_ble_eq_true rfl) (q_R (by omega) (by decide)) (q_C hnn hzz (by decide) (by decide)) (sn_X11_isPlace G (d + 3) l0 l2 h1 _ okl0 hwp) (k_b (fun r5 h4 hwp zbr5 cxh4 => ?_))
    have hex := hex.tr cxh4.1
    have hnn : qn h4 = qn h + 0 := by have := cxh4.2.1; omega
    have hzz : qz h4 = qz h + 0 := by have := cxh4.2.2; omega
    have okl0 := okl0.ex cxh4.1
    refine x_if_eq (tgt := 23) (pc := 13) dX11_gives_13 (by decide) (fun c6 => ?_) (fun c6 => ?_)
    · have hwp := hwp.1 c6
      exact absurd hwp (fun w => w)
    · have hwp := hwp.2 c6
      refine x_iload_n (pc := 16) dX11_gives_16 rfl ?_
      refine x_invS (As := [.int l3]) (st := []) (pc := 17) dX11_gives_17 lRX11_162 fX11_isLawSet sX11_isLawSet rfl (Nat.le_of_ble_eq_true rfl) (q_R (by omega) (by decide)) (q_C hnn hzz (by decide) (by decide)) (sn_X11_isLawSet G (d + 3) l3 h4 _  hwp) (k_b (fun r8 h7 hwp zbr8 cxh7 => ?_))
      have hex := hex.tr cxh7.1
      have hnn : qn h7 = qn h + 0 := by have := cxh7.2.1; omega
      have hzz : qz h7 = qz h + 0 := by have := cxh7.2.2; omega
      have okl0 := okl0.ex cxh7.1
      refine x_if_ne (tgt := 33) (pc := 20) dX11_gives_20 (by decide) (fun c9 => ?_) (fun c9 => ?_)
      · have hwp := hwp.1 c9
        refine x_aload_n (pc := 33) dX11_gives_33 rfl ?_
        obtain ⟨b10, e11, hwp⟩ := hwp
        refine x_getR (pc := 34) dX11_gives_34 qRX11_70 okl0 e11 (fun okb10 => ?_)
        obtain ⟨b12, e13, hwp⟩ := hwp
        refine x_getR (pc := 37) dX11_gives_37 qRX11_144 okb10 e13 (fun okb12 => ?_)
        refine x_iload_n (pc := 40) dX11_gives_40 rfl ?_
        obtain ⟨i14, b15, e16, hwp⟩ := hwp
        refine x_aaload (t := 18) (pc := 41) dX11_gives_41 okb12 (by decide) i14 e16 (fun okb15 => ?_)
        refine x_iload_n (pc := 42) dX11_gives_42 rfl ?_
        refine x_iload_n (pc := 43) dX11_gives_43 rfl ?_
        refine x_aload_n (pc := 44) dX11_gives_44 rfl ?_
        obtain ⟨b17, e18, hwp⟩ := hwp
        refine x_getR (pc := 45) dX11_gives_45 qRX11_70 okl0 e18 (fun okb17 => ?_)
        refine x_getI (pc := 48) dX11_gives_48 qRX11_148 okb17 (by decide) ?_
        refine x_invV (As := [.int l2, .int l3, .int (qI h7 b17 2)]) (st := []) (pc := 51) dX11_gives_51 lRX11_167 fX4_givesIn vX4_givesIn okb15 rfl (Nat.le_of_ble_eq_true rfl) (q_R (by omega) (by decide)) (q_C hnn hzz (by decide) (by decide)) (sn_X4_givesIn G (d + 0) b15 l2 l3 (qI h7 b17 2) h7 _ okb15 hwp) (k_i (fun r20 h19 hwp cxh19 => ?_))
        have hex := hex.tr cxh19.1
        have hnn : qn h19 = qn h + 0 := by have := cxh19.2.1; omega
        have hzz : qz h19 = qz h + 0 := by have := cxh19.2.2; omega
        have okl0 := okl0.ex cxh19.1
        have okb10 := okb10.ex cxh19.1
        have okb12 := okb12.ex cxh19.1
        have okb15 := okb15.ex cxh19.1
        have okb17 := okb17.ex cxh19.1
        exact x_iret (pc := 54) dX11_gives_54 rfl hex hnn hzz ⟨_, rfl, hwp⟩
      · have hwp := hwp.2 c9
        exact absurd hwp (fun w => w)

theorem dX11_sum_0 : decode cX11_sum 0 = .ok (.iload_n 2, 1) := by decide +kernel
theorem dX11_sum_1 : decode cX11_sum 1 = .ok (.invokestatic 162, 3) := by decide +kernel
theorem dX11_sum_4 : decode cX11_sum 4 = .ok (.ifCond .eq 16, 3) := by decide +kernel
theorem dX11_sum_7 : decode cX11_sum 7 = .ok (.iload_n 1, 1) := by decide +kernel
theorem dX11_sum_8 : decode cX11_sum 8 = .ok (.iconst (-1), 1) := by decide +kernel
theorem dX11_sum_9 : decode cX11_sum 9 = .ok (.if_icmp .eq 21, 3) := by decide +kernel
theorem dX11_sum_12 : decode cX11_sum 12 = .ok (.aload_n 0, 1) := by decide +kernel
theorem dX11_sum_13 : decode cX11_sum 13 = .ok (.iload_n 1, 1) := by decide +kernel
theorem dX11_sum_14 : decode cX11_sum 14 = .ok (.invokevirtual 130, 3) := by decide +kernel
theorem dX11_sum_17 : decode cX11_sum 17 = .ok (.ifCond .ne 13, 3) := by decide +kernel
theorem dX11_sum_20 : decode cX11_sum 20 = .ok (.new 137, 3) := by decide +kernel
theorem dX11_sum_23 : decode cX11_sum 23 = .ok (.dup, 1) := by decide +kernel
theorem dX11_sum_24 : decode cX11_sum 24 = .ok (.ldc 171, 2) := by decide +kernel
theorem dX11_sum_26 : decode cX11_sum 26 = .ok (.invokespecial 141, 3) := by decide +kernel
theorem dX11_sum_29 : decode cX11_sum 29 = .ok (.athrow, 1) := by decide +kernel
theorem dX11_sum_30 : decode cX11_sum 30 = .ok (.iload_n 1, 1) := by decide +kernel
theorem dX11_sum_31 : decode cX11_sum 31 = .ok (.iconst (-1), 1) := by decide +kernel
theorem dX11_sum_32 : decode cX11_sum 32 = .ok (.if_icmp .ne 14, 3) := by decide +kernel
theorem dX11_sum_35 : decode cX11_sum 35 = .ok (.aload_n 0, 1) := by decide +kernel
theorem dX11_sum_36 : decode cX11_sum 36 = .ok (.getfield 26, 3) := by decide +kernel
theorem dX11_sum_39 : decode cX11_sum 39 = .ok (.iload_n 2, 1) := by decide +kernel
theorem dX11_sum_40 : decode cX11_sum 40 = .ok (.invokevirtual 173, 3) := by decide +kernel
theorem dX11_sum_43 : decode cX11_sum 43 = .ok (.goto 23, 3) := by decide +kernel
theorem dX11_sum_46 : decode cX11_sum 46 = .ok (.aload_n 0, 1) := by decide +kernel
theorem dX11_sum_47 : decode cX11_sum 47 = .ok (.getfield 70, 3) := by decide +kernel
theorem dX11_sum_50 : decode cX11_sum 50 = .ok (.getfield 144, 3) := by decide +kernel
theorem dX11_sum_53 : decode cX11_sum 53 = .ok (.iload_n 1, 1) := by decide +kernel
theorem dX11_sum_54 : decode cX11_sum 54 = .ok (.aaload, 1) := by decide +kernel
theorem dX11_sum_55 : decode cX11_sum 55 = .ok (.iload_n 2, 1) := by decide +kernel
theorem dX11_sum_56 : decode cX11_sum 56 = .ok (.aload_n 0, 1) := by decide +kernel
theorem dX11_sum_57 : decode cX11_sum 57 = .ok (.getfield 70, 3) := by decide +kernel
theorem dX11_sum_60 : decode cX11_sum 60 = .ok (.getfield 148, 3) := by decide +kernel
theorem dX11_sum_63 : decode cX11_sum 63 = .ok (.invokevirtual 177, 3) := by decide +kernel
theorem dX11_sum_66 : decode cX11_sum 66 = .ok (.ireturn, 1) := by decide +kernel
def wp_X11_sum (l0 : Nat) (l1 : Int32) (l2 : Int32) (h : PH) (Q : Int32 → PH → Prop) : Prop := (wp_X11_isLawSet l2 h (fun r2 h1 => ((r2 = 0 → False) ∧ (¬ (r2 = 0) → ((l1 = (-1) → ((¬ l1 = (-1) → (∃ b6, qR h1 l0 10 = some b6 ∧ (∃ b8, qR h1 b6 0 = some b8 ∧ (vp_in l1 (qL h1 b8) ∧ ∃ b11, qR h1 b8 l1.toNatClampNeg = some b11 ∧ (∃ b13, qR h1 l0 10 = some b13 ∧ (wp_X4_sumWith b11 l2 (qI h1 b13 2) h1 (fun r16 h15 => Q r16 h15))))))) ∧ (l1 = (-1) → (∃ b17, qR h1 l0 2 = some b17 ∧ (wp_X8_wholeWith b17 l2 h1 (fun r20 h19 => Q r20 h19)))))) ∧ (¬ (l1 = (-1)) → (wp_X11_isPart l0 l1 h1 (fun r22 h21 => ((¬ r22 = 0 → ((¬ l1 = (-1) → (∃ b25, qR h21 l0 10 = some b25 ∧ (∃ b27, qR h21 b25 0 = some b27 ∧ (vp_in l1 (qL h21 b27) ∧ ∃ b30, qR h21 b27 l1.toNatClampNeg = some b30 ∧ (∃ b32, qR h21 l0 10 = some b32 ∧ (wp_X4_sumWith b30 l2 (qI h21 b32 2) h21 (fun r35 h34 => Q r35 h34))))))) ∧ (l1 = (-1) → (∃ b36, qR h21 l0 2 = some b36 ∧ (wp_X8_wholeWith b36 l2 h21 (fun r39 h38 => Q r39 h38)))))) ∧ (r22 = 0 → False))))))))))
set_option maxHeartbeats 4000000 in
set_option maxRecDepth 100000 in
theorem sn_X11_sum (G : GT) (d : Nat) (l0 : Nat) (l1 : Int32) (l2 : Int32) (h : PH) (Q : Int32 → PH → Prop) (okl0 : qOK h 10 l0) (hwp : wp_X11_sum l0 l1 l2 h Q) : Mt G (5 + d) 0 0 mX11_sum [.ref l0, .int l1, .int l2] h (qqi Q) := by
  unfold wp_X11_sum at hwp
  refine Mt.of (by decide) rfl (Nat.le_of_ble_eq_true rfl) ?_
  have hex := qEx.rf h
  have hnn : qn h = qn h + 0 := rfl
  have hzz : qz h = qz h + 0 := rfl
  refine x_lvE (lv2 := [(0, .ref l0), (1, .int l1), (2, .int l2)]) rfl ?_
  refine x_iload_n (pc := 0) dX11_sum_0 rfl ?_
  refine x_invS (As := [.int l2]) (st := []) (pc := 1) dX11_sum_1 lRX11_162 fX11_isLawSet sX11_isLawSet rfl (Nat.le_of_ble_eq_true rfl) (q_R (by omega) (by decide)) (q_C hnn hzz (by decide) (by decide)) (sn_X11_isLawSet G (d + 4) l2 h _  hwp) (k_b (fun r2 h1 hwp zbr2 cxh1 => ?_))
  have hex := hex.tr cxh1.1
  have hnn : qn h1 = qn h + 0 := by have := cxh1.2.1; omega
  have hzz : qz h1 = qz h + 0 := by have := cxh1.2.2; omega
  have okl0 := okl0.ex cxh1.1
  refine x_if_eq (tgt := 20) (pc := 4) dX11_sum_4 (by decide) (fun c3 => ?_) (fun c3 => ?_)
  · have hwp := hwp.1 c3
    exact absurd hwp (fun w => w)
  · have hwp := hwp.2 c3
    refine x_iload_n (pc := 7) dX11_sum_7 rfl ?_
    refine x_iconst (v := (-1)) (pc := 8) dX11_sum_8 (by decide) ?_
    refine x_icmp_eq (tgt := 30) (pc := 9) dX11_sum_9 (by decide) (fun c4 => ?_) (fun c4 => ?_)
    · have hwp := hwp.1 c4
      refine x_iload_n (pc := 30) dX11_sum_30 rfl ?_
      refine x_iconst (v := (-1)) (pc := 31) dX11_sum_31 (by decide) ?_
      refine x_icmp_ne (tgt := 46) (pc := 32) dX11_sum_32 (by decide) (fun c5 => ?_) (fun c5 => ?_)
      · have hwp := hwp.1 c5
        refine x_aload_n (pc := 46) dX11_sum_46 rfl ?_
        obtain ⟨b6, e7, hwp⟩ := hwp
        refine x_getR (pc := 47) dX11_sum_47 qRX11_70 okl0 e7 (fun okb6 => ?_)
        obtain ⟨b8, e9, hwp⟩ := hwp
        refine x_getR (pc := 50) dX11_sum_50 qRX11_144 okb6 e9 (fun okb8 => ?_)
        refine x_iload_n (pc := 53) dX11_sum_53 rfl ?_
        obtain ⟨i10, b11, e12, hwp⟩ := hwp
        refine x_aaload (t := 18) (pc := 54) dX11_sum_54 okb8 (by decide) i10 e12 (fun okb11 => ?_)
        refine x_iload_n (pc := 55) dX11_sum_55 rfl ?_
        refine x_aload_n (pc := 56) dX11_sum_56 rfl ?_
        obtain ⟨b13, e14, hwp⟩ := hwp
        refine x_getR (pc := 57) dX11_sum_57 qRX11_70 okl0 e14 (fun okb13 => ?_)
        refine x_getI (pc := 60) dX11_sum_60 qRX11_148 okb13 (by decide) ?_
        refine x_invV (As := [.int l2, .int (qI h1 b13 2)]) (st := []) (pc := 63) dX11_sum_63 lRX11_177 fX4_sumWith vX4_sumWith okb11 rfl (Nat.le_of_ble_eq_true rfl) (q_R (by omega) (by decide)) (q_C hnn hzz (by decide) (by decide)) (sn_X4_sumWith G (d + 0) b11 l2 (qI h1 b13 2) h1 _ okb11 hwp) (k_i (fun r16 h15 hwp cxh15 => ?_))
        have hex := hex.tr cxh15.1
        have hnn : qn h15 = qn h + 0 := by have := cxh15.2.1; omega
        have hzz : qz h15 = qz h + 0 := by have := cxh15.2.2; omega
        have okl0 := okl0.ex cxh15.1
        have okb6 := okb6.ex cxh15.1
        have okb8 := okb8.ex cxh15.1
        have okb11 := okb11.ex cxh15.1
        have okb13 := okb13.ex cxh15.1
        exact x_iret (pc := 66) dX11_sum_66 rfl hex hnn hzz ⟨_, rfl, hwp⟩
      · have hwp := hwp.2 c5
        refine x_aload_n (pc := 35) dX11_sum_35 rfl ?_
        obtain ⟨b17, e18, hwp⟩ := hwp
        refine x_getR (pc := 36) dX11_sum_36 qRX11_26 okl0 e18 (fun okb17 => ?_)
        refine x_iload_n (pc := 39) dX11_sum_39 rfl ?_
        refine x_invV (As := [.int l2]) (st := []) (pc := 40) dX11_sum_40 lRX11_173 fX8_wholeWith vX8_wholeWith okb17 rfl (Nat.le_of_ble_eq_true rfl) (q_R (by omega) (by decide)) (q_C hnn hzz (by decide) (by decide)) (sn_X8_wholeWith G (d + 3) b17 l2 h1 _ okb17 hwp) (k_i (fun r20 h19 hwp cxh19 => ?_))
        have hex := hex.tr cxh19.1
        have hnn : qn h19 = qn h + 0 := by have := cxh19.2.1; omega
        have hzz : qz h19 = qz h + 0 := by have := cxh19.2.2; omega
        have okl0 := okl0.ex cxh19.1
        have okb17 := okb17.ex cxh19.1
        refine x_goto (tgt := 66) (pc := 43) dX11_sum_43 (by decide) ?_
        exact x_iret (pc := 66) dX11_sum_66 rfl hex hnn hzz ⟨_, rfl, hwp⟩
    · have hwp := hwp.2 c4
      refine x_aload_n (pc := 12) dX11_sum_12 rfl ?_
      refine x_iload_n (pc := 13) dX11_sum_13 rfl ?_
      refine x_invV (As := [.int l1]) (st := []) (pc := 14) dX11_sum_14 lRX11_130 fX11_isPart vX11_isPart okl0 rfl (Nat.le_of_ble_eq_true rfl) (q_R (by omega) (by decide)) (q_C hnn hzz (by decide) (by decide)) (sn_X11_isPart G (d + 4) l0 l1 h1 _ okl0 hwp) (k_b (fun r22 h21 hwp zbr22 cxh21 => ?_))
      have hex := hex.tr cxh21.1
      have hnn : qn h21 = qn h + 0 := by have := cxh21.2.1; omega
      have hzz : qz h21 = qz h + 0 := by have := cxh21.2.2; omega
      have okl0 := okl0.ex cxh21.1
      refine x_if_ne (tgt := 30) (pc := 17) dX11_sum_17 (by decide) (fun c23 => ?_) (fun c23 => ?_)
      · have hwp := hwp.1 c23
        refine x_iload_n (pc := 30) dX11_sum_30 rfl ?_
        refine x_iconst (v := (-1)) (pc := 31) dX11_sum_31 (by decide) ?_
        refine x_icmp_ne (tgt := 46) (pc := 32) dX11_sum_32 (by decide) (fun c24 => ?_) (fun c24 => ?_)
        · have hwp := hwp.1 c24
          refine x_aload_n (pc := 46) dX11_sum_46 rfl ?_
          obtain ⟨b25, e26, hwp⟩ := hwp
          refine x_getR (pc := 47) dX11_sum_47 qRX11_70 okl0 e26 (fun okb25 => ?_)
          obtain ⟨b27, e28, hwp⟩ := hwp
          refine x_getR (pc := 50) dX11_sum_50 qRX11_144 okb25 e28 (fun okb27 => ?_)
          refine x_iload_n (pc := 53) dX11_sum_53 rfl ?_
          obtain ⟨i29, b30, e31, hwp⟩ := hwp
          refine x_aaload (t := 18) (pc := 54) dX11_sum_54 okb27 (by decide) i29 e31 (fun okb30 => ?_)
          refine x_iload_n (pc := 55) dX11_sum_55 rfl ?_
          refine x_aload_n (pc := 56) dX11_sum_56 rfl ?_
          obtain ⟨b32, e33, hwp⟩ := hwp
          refine x_getR (pc := 57) dX11_sum_57 qRX11_70 okl0 e33 (fun okb32 => ?_)
          refine x_getI (pc := 60) dX11_sum_60 qRX11_148 okb32 (by decide) ?_
          refine x_invV (As := [.int l2, .int (qI h21 b32 2)]) (st := []) (pc := 63) dX11_sum_63 lRX11_177 fX4_sumWith vX4_sumWith okb30 rfl (Nat.le_of_ble_eq_true rfl) (q_R (by omega) (by decide)) (q_C hnn hzz (by decide) (by decide)) (sn_X4_sumWith G (d + 0) b30 l2 (qI h21 b32 2) h21 _ okb30 hwp) (k_i (fun r35 h34 hwp cxh34 => ?_))
          have hex := hex.tr cxh34.1
          have hnn : qn h34 = qn h + 0 := by have := cxh34.2.1; omega
          have hzz : qz h34 = qz h + 0 := by have := cxh34.2.2; omega
          have okl0 := okl0.ex cxh34.1
          have okb25 := okb25.ex cxh34.1
          have okb27 := okb27.ex cxh34.1
          have okb30 := okb30.ex cxh34.1
          have okb32 := okb32.ex cxh34.1
          exact x_iret (pc := 66) dX11_sum_66 rfl hex hnn hzz ⟨_, rfl, hwp⟩
        · have hwp := hwp.2 c24
          refine x_aload_n (pc := 35) dX11_sum_35 rfl ?_
          obtain ⟨b36, e37, hwp⟩ := hwp
          refine x_getR (pc := 36) dX11_sum_36 qRX11_26 okl0 e37 (fun okb36 => ?_)
          refine x_iload_n (pc := 39) dX11_sum_39 rfl ?_
          refine x_invV (As := [.int l2]) (st := []) (pc := 40) dX11_sum_40 lRX11_173 fX8_wholeWith vX8_wholeWith okb36 rfl (Nat.le_of_ble_eq_true rfl) (q_R (by omega) (by decide)) (q_C hnn hzz (by decide) (by decide)) (sn_X8_wholeWith G (d + 3) b36 l2 h21 _ okb36 hwp) (k_i (fun r39 h38 hwp cxh38 => ?_))
          have hex := hex.tr cxh38.1
          have hnn : qn h38 = qn h + 0 := by have := cxh38.2.1; omega
          have hzz : qz h38 = qz h + 0 := by have := cxh38.2.2; omega
          have okl0 := okl0.ex cxh38.1
          have okb36 := okb36.ex cxh38.1
          refine x_goto (tgt := 66) (pc := 43) dX11_sum_43 (by decide) ?_
          exact x_iret (pc := 66) dX11_sum_66 rfl hex hnn hzz ⟨_, rfl, hwp⟩
      · have hwp := hwp.2 c23
        exact absurd hwp (fun w => w)

theorem dX11_value_0 : decode cX11_value 0 = .ok (.iload_n 1, 1) := by decide +kernel
theorem dX11_value_1 : decode cX11_value 1 = .ok (.ifCond .lt 22, 3) := by decide +kernel
theorem dX11_value_4 : decode cX11_value 4 = .ok (.iload_n 1, 1) := by decide +kernel
theorem dX11_value_5 : decode cX11_value 5 = .ok (.bipush 8, 2) := by decide +kernel
theorem dX11_value_7 : decode cX11_value 7 = .ok (.if_icmp .ge 16, 3) := by decide +kernel
theorem dX11_value_10 : decode cX11_value 10 = .ok (.iload_n 2, 1) := by decide +kernel
theorem dX11_value_11 : decode cX11_value 11 = .ok (.iconst (-1), 1) := by decide +kernel
theorem dX11_value_12 : decode cX11_value 12 = .ok (.if_icmp .eq 21, 3) := by decide +kernel
theorem dX11_value_15 : decode cX11_value 15 = .ok (.aload_n 0, 1) := by decide +kernel
theorem dX11_value_16 : decode cX11_value 16 = .ok (.iload_n 2, 1) := by decide +kernel
theorem dX11_value_17 : decode cX11_value 17 = .ok (.invokevirtual 134, 3) := by decide +kernel
theorem dX11_value_20 : decode cX11_value 20 = .ok (.ifCond .ne 13, 3) := by decide +kernel
theorem dX11_value_23 : decode cX11_value 23 = .ok (.new 137, 3) := by decide +kernel
theorem dX11_value_26 : decode cX11_value 26 = .ok (.dup, 1) := by decide +kernel
theorem dX11_value_27 : decode cX11_value 27 = .ok (.ldc 238, 2) := by decide +kernel
theorem dX11_value_29 : decode cX11_value 29 = .ok (.invokespecial 141, 3) := by decide +kernel
theorem dX11_value_32 : decode cX11_value 32 = .ok (.athrow, 1) := by decide +kernel
theorem dX11_value_33 : decode cX11_value 33 = .ok (.aload_n 0, 1) := by decide +kernel
theorem dX11_value_34 : decode cX11_value 34 = .ok (.getfield 26, 3) := by decide +kernel
theorem dX11_value_37 : decode cX11_value 37 = .ok (.iload_n 1, 1) := by decide +kernel
theorem dX11_value_38 : decode cX11_value 38 = .ok (.iload_n 2, 1) := by decide +kernel
theorem dX11_value_39 : decode cX11_value 39 = .ok (.invokevirtual 240, 3) := by decide +kernel
theorem dX11_value_42 : decode cX11_value 42 = .ok (.ireturn, 1) := by decide +kernel
def wp_X11_value (l0 : Nat) (l1 : Int32) (l2 : Int32) (h : PH) (Q : Int32 → PH → Prop) : Prop := ((l1 < 0 → False) ∧ (¬ (l1 < 0) → ((8 ≤ l1 → False) ∧ (¬ (8 ≤ l1) → ((l2 = (-1) → (∃ b4, qR h l0 2 = some b4 ∧ (wp_X8_valueAt b4 l1 l2 h (fun r7 h6 => Q r7 h6)))) ∧ (¬ (l2 = (-1)) → (wp_X11_isPlace l0 l2 h (fun r9 h8 => ((¬ r9 = 0 → (∃ b11, qR h8 l0 2 = some b11 ∧ (wp_X8_valueAt b11 l1 l2 h8 (fun r14 h13 => Q r14 h13)))) ∧ (r9 = 0 → False))))))))))
set_option maxHeartbeats 4000000 in
set_option maxRecDepth 100000 in
theorem sn_X11_value (G : GT) (d : Nat) (l0 : Nat) (l1 : Int32) (l2 : Int32) (h : PH) (Q : Int32 → PH → Prop) (okl0 : qOK h 10 l0) (hwp : wp_X11_value l0 l1 l2 h Q) : Mt G (1 + d) 0 0 mX11_value [.ref l0, .int l1, .int l2] h (qqi Q) := by
  unfold wp_X11_value at hwp
  refine Mt.of (by decide) rfl (Nat.le_of_ble_eq_true rfl) ?_
  have hex := qEx.rf h
  have hnn : qn h = qn h + 0 := rfl
  have hzz : qz h = qz h + 0 := rfl
  refine x_lvE (lv2 := [(0, .ref l0), (1, .int l1), (2, .int l2)]) rfl ?_
  refine x_iload_n (pc := 0) dX11_value_0 rfl ?_
  refine x_if_lt (tgt := 23) (pc := 1) dX11_value_1 (by decide) (fun c1 => ?_) (fun c1 => ?_)
  · have hwp := hwp.1 c1
    exact absurd hwp (fun w => w)
  · have hwp := hwp.2 c1
    refine x_iload_n (pc := 4) dX11_value_4 rfl ?_
    refine x_bipush (v := 8) (pc := 5) dX11_value_5 (by decide) ?_
    refine x_icmp_ge (tgt := 23) (pc := 7) dX11_value_7 (by decide) (fun c2 => ?_) (fun c2 => ?_)
    · have hwp := hwp.1 c2
      exact absurd hwp (fun w => w)
    · have hwp := hwp.2 c2
      refine x_iload_n (pc := 10) dX11_value_10 rfl ?_
      refine x_iconst (v := (-1)) (pc := 11) dX11_value_11 (by decide) ?_
      refine x_icmp_eq (tgt := 33) (pc := 12) dX11_value_12 (by decide) (fun c3 => ?_) (fun c3 => ?_)
      · have hwp := hwp.1 c3
        refine x_aload_n (pc := 33) dX11_value_33 rfl ?_
        obtain ⟨b4, e5, hwp⟩ := hwp
        refine x_getR (pc := 34) dX11_value_34 qRX11_26 okl0 e5 (fun okb4 => ?_)
        refine x_iload_n (pc := 37) dX11_value_37 rfl ?_
        refine x_iload_n (pc := 38) dX11_value_38 rfl ?_
        refine x_invV (As := [.int l1, .int l2]) (st := []) (pc := 39) dX11_value_39 lRX11_240 fX8_valueAt vX8_valueAt okb4 rfl (Nat.le_of_ble_eq_true rfl) (q_R (by omega) (by decide)) (q_C hnn hzz (by decide) (by decide)) (sn_X8_valueAt G (d + 0) b4 l1 l2 h _ okb4 hwp) (k_i (fun r7 h6 hwp cxh6 => ?_))
        have hex := hex.tr cxh6.1
        have hnn : qn h6 = qn h + 0 := by have := cxh6.2.1; omega
        have hzz : qz h6 = qz h + 0 := by have := cxh6.2.2; omega
        have okl0 := okl0.ex cxh6.1
        have okb4 := okb4.ex cxh6.1
        exact x_iret (pc := 42) dX11_value_42 rfl hex hnn hzz ⟨_, rfl, hwp⟩
      · have hwp := hwp.2 c3
        refine x_aload_n (pc := 15) dX11_value_15 rfl ?_
        refine x_iload_n (pc := 16) dX11_value_16 rfl ?_
        refine x_invV (As := [.int l2]) (st := []) (pc := 17) dX11_value_17 lRX11_134 fX11_isPlace vX11_isPlace okl0 rfl (Nat.le_of_ble_eq_true rfl) (q_R (by omega) (by decide)) (q_C hnn hzz (by decide) (by decide)) (sn_X11_isPlace G (d + 0) l0 l2 h _ okl0 hwp) (k_b (fun r9 h8 hwp zbr9 cxh8 => ?_))
        have hex := hex.tr cxh8.1
        have hnn : qn h8 = qn h + 0 := by have := cxh8.2.1; omega
        have hzz : qz h8 = qz h + 0 := by have := cxh8.2.2; omega
        have okl0 := okl0.ex cxh8.1
        refine x_if_ne (tgt := 33) (pc := 20) dX11_value_20 (by decide) (fun c10 => ?_) (fun c10 => ?_)
        · have hwp := hwp.1 c10
          refine x_aload_n (pc := 33) dX11_value_33 rfl ?_
          obtain ⟨b11, e12, hwp⟩ := hwp
          refine x_getR (pc := 34) dX11_value_34 qRX11_26 okl0 e12 (fun okb11 => ?_)
          refine x_iload_n (pc := 37) dX11_value_37 rfl ?_
          refine x_iload_n (pc := 38) dX11_value_38 rfl ?_
          refine x_invV (As := [.int l1, .int l2]) (st := []) (pc := 39) dX11_value_39 lRX11_240 fX8_valueAt vX8_valueAt okb11 rfl (Nat.le_of_ble_eq_true rfl) (q_R (by omega) (by decide)) (q_C hnn hzz (by decide) (by decide)) (sn_X8_valueAt G (d + 0) b11 l1 l2 h8 _ okb11 hwp) (k_i (fun r14 h13 hwp cxh13 => ?_))
          have hex := hex.tr cxh13.1
          have hnn : qn h13 = qn h + 0 := by have := cxh13.2.1; omega
          have hzz : qz h13 = qz h + 0 := by have := cxh13.2.2; omega
          have okl0 := okl0.ex cxh13.1
          have okb11 := okb11.ex cxh13.1
          exact x_iret (pc := 42) dX11_value_42 rfl hex hnn hzz ⟨_, rfl, hwp⟩
        · have hwp := hwp.2 c10
          exact absurd hwp (fun w => w)

def wx_X11_place (l0 : Nat) (l1 : Int32) (l2 : Int32) (h : PH) (Q : PH → Prop) : Prop := (wp_X11_isPart l0 l1 h (fun r2 h1 => ((r2 = 0 → (qn h1 + 1 ≤ 1000000 ∧ Q (qnew h1 12 0 6))) ∧ (¬ (r2 = 0) → (wp_X11_isPlace l0 l2 h1 (fun r5 h4 => ((¬ r5 = 0 → (∃ b7, qR h4 l0 10 = some b7 ∧ (∃ b9, qR h4 b7 0 = some b9 ∧ (vp_in l1 (qL h4 b9) ∧ ∃ b12, qR h4 b9 l1.toNatClampNeg = some b12 ∧ (∃ b14, qR h4 l0 10 = some b14 ∧ (wp_X4_placeAt b12 l2 (qI h4 b14 2) h4 (fun r17 h16 => False))))))) ∧ (r5 = 0 → (qn h4 + 1 ≤ 1000000 ∧ Q (qnew h4 12 0 6))))))))))
set_option maxHeartbeats 4000000 in
set_option maxRecDepth 100000 in
theorem sx_X11_place (G : GT) (d : Nat) (l0 : Nat) (l1 : Int32) (l2 : Int32) (h : PH) (Q : PH → Prop) (okl0 : qOK h 10 l0) (hwp : wx_X11_place l0 l1 l2 h Q) : Mx G (6 + d) mX11_place [.ref l0, .int l1, .int l2] h Q := by
  unfold wx_X11_place at hwp
  refine Mx.of (by decide) rfl (Nat.le_of_ble_eq_true rfl) ?_
  have hex := qEx.rf h
  have hnn : qn h = qn h + 0 := rfl
  have hzz : qz h = qz h + 0 := rfl
  refine x_lvE (lv2 := [(0, .ref l0), (1, .int l1), (2, .int l2)]) rfl ?_
  refine x_aload_n (pc := 0) dX11_place_0 rfl ?_
  refine x_iload_n (pc := 1) dX11_place_1 rfl ?_
  refine x_invV (As := [.int l1]) (st := []) (pc := 2) dX11_place_2 lRX11_130 fX11_isPart vX11_isPart okl0 rfl (Nat.le_of_ble_eq_true rfl) (q_R (by omega) (by decide)) (q_C hnn hzz (by decide) (by decide)) (sn_X11_isPart G (d + 5) l0 l1 h _ okl0 hwp) (k_b (fun r2 h1 hwp zbr2 cxh1 => ?_))
  have hex := hex.tr cxh1.1
  have hnn : qn h1 = qn h + 0 := by have := cxh1.2.1; omega
  have hzz : qz h1 = qz h + 0 := by have := cxh1.2.2; omega
  have okl0 := okl0.ex cxh1.1
  refine x_if_eq (tgt := 16) (pc := 5) dX11_place_5 (by decide) (fun c3 => ?_) (fun c3 => ?_)
  · have hwp := hwp.1 c3
    exact x_throw (pc := 16) (is := 139) (text := "no such part or t") rfl fX11_place.1 dX11_place_16 dX11_place_19 dX11_place_20 dX11_place_22 dX11_place_25 (by decide) (by omega) hex hnn hzz hwp.1 hwp.2
  · have hwp := hwp.2 c3
    refine x_aload_n (pc := 8) dX11_place_8 rfl ?_
    refine x_iload_n (pc := 9) dX11_place_9 rfl ?_
    refine x_invV (As := [.int l2]) (st := []) (pc := 10) dX11_place_10 lRX11_134 fX11_isPlace vX11_isPlace okl0 rfl (Nat.le_of_ble_eq_true rfl) (q_R (by omega) (by decide)) (q_C hnn hzz (by decide) (by decide)) (sn_X11_isPlace G (d + 5) l0 l2 h1 _ okl0 hwp) (k_b (fun r5 h4 hwp zbr5 cxh4 => ?_))
    have hex := hex.tr cxh4.1
    have hnn : qn h4 = qn h + 0 := by have := cxh4.2.1; omega
    have hzz : qz h4 = qz h + 0 := by have := cxh4.2.2; omega
    have okl0 := okl0.ex cxh4.1
    refine x_if_ne (tgt := 26) (pc := 13) dX11_place_13 (by decide) (fun c6 => ?_) (fun c6 => ?_)
    · have hwp := hwp.1 c6
      refine x_aload_n (pc := 26) dX11_place_26 rfl ?_
      obtain ⟨b7, e8, hwp⟩ := hwp
      refine x_getR (pc := 27) dX11_place_27 qRX11_70 okl0 e8 (fun okb7 => ?_)
      obtain ⟨b9, e10, hwp⟩ := hwp
      refine x_getR (pc := 30) dX11_place_30 qRX11_144 okb7 e10 (fun okb9 => ?_)
      refine x_iload_n (pc := 33) dX11_place_33 rfl ?_
      obtain ⟨i11, b12, e13, hwp⟩ := hwp
      refine x_aaload (t := 18) (pc := 34) dX11_place_34 okb9 (by decide) i11 e13 (fun okb12 => ?_)
      refine x_iload_n (pc := 35) dX11_place_35 rfl ?_
      refine x_aload_n (pc := 36) dX11_place_36 rfl ?_
      obtain ⟨b14, e15, hwp⟩ := hwp
      refine x_getR (pc := 37) dX11_place_37 qRX11_70 okl0 e15 (fun okb14 => ?_)
      refine x_getI (pc := 40) dX11_place_40 qRX11_148 okb14 (by decide) ?_
      refine x_invV (As := [.int l2, .int (qI h4 b14 2)]) (st := []) (pc := 43) dX11_place_43 lRX11_151 fX4_placeAt vX4_placeAt okb12 rfl (Nat.le_of_ble_eq_true rfl) (q_R (by omega) (by decide)) (q_C hnn hzz (by decide) (by decide)) (sn_X4_placeAt G (d + 5) b12 l2 (qI h4 b14 2) h4 _ okb12 hwp) (k_i (fun r17 h16 hwp cxh16 => ?_))
      have hex := hex.tr cxh16.1
      have hnn : qn h16 = qn h + 0 := by have := cxh16.2.1; omega
      have hzz : qz h16 = qz h + 0 := by have := cxh16.2.2; omega
      have okl0 := okl0.ex cxh16.1
      have okb7 := okb7.ex cxh16.1
      have okb9 := okb9.ex cxh16.1
      have okb12 := okb12.ex cxh16.1
      have okb14 := okb14.ex cxh16.1
      exact absurd hwp (fun w => w)
    · have hwp := hwp.2 c6
      exact x_throw (pc := 16) (is := 139) (text := "no such part or t") rfl fX11_place.1 dX11_place_16 dX11_place_19 dX11_place_20 dX11_place_22 dX11_place_25 (by decide) (by omega) hex hnn hzz hwp.1 hwp.2

def wx_X11_energy (l0 : Nat) (l1 : Int32) (l2 : Int32) (h : PH) (Q : PH → Prop) : Prop := (wp_X11_isPart l0 l1 h (fun r2 h1 => ((r2 = 0 → (qn h1 + 1 ≤ 1000000 ∧ Q (qnew h1 12 0 6))) ∧ (¬ (r2 = 0) → (wp_X11_isPlace l0 l2 h1 (fun r5 h4 => ((¬ r5 = 0 → (∃ b7, qR h4 l0 10 = some b7 ∧ (∃ b9, qR h4 b7 0 = some b9 ∧ (vp_in l1 (qL h4 b9) ∧ ∃ b12, qR h4 b9 l1.toNatClampNeg = some b12 ∧ (∃ b14, qR h4 l0 10 = some b14 ∧ (wp_X4_energyAt b12 l2 (qI h4 b14 2) h4 (fun r17 h16 => False))))))) ∧ (r5 = 0 → (qn h4 + 1 ≤ 1000000 ∧ Q (qnew h4 12 0 6))))))))))
set_option maxHeartbeats 4000000 in
set_option maxRecDepth 100000 in
theorem sx_X11_energy (G : GT) (d : Nat) (l0 : Nat) (l1 : Int32) (l2 : Int32) (h : PH) (Q : PH → Prop) (okl0 : qOK h 10 l0) (hwp : wx_X11_energy l0 l1 l2 h Q) : Mx G (6 + d) mX11_energy [.ref l0, .int l1, .int l2] h Q := by
  unfold wx_X11_energy at hwp
  refine Mx.of (by decide) rfl (Nat.le_of_ble_eq_true rfl) ?_
  have hex := qEx.rf h
  have hnn : qn h = qn h + 0 := rfl
  have hzz : qz h = qz h + 0 := rfl
  refine x_lvE (lv2 := [(0, .ref l0), (1, .int l1), (2, .int l2)]) rfl ?_
  refine x_aload_n (pc := 0) dX11_energy_0 rfl ?_
  refine x_iload_n (pc := 1) dX11_energy_1 rfl ?_
  refine x_invV (As := [.int l1]) (st := []) (pc := 2) dX11_energy_2 lRX11_130 fX11_isPart vX11_isPart okl0 rfl (Nat.le_of_ble_eq_true rfl) (q_R (by omega) (by decide)) (q_C hnn hzz (by decide) (by decide)) (sn_X11_isPart G (d + 5) l0 l1 h _ okl0 hwp) (k_b (fun r2 h1 hwp zbr2 cxh1 => ?_))
  have hex := hex.tr cxh1.1
  have hnn : qn h1 = qn h + 0 := by have := cxh1.2.1; omega
  have hzz : qz h1 = qz h + 0 := by have := cxh1.2.2; omega
  have okl0 := okl0.ex cxh1.1
  refine x_if_eq (tgt := 16) (pc := 5) dX11_energy_5 (by decide) (fun c3 => ?_) (fun c3 => ?_)
  · have hwp := hwp.1 c3
    exact x_throw (pc := 16) (is := 157) (text := "no such part or place") rfl fX11_energy.1 dX11_energy_16 dX11_energy_19 dX11_energy_20 dX11_energy_22 dX11_energy_25 (by decide) (by omega) hex hnn hzz hwp.1 hwp.2
  · have hwp := hwp.2 c3
    refine x_aload_n (pc := 8) dX11_energy_8 rfl ?_
    refine x_iload_n (pc := 9) dX11_energy_9 rfl ?_
    refine x_invV (As := [.int l2]) (st := []) (pc := 10) dX11_energy_10 lRX11_134 fX11_isPlace vX11_isPlace okl0 rfl (Nat.le_of_ble_eq_true rfl) (q_R (by omega) (by decide)) (q_C hnn hzz (by decide) (by decide)) (sn_X11_isPlace G (d + 5) l0 l2 h1 _ okl0 hwp) (k_b (fun r5 h4 hwp zbr5 cxh4 => ?_))
    have hex := hex.tr cxh4.1
    have hnn : qn h4 = qn h + 0 := by have := cxh4.2.1; omega
    have hzz : qz h4 = qz h + 0 := by have := cxh4.2.2; omega
    have okl0 := okl0.ex cxh4.1
    refine x_if_ne (tgt := 26) (pc := 13) dX11_energy_13 (by decide) (fun c6 => ?_) (fun c6 => ?_)
    · have hwp := hwp.1 c6
      refine x_aload_n (pc := 26) dX11_energy_26 rfl ?_
      obtain ⟨b7, e8, hwp⟩ := hwp
      refine x_getR (pc := 27) dX11_energy_27 qRX11_70 okl0 e8 (fun okb7 => ?_)
      obtain ⟨b9, e10, hwp⟩ := hwp
      refine x_getR (pc := 30) dX11_energy_30 qRX11_144 okb7 e10 (fun okb9 => ?_)
      refine x_iload_n (pc := 33) dX11_energy_33 rfl ?_
      obtain ⟨i11, b12, e13, hwp⟩ := hwp
      refine x_aaload (t := 18) (pc := 34) dX11_energy_34 okb9 (by decide) i11 e13 (fun okb12 => ?_)
      refine x_iload_n (pc := 35) dX11_energy_35 rfl ?_
      refine x_aload_n (pc := 36) dX11_energy_36 rfl ?_
      obtain ⟨b14, e15, hwp⟩ := hwp
      refine x_getR (pc := 37) dX11_energy_37 qRX11_70 okl0 e15 (fun okb14 => ?_)
      refine x_getI (pc := 40) dX11_energy_40 qRX11_148 okb14 (by decide) ?_
      refine x_invV (As := [.int l2, .int (qI h4 b14 2)]) (st := []) (pc := 43) dX11_energy_43 lRX11_159 fX4_energyAt vX4_energyAt okb12 rfl (Nat.le_of_ble_eq_true rfl) (q_R (by omega) (by decide)) (q_C hnn hzz (by decide) (by decide)) (sn_X4_energyAt G (d + 3) b12 l2 (qI h4 b14 2) h4 _ okb12 hwp) (k_i (fun r17 h16 hwp cxh16 => ?_))
      have hex := hex.tr cxh16.1
      have hnn : qn h16 = qn h + 0 := by have := cxh16.2.1; omega
      have hzz : qz h16 = qz h + 0 := by have := cxh16.2.2; omega
      have okl0 := okl0.ex cxh16.1
      have okb7 := okb7.ex cxh16.1
      have okb9 := okb9.ex cxh16.1
      have okb12 := okb12.ex cxh16.1
      have okb14 := okb14.ex cxh16.1
      exact absurd hwp (fun w => w)
    · have hwp := hwp.2 c6
      exact x_throw (pc := 16) (is := 157) (text := "no such part or place") rfl fX11_energy.1 dX11_energy_16 dX11_energy_19 dX11_energy_20 dX11_energy_22 dX11_energy_25 (by decide) (by omega) hex hnn hzz hwp.1 hwp.2

def wx_X11_gives (l0 : Nat) (l1 : Int32) (l2 : Int32) (l3 : Int32) (h : PH) (Q : PH → Prop) : Prop := (wp_X11_isPart l0 l1 h (fun r2 h1 => ((r2 = 0 → (qn h1 + 1 ≤ 1000000 ∧ Q (qnew h1 12 0 6))) ∧ (¬ (r2 = 0) → (wp_X11_isPlace l0 l2 h1 (fun r5 h4 => ((r5 = 0 → (qn h4 + 1 ≤ 1000000 ∧ Q (qnew h4 12 0 6))) ∧ (¬ (r5 = 0) → (wp_X11_isLawSet l3 h4 (fun r8 h7 => ((¬ r8 = 0 → (∃ b10, qR h7 l0 10 = some b10 ∧ (∃ b12, qR h7 b10 0 = some b12 ∧ (vp_in l1 (qL h7 b12) ∧ ∃ b15, qR h7 b12 l1.toNatClampNeg = some b15 ∧ (∃ b17, qR h7 l0 10 = some b17 ∧ (wp_X4_givesIn b15 l2 l3 (qI h7 b17 2) h7 (fun r20 h19 => False))))))) ∧ (r8 = 0 → (qn h7 + 1 ≤ 1000000 ∧ Q (qnew h7 12 0 6))))))))))))))
set_option maxHeartbeats 4000000 in
set_option maxRecDepth 100000 in
theorem sx_X11_gives (G : GT) (d : Nat) (l0 : Nat) (l1 : Int32) (l2 : Int32) (l3 : Int32) (h : PH) (Q : PH → Prop) (okl0 : qOK h 10 l0) (hwp : wx_X11_gives l0 l1 l2 l3 h Q) : Mx G (6 + d) mX11_gives [.ref l0, .int l1, .int l2, .int l3] h Q := by
  unfold wx_X11_gives at hwp
  refine Mx.of (by decide) rfl (Nat.le_of_ble_eq_true rfl) ?_
  have hex := qEx.rf h
  have hnn : qn h = qn h + 0 := rfl
  have hzz : qz h = qz h + 0 := rfl
  refine x_lvE (lv2 := [(0, .ref l0), (1, .int l1), (2, .int l2), (3, .int l3)]) rfl ?_
  refine x_aload_n (pc := 0) dX11_gives_0 rfl ?_
  refine x_iload_n (pc := 1) dX11_gives_1 rfl ?_
  refine x_invV (As := [.int l1]) (st := []) (pc := 2) dX11_gives_2 lRX11_130 fX11_isPart vX11_isPart okl0 rfl (Nat.le_of_ble_eq_true rfl) (q_R (by omega) (by decide)) (q_C hnn hzz (by decide) (by decide)) (sn_X11_isPart G (d + 5) l0 l1 h _ okl0 hwp) (k_b (fun r2 h1 hwp zbr2 cxh1 => ?_))
  have hex := hex.tr cxh1.1
  have hnn : qn h1 = qn h + 0 := by have := cxh1.2.1; omega
  have hzz : qz h1 = qz h + 0 := by have := cxh1.2.2; omega
  have okl0 := okl0.ex cxh1.1
  refine x_if_eq (tgt := 23) (pc := 5) dX11_gives_5 (by decide) (fun c3 => ?_) (fun c3 => ?_)
  · have hwp := hwp.1 c3
    exact x_throw (pc := 23) (is := 165) (text := "no such part, t or laws") rfl fX11_gives.1 dX11_gives_23 dX11_gives_26 dX11_gives_27 dX11_gives_29 dX11_gives_32 (by decide) (by omega) hex hnn hzz hwp.1 hwp.2
  · have hwp := hwp.2 c3
    refine x_aload_n (pc := 8) dX11_gives_8 rfl ?_
    refine x_iload_n (pc := 9) dX11_gives_9 rfl ?_
    refine x_invV (As := [.int l2]) (st := []) (pc := 10) dX11_gives_10 lRX11_134 fX11_isPlace vX11_isPlace okl0 rfl (Nat.le_of_ble_eq_true rfl) (q_R (by omega) (by decide)) (q_C hnn hzz (by decide) (by decide)) (sn_X11_isPlace G (d + 5) l0 l2 h1 _ okl0 hwp) (k_b (fun r5 h4 hwp zbr5 cxh4 => ?_))
    have hex := hex.tr cxh4.1
    have hnn : qn h4 = qn h + 0 := by have := cxh4.2.1; omega
    have hzz : qz h4 = qz h + 0 := by have := cxh4.2.2; omega
    have okl0 := okl0.ex cxh4.1
    refine x_if_eq (tgt := 23) (pc := 13) dX11_gives_13 (by decide) (fun c6 => ?_) (fun c6 => ?_)
    · have hwp := hwp.1 c6
      exact x_throw (pc := 23) (is := 165) (text := "no such part, t or laws") rfl fX11_gives.1 dX11_gives_23 dX11_gives_26 dX11_gives_27 dX11_gives_29 dX11_gives_32 (by decide) (by omega) hex hnn hzz hwp.1 hwp.2
    · have hwp := hwp.2 c6
      refine x_iload_n (pc := 16) dX11_gives_16 rfl ?_
      refine x_invS (As := [.int l3]) (st := []) (pc := 17) dX11_gives_17 lRX11_162 fX11_isLawSet sX11_isLawSet rfl (Nat.le_of_ble_eq_true rfl) (q_R (by omega) (by decide)) (q_C hnn hzz (by decide) (by decide)) (sn_X11_isLawSet G (d + 5) l3 h4 _  hwp) (k_b (fun r8 h7 hwp zbr8 cxh7 => ?_))
      have hex := hex.tr cxh7.1
      have hnn : qn h7 = qn h + 0 := by have := cxh7.2.1; omega
      have hzz : qz h7 = qz h + 0 := by have := cxh7.2.2; omega
      have okl0 := okl0.ex cxh7.1
      refine x_if_ne (tgt := 33) (pc := 20) dX11_gives_20 (by decide) (fun c9 => ?_) (fun c9 => ?_)
      · have hwp := hwp.1 c9
        refine x_aload_n (pc := 33) dX11_gives_33 rfl ?_
        obtain ⟨b10, e11, hwp⟩ := hwp
        refine x_getR (pc := 34) dX11_gives_34 qRX11_70 okl0 e11 (fun okb10 => ?_)
        obtain ⟨b12, e13, hwp⟩ := hwp
        refine x_getR (pc := 37) dX11_gives_37 qRX11_144 okb10 e13 (fun okb12 => ?_)
        refine x_iload_n (pc := 40) dX11_gives_40 rfl ?_
        obtain ⟨i14, b15, e16, hwp⟩ := hwp
        refine x_aaload (t := 18) (pc := 41) dX11_gives_41 okb12 (by decide) i14 e16 (fun okb15 => ?_)
        refine x_iload_n (pc := 42) dX11_gives_42 rfl ?_
        refine x_iload_n (pc := 43) dX11_gives_43 rfl ?_
        refine x_aload_n (pc := 44) dX11_gives_44 rfl ?_
        obtain ⟨b17, e18, hwp⟩ := hwp
        refine x_getR (pc := 45) dX11_gives_45 qRX11_70 okl0 e18 (fun okb17 => ?_)
        refine x_getI (pc := 48) dX11_gives_48 qRX11_148 okb17 (by decide) ?_
        refine x_invV (As := [.int l2, .int l3, .int (qI h7 b17 2)]) (st := []) (pc := 51) dX11_gives_51 lRX11_167 fX4_givesIn vX4_givesIn okb15 rfl (Nat.le_of_ble_eq_true rfl) (q_R (by omega) (by decide)) (q_C hnn hzz (by decide) (by decide)) (sn_X4_givesIn G (d + 2) b15 l2 l3 (qI h7 b17 2) h7 _ okb15 hwp) (k_i (fun r20 h19 hwp cxh19 => ?_))
        have hex := hex.tr cxh19.1
        have hnn : qn h19 = qn h + 0 := by have := cxh19.2.1; omega
        have hzz : qz h19 = qz h + 0 := by have := cxh19.2.2; omega
        have okl0 := okl0.ex cxh19.1
        have okb10 := okb10.ex cxh19.1
        have okb12 := okb12.ex cxh19.1
        have okb15 := okb15.ex cxh19.1
        have okb17 := okb17.ex cxh19.1
        exact absurd hwp (fun w => w)
      · have hwp := hwp.2 c9
        exact x_throw (pc := 23) (is := 165) (text := "no such part, t or laws") rfl fX11_gives.1 dX11_gives_23 dX11_gives_26 dX11_gives_27 dX11_gives_29 dX11_gives_32 (by decide) (by omega) hex hnn hzz hwp.1 hwp.2

def wx_X11_sum (l0 : Nat) (l1 : Int32) (l2 : Int32) (h : PH) (Q : PH → Prop) : Prop := (wp_X11_isLawSet l2 h (fun r2 h1 => ((r2 = 0 → (qn h1 + 1 ≤ 1000000 ∧ Q (qnew h1 12 0 6))) ∧ (¬ (r2 = 0) → ((l1 = (-1) → ((¬ l1 = (-1) → (∃ b6, qR h1 l0 10 = some b6 ∧ (∃ b8, qR h1 b6 0 = some b8 ∧ (vp_in l1 (qL h1 b8) ∧ ∃ b11, qR h1 b8 l1.toNatClampNeg = some b11 ∧ (∃ b13, qR h1 l0 10 = some b13 ∧ (wp_X4_sumWith b11 l2 (qI h1 b13 2) h1 (fun r16 h15 => False))))))) ∧ (l1 = (-1) → (∃ b17, qR h1 l0 2 = some b17 ∧ (wp_X8_wholeWith b17 l2 h1 (fun r20 h19 => False)))))) ∧ (¬ (l1 = (-1)) → (wp_X11_isPart l0 l1 h1 (fun r22 h21 => ((¬ r22 = 0 → ((¬ l1 = (-1) → (∃ b25, qR h21 l0 10 = some b25 ∧ (∃ b27, qR h21 b25 0 = some b27 ∧ (vp_in l1 (qL h21 b27) ∧ ∃ b30, qR h21 b27 l1.toNatClampNeg = some b30 ∧ (∃ b32, qR h21 l0 10 = some b32 ∧ (wp_X4_sumWith b30 l2 (qI h21 b32 2) h21 (fun r35 h34 => False))))))) ∧ (l1 = (-1) → (∃ b36, qR h21 l0 2 = some b36 ∧ (wp_X8_wholeWith b36 l2 h21 (fun r39 h38 => False)))))) ∧ (r22 = 0 → (qn h21 + 1 ≤ 1000000 ∧ Q (qnew h21 12 0 6))))))))))))
set_option maxHeartbeats 4000000 in
set_option maxRecDepth 100000 in
theorem sx_X11_sum (G : GT) (d : Nat) (l0 : Nat) (l1 : Int32) (l2 : Int32) (h : PH) (Q : PH → Prop) (okl0 : qOK h 10 l0) (hwp : wx_X11_sum l0 l1 l2 h Q) : Mx G (6 + d) mX11_sum [.ref l0, .int l1, .int l2] h Q := by
  unfold wx_X11_sum at hwp
  refine Mx.of (by decide) rfl (Nat.le_of_ble_eq_true rfl) ?_
  have hex := qEx.rf h
  have hnn : qn h = qn h + 0 := rfl
  have hzz : qz h = qz h + 0 := rfl
  refine x_lvE (lv2 := [(0, .ref l0), (1, .int l1), (2, .int l2)]) rfl ?_
  refine x_iload_n (pc := 0) dX11_sum_0 rfl ?_
  refine x_invS (As := [.int l2]) (st := []) (pc := 1) dX11_sum_1 lRX11_162 fX11_isLawSet sX11_isLawSet rfl (Nat.le_of_ble_eq_true rfl) (q_R (by omega) (by decide)) (q_C hnn hzz (by decide) (by decide)) (sn_X11_isLawSet G (d + 5) l2 h _  hwp) (k_b (fun r2 h1 hwp zbr2 cxh1 => ?_))
  have hex := hex.tr cxh1.1
  have hnn : qn h1 = qn h + 0 := by have := cxh1.2.1; omega
  have hzz : qz h1 = qz h + 0 := by have := cxh1.2.2; omega
  have okl0 := okl0.ex cxh1.1
  refine x_if_eq (tgt := 20) (pc := 4) dX11_sum_4 (by decide) (fun c3 => ?_) (fun c3 => ?_)
  · have hwp := hwp.1 c3
    exact x_throw (pc := 20) (is := 171) (text := "no such part or laws") rfl fX11_sum.1 dX11_sum_20 dX11_sum_23 dX11_sum_24 dX11_sum_26 dX11_sum_29 (by decide) (by omega) hex hnn hzz hwp.1 hwp.2
  · have hwp := hwp.2 c3
    refine x_iload_n (pc := 7) dX11_sum_7 rfl ?_
    refine x_iconst (v := (-1)) (pc := 8) dX11_sum_8 (by decide) ?_
    refine x_icmp_eq (tgt := 30) (pc := 9) dX11_sum_9 (by decide) (fun c4 => ?_) (fun c4 => ?_)
    · have hwp := hwp.1 c4
      refine x_iload_n (pc := 30) dX11_sum_30 rfl ?_
      refine x_iconst (v := (-1)) (pc := 31) dX11_sum_31 (by decide) ?_
      refine x_icmp_ne (tgt := 46) (pc := 32) dX11_sum_32 (by decide) (fun c5 => ?_) (fun c5 => ?_)
      · have hwp := hwp.1 c5
        refine x_aload_n (pc := 46) dX11_sum_46 rfl ?_
        obtain ⟨b6, e7, hwp⟩ := hwp
        refine x_getR (pc := 47) dX11_sum_47 qRX11_70 okl0 e7 (fun okb6 => ?_)
        obtain ⟨b8, e9, hwp⟩ := hwp
        refine x_getR (pc := 50) dX11_sum_50 qRX11_144 okb6 e9 (fun okb8 => ?_)
        refine x_iload_n (pc := 53) dX11_sum_53 rfl ?_
        obtain ⟨i10, b11, e12, hwp⟩ := hwp
        refine x_aaload (t := 18) (pc := 54) dX11_sum_54 okb8 (by decide) i10 e12 (fun okb11 => ?_)
        refine x_iload_n (pc := 55) dX11_sum_55 rfl ?_
        refine x_aload_n (pc := 56) dX11_sum_56 rfl ?_
        obtain ⟨b13, e14, hwp⟩ := hwp
        refine x_getR (pc := 57) dX11_sum_57 qRX11_70 okl0 e14 (fun okb13 => ?_)
        refine x_getI (pc := 60) dX11_sum_60 qRX11_148 okb13 (by decide) ?_
        refine x_invV (As := [.int l2, .int (qI h1 b13 2)]) (st := []) (pc := 63) dX11_sum_63 lRX11_177 fX4_sumWith vX4_sumWith okb11 rfl (Nat.le_of_ble_eq_true rfl) (q_R (by omega) (by decide)) (q_C hnn hzz (by decide) (by decide)) (sn_X4_sumWith G (d + 1) b11 l2 (qI h1 b13 2) h1 _ okb11 hwp) (k_i (fun r16 h15 hwp cxh15 => ?_))
        have hex := hex.tr cxh15.1
        have hnn : qn h15 = qn h + 0 := by have := cxh15.2.1; omega
        have hzz : qz h15 = qz h + 0 := by have := cxh15.2.2; omega
        have okl0 := okl0.ex cxh15.1
        have okb6 := okb6.ex cxh15.1
        have okb8 := okb8.ex cxh15.1
        have okb11 := okb11.ex cxh15.1
        have okb13 := okb13.ex cxh15.1
        exact absurd hwp (fun w => w)
      · have hwp := hwp.2 c5
        refine x_aload_n (pc := 35) dX11_sum_35 rfl ?_
        obtain ⟨b17, e18, hwp⟩ := hwp
        refine x_getR (pc := 36) dX11_sum_36 qRX11_26 okl0 e18 (fun okb17 => ?_)
        refine x_iload_n (pc := 39) dX11_sum_39 rfl ?_
        refine x_invV (As := [.int l2]) (st := []) (pc := 40) dX11_sum_40 lRX11_173 fX8_wholeWith vX8_wholeWith okb17 rfl (Nat.le_of_ble_eq_true rfl) (q_R (by omega) (by decide)) (q_C hnn hzz (by decide) (by decide)) (sn_X8_wholeWith G (d + 4) b17 l2 h1 _ okb17 hwp) (k_i (fun r20 h19 hwp cxh19 => ?_))
        have hex := hex.tr cxh19.1
        have hnn : qn h19 = qn h + 0 := by have := cxh19.2.1; omega
        have hzz : qz h19 = qz h + 0 := by have := cxh19.2.2; omega
        have okl0 := okl0.ex cxh19.1
        have okb17 := okb17.ex cxh19.1
        refine x_goto (tgt := 66) (pc := 43) dX11_sum_43 (by decide) ?_
        exact absurd hwp (fun w => w)
    · have hwp := hwp.2 c4
      refine x_aload_n (pc := 12) dX11_sum_12 rfl ?_
      refine x_iload_n (pc := 13) dX11_sum_13 rfl ?_
      refine x_invV (As := [.int l1]) (st := []) (pc := 14) dX11_sum_14 lRX11_130 fX11_isPart vX11_isPart okl0 rfl (Nat.le_of_ble_eq_true rfl) (q_R (by omega) (by decide)) (q_C hnn hzz (by decide) (by decide)) (sn_X11_isPart G (d + 5) l0 l1 h1 _ okl0 hwp) (k_b (fun r22 h21 hwp zbr22 cxh21 => ?_))
      have hex := hex.tr cxh21.1
      have hnn : qn h21 = qn h + 0 := by have := cxh21.2.1; omega
      have hzz : qz h21 = qz h + 0 := by have := cxh21.2.2; omega
      have okl0 := okl0.ex cxh21.1
      refine x_if_ne (tgt := 30) (pc := 17) dX11_sum_17 (by decide) (fun c23 => ?_) (fun c23 => ?_)
      · have hwp := hwp.1 c23
        refine x_iload_n (pc := 30) dX11_sum_30 rfl ?_
        refine x_iconst (v := (-1)) (pc := 31) dX11_sum_31 (by decide) ?_
        refine x_icmp_ne (tgt := 46) (pc := 32) dX11_sum_32 (by decide) (fun c24 => ?_) (fun c24 => ?_)
        · have hwp := hwp.1 c24
          refine x_aload_n (pc := 46) dX11_sum_46 rfl ?_
          obtain ⟨b25, e26, hwp⟩ := hwp
          refine x_getR (pc := 47) dX11_sum_47 qRX11_70 okl0 e26 (fun okb25 => ?_)
          obtain ⟨b27, e28, hwp⟩ := hwp
          refine x_getR (pc := 50) dX11_sum_50 qRX11_144 okb25 e28 (fun okb27 => ?_)
          refine x_iload_n (pc := 53) dX11_sum_53 rfl ?_
          obtain ⟨i29, b30, e31, hwp⟩ := hwp
          refine x_aaload (t := 18) (pc := 54) dX11_sum_54 okb27 (by decide) i29 e31 (fun okb30 => ?_)
          refine x_iload_n (pc := 55) dX11_sum_55 rfl ?_
          refine x_aload_n (pc := 56) dX11_sum_56 rfl ?_
          obtain ⟨b32, e33, hwp⟩ := hwp
          refine x_getR (pc := 57) dX11_sum_57 qRX11_70 okl0 e33 (fun okb32 => ?_)
          refine x_getI (pc := 60) dX11_sum_60 qRX11_148 okb32 (by decide) ?_
          refine x_invV (As := [.int l2, .int (qI h21 b32 2)]) (st := []) (pc := 63) dX11_sum_63 lRX11_177 fX4_sumWith vX4_sumWith okb30 rfl (Nat.le_of_ble_eq_true rfl) (q_R (by omega) (by decide)) (q_C hnn hzz (by decide) (by decide)) (sn_X4_sumWith G (d + 1) b30 l2 (qI h21 b32 2) h21 _ okb30 hwp) (k_i (fun r35 h34 hwp cxh34 => ?_))
          have hex := hex.tr cxh34.1
          have hnn : qn h34 = qn h + 0 := by have := cxh34.2.1; omega
          have hzz : qz h34 = qz h + 0 := by have := cxh34.2.2; omega
          have okl0 := okl0.ex cxh34.1
          have okb25 := okb25.ex cxh34.1
          have okb27 := okb27.ex cxh34.1
          have okb30 := okb30.ex cxh34.1
          have okb32 := okb32.ex cxh34.1
          exact absurd hwp (fun w => w)
        · have hwp := hwp.2 c24
          refine x_aload_n (pc := 35) dX11_sum_35 rfl ?_
          obtain ⟨b36, e37, hwp⟩ := hwp
          refine x_getR (pc := 36) dX11_sum_36 qRX11_26 okl0 e37 (fun okb36 => ?_)
          refine x_iload_n (pc := 39) dX11_sum_39 rfl ?_
          refine x_invV (As := [.int l2]) (st := []) (pc := 40) dX11_sum_40 lRX11_173 fX8_wholeWith vX8_wholeWith okb36 rfl (Nat.le_of_ble_eq_true rfl) (q_R (by omega) (by decide)) (q_C hnn hzz (by decide) (by decide)) (sn_X8_wholeWith G (d + 4) b36 l2 h21 _ okb36 hwp) (k_i (fun r39 h38 hwp cxh38 => ?_))
          have hex := hex.tr cxh38.1
          have hnn : qn h38 = qn h + 0 := by have := cxh38.2.1; omega
          have hzz : qz h38 = qz h + 0 := by have := cxh38.2.2; omega
          have okl0 := okl0.ex cxh38.1
          have okb36 := okb36.ex cxh38.1
          refine x_goto (tgt := 66) (pc := 43) dX11_sum_43 (by decide) ?_
          exact absurd hwp (fun w => w)
      · have hwp := hwp.2 c23
        exact x_throw (pc := 20) (is := 171) (text := "no such part or laws") rfl fX11_sum.1 dX11_sum_20 dX11_sum_23 dX11_sum_24 dX11_sum_26 dX11_sum_29 (by decide) (by omega) hex hnn hzz hwp.1 hwp.2

def wx_X11_value (l0 : Nat) (l1 : Int32) (l2 : Int32) (h : PH) (Q : PH → Prop) : Prop := ((l1 < 0 → (qn h + 1 ≤ 1000000 ∧ Q (qnew h 12 0 6))) ∧ (¬ (l1 < 0) → ((8 ≤ l1 → (qn h + 1 ≤ 1000000 ∧ Q (qnew h 12 0 6))) ∧ (¬ (8 ≤ l1) → ((l2 = (-1) → (∃ b4, qR h l0 2 = some b4 ∧ (wp_X8_valueAt b4 l1 l2 h (fun r7 h6 => False)))) ∧ (¬ (l2 = (-1)) → (wp_X11_isPlace l0 l2 h (fun r9 h8 => ((¬ r9 = 0 → (∃ b11, qR h8 l0 2 = some b11 ∧ (wp_X8_valueAt b11 l1 l2 h8 (fun r14 h13 => False)))) ∧ (r9 = 0 → (qn h8 + 1 ≤ 1000000 ∧ Q (qnew h8 12 0 6))))))))))))
set_option maxHeartbeats 4000000 in
set_option maxRecDepth 100000 in
theorem sx_X11_value (G : GT) (d : Nat) (l0 : Nat) (l1 : Int32) (l2 : Int32) (h : PH) (Q : PH → Prop) (okl0 : qOK h 10 l0) (hwp : wx_X11_value l0 l1 l2 h Q) : Mx G (6 + d) mX11_value [.ref l0, .int l1, .int l2] h Q := by
  unfold wx_X11_value at hwp
  refine Mx.of (by decide) rfl (Nat.le_of_ble_eq_true rfl) ?_
  have hex := qEx.rf h
  have hnn : qn h = qn h + 0 := rfl
  have hzz : qz h = qz h + 0 := rfl
  refine x_lvE (lv2 := [(0, .ref l0), (1, .int l1), (2, .int l2)]) rfl ?_
  refine x_iload_n (pc := 0) dX11_value_0 rfl ?_
  refine x_if_lt (tgt := 23) (pc := 1) dX11_value_1 (by decide) (fun c1 => ?_) (fun c1 => ?_)
  · have hwp := hwp.1 c1
    exact x_throw (pc := 23) (is := 238) (text := "no such value or t") rfl fX11_value.1 dX11_value_23 dX11_value_26 dX11_value_27 dX11_value_29 dX11_value_32 (by decide) (by omega) hex hnn hzz hwp.1 hwp.2
  · have hwp := hwp.2 c1
    refine x_iload_n (pc := 4) dX11_value_4 rfl ?_
    refine x_bipush (v := 8) (pc := 5) dX11_value_5 (by decide) ?_
    refine x_icmp_ge (tgt := 23) (pc := 7) dX11_value_7 (by decide) (fun c2 => ?_) (fun c2 => ?_)
    · have hwp := hwp.1 c2
      exact x_throw (pc := 23) (is := 238) (text := "no such value or t") rfl fX11_value.1 dX11_value_23 dX11_value_26 dX11_value_27 dX11_value_29 dX11_value_32 (by decide) (by omega) hex hnn hzz hwp.1 hwp.2
    · have hwp := hwp.2 c2
      refine x_iload_n (pc := 10) dX11_value_10 rfl ?_
      refine x_iconst (v := (-1)) (pc := 11) dX11_value_11 (by decide) ?_
      refine x_icmp_eq (tgt := 33) (pc := 12) dX11_value_12 (by decide) (fun c3 => ?_) (fun c3 => ?_)
      · have hwp := hwp.1 c3
        refine x_aload_n (pc := 33) dX11_value_33 rfl ?_
        obtain ⟨b4, e5, hwp⟩ := hwp
        refine x_getR (pc := 34) dX11_value_34 qRX11_26 okl0 e5 (fun okb4 => ?_)
        refine x_iload_n (pc := 37) dX11_value_37 rfl ?_
        refine x_iload_n (pc := 38) dX11_value_38 rfl ?_
        refine x_invV (As := [.int l1, .int l2]) (st := []) (pc := 39) dX11_value_39 lRX11_240 fX8_valueAt vX8_valueAt okb4 rfl (Nat.le_of_ble_eq_true rfl) (q_R (by omega) (by decide)) (q_C hnn hzz (by decide) (by decide)) (sn_X8_valueAt G (d + 5) b4 l1 l2 h _ okb4 hwp) (k_i (fun r7 h6 hwp cxh6 => ?_))
        have hex := hex.tr cxh6.1
        have hnn : qn h6 = qn h + 0 := by have := cxh6.2.1; omega
        have hzz : qz h6 = qz h + 0 := by have := cxh6.2.2; omega
        have okl0 := okl0.ex cxh6.1
        have okb4 := okb4.ex cxh6.1
        exact absurd hwp (fun w => w)
      · have hwp := hwp.2 c3
        refine x_aload_n (pc := 15) dX11_value_15 rfl ?_
        refine x_iload_n (pc := 16) dX11_value_16 rfl ?_
        refine x_invV (As := [.int l2]) (st := []) (pc := 17) dX11_value_17 lRX11_134 fX11_isPlace vX11_isPlace okl0 rfl (Nat.le_of_ble_eq_true rfl) (q_R (by omega) (by decide)) (q_C hnn hzz (by decide) (by decide)) (sn_X11_isPlace G (d + 5) l0 l2 h _ okl0 hwp) (k_b (fun r9 h8 hwp zbr9 cxh8 => ?_))
        have hex := hex.tr cxh8.1
        have hnn : qn h8 = qn h + 0 := by have := cxh8.2.1; omega
        have hzz : qz h8 = qz h + 0 := by have := cxh8.2.2; omega
        have okl0 := okl0.ex cxh8.1
        refine x_if_ne (tgt := 33) (pc := 20) dX11_value_20 (by decide) (fun c10 => ?_) (fun c10 => ?_)
        · have hwp := hwp.1 c10
          refine x_aload_n (pc := 33) dX11_value_33 rfl ?_
          obtain ⟨b11, e12, hwp⟩ := hwp
          refine x_getR (pc := 34) dX11_value_34 qRX11_26 okl0 e12 (fun okb11 => ?_)
          refine x_iload_n (pc := 37) dX11_value_37 rfl ?_
          refine x_iload_n (pc := 38) dX11_value_38 rfl ?_
          refine x_invV (As := [.int l1, .int l2]) (st := []) (pc := 39) dX11_value_39 lRX11_240 fX8_valueAt vX8_valueAt okb11 rfl (Nat.le_of_ble_eq_true rfl) (q_R (by omega) (by decide)) (q_C hnn hzz (by decide) (by decide)) (sn_X8_valueAt G (d + 5) b11 l1 l2 h8 _ okb11 hwp) (k_i (fun r14 h13 hwp cxh13 => ?_))
          have hex := hex.tr cxh13.1
          have hnn : qn h13 = qn h + 0 := by have := cxh13.2.1; omega
          have hzz : qz h13 = qz h + 0 := by have := cxh13.2.2; omega
          have okl0 := okl0.ex cxh13.1
          have okb11 := okb11.ex cxh13.1
          exact absurd hwp (fun w => w)
        · have hwp := hwp.2 c10
          exact x_throw (pc := 23) (is := 238) (text := "no such value or t") rfl fX11_value.1 dX11_value_23 dX11_value_26 dX11_value_27 dX11_value_29 dX11_value_32 (by decide) (by omega) hex hnn hzz hwp.1 hwp.2

theorem dL_place_16 : decode cL_place 16 = .ok (.ireturn, 1) := by decide +kernel
theorem dL_place_15 : decode cL_place 15 = .ok (.iconst 1, 1) := by decide +kernel
theorem dL_place_13 : decode cL_place 13 = .ok (.astore 4, 2) := by decide +kernel
theorem dL_place_0 : decode cL_place 0 = .ok (.aload_n 3, 1) := by decide +kernel
theorem dL_place_1 : decode cL_place 1 = .ok (.iconst 0, 1) := by decide +kernel
theorem dL_place_2 : decode cL_place 2 = .ok (.aload_n 0, 1) := by decide +kernel
theorem dL_place_3 : decode cL_place 3 = .ok (.iload_n 1, 1) := by decide +kernel
theorem dL_place_4 : decode cL_place 4 = .ok (.iload_n 2, 1) := by decide +kernel
theorem dL_place_5 : decode cL_place 5 = .ok (.invokevirtual 7, 3) := by decide +kernel
theorem dL_place_8 : decode cL_place 8 = .ok (.i2l, 1) := by decide +kernel
theorem dL_place_9 : decode cL_place 9 = .ok (.lastore, 1) := by decide +kernel
theorem dL_place_10 : decode cL_place 10 = .ok (.goto 7, 3) := by decide +kernel
theorem dL_place_17 : decode cL_place 17 = .ok (.iconst 0, 1) := by decide +kernel
theorem dL_place_18 : decode cL_place 18 = .ok (.ireturn, 1) := by decide +kernel
def wp_L_place (l0 : Nat) (l1 : Int32) (l2 : Int32) (l3 : Nat) (h : PH) (Q : Int32 → PH → Prop) : Prop := (wp_X11_place l0 l1 l2 h (fun r2 h1 => (vp_in 0 (qL h1 l3) ∧ ∀ h3, h3 = qsJ h1 l3 (0 : Int32).toNatClampNeg r2.toInt64 → Q 0 h3)))
set_option maxHeartbeats 4000000 in
set_option maxRecDepth 100000 in
theorem sn_L_place (G : GT) (d : Nat) (l0 : Nat) (l1 : Int32) (l2 : Int32) (l3 : Nat) (h : PH) (Q : Int32 → PH → Prop) (okl0 : qOK h 10 l0) (okl3 : qOK h 15 l3) (hwp : wp_L_place l0 l1 l2 l3 h Q) : Mh G (2 + d) 0 0 mL_place [(0, 10, 13, 13)] [.ref l0, .int l1, .int l2, .ref l3] h (qqi Q) := by
  unfold wp_L_place at hwp
  refine Mh.of (by decide) rfl (Nat.le_of_ble_eq_true rfl) (ZH.up ?_)
  have hex := qEx.rf h
  have hnn : qn h = qn h + 0 := rfl
  have hzz : qz h = qz h + 0 := rfl
  refine x_lvE (lv2 := [(0, .ref l0), (1, .int l1), (2, .int l2), (3, .ref l3)]) rfl ?_
  refine x_aload_n (pc := 0) dL_place_0 rfl ?_
  refine x_iconst (v := 0) (pc := 1) dL_place_1 (by decide) ?_
  refine x_aload_n (pc := 2) dL_place_2 rfl ?_
  refine x_iload_n (pc := 3) dL_place_3 rfl ?_
  refine x_iload_n (pc := 4) dL_place_4 rfl ?_
  refine x_invV (As := [.int l1, .int l2]) (st := [.int 0, .ref l3]) (pc := 5) dL_place_5 lRL_7 fX11_place vX11_place okl0 rfl (Nat.le_of_ble_eq_true rfl) (q_R (by omega) (by decide)) (q_C hnn hzz (by decide) (by decide)) (sn_X11_place G (d + 0) l0 l1 l2 h _ okl0 hwp) (k_i (fun r2 h1 hwp cxh1 => ?_))
  have hex := hex.tr cxh1.1
  have hnn : qn h1 = qn h + 0 := by have := cxh1.2.1; omega
  have hzz : qz h1 = qz h + 0 := by have := cxh1.2.2; omega
  have okl0 := okl0.ex cxh1.1
  have okl3 := okl3.ex cxh1.1
  refine x_i2l (pc := 8) dL_place_8 ?_
  obtain ⟨i4, hwp⟩ := hwp
  refine y_lastore (pc := 9) dL_place_9 okl3 i4 (fun h3 eh3 nxh3 => ?_)
  have hwp := hwp h3 eh3
  have hex := hex.tr nxh3.1
  have hnn := nxh3.2.1.trans hnn
  have hzz := nxh3.2.2.trans hzz
  have okl0 := okl0.ex nxh3.1
  have okl3 := okl3.ex nxh3.1
  refine x_goto (tgt := 17) (pc := 10) dL_place_10 (by decide) ?_
  refine x_iconst (v := 0) (pc := 17) dL_place_17 (by decide) ?_
  exact x_iret (pc := 18) dL_place_18 rfl hex hnn hzz ⟨_, rfl, hwp⟩

def wx_L_place (l0 : Nat) (l1 : Int32) (l2 : Int32) (l3 : Nat) (h : PH) (Q : Int32 → PH → Prop) : Prop := (wx_X11_place l0 l1 l2 h (fun h1 => Q 1 h1))
set_option maxHeartbeats 4000000 in
set_option maxRecDepth 100000 in
theorem sx_L_place (G : GT) (d : Nat) (l0 : Nat) (l1 : Int32) (l2 : Int32) (l3 : Nat) (h : PH) (Q : Int32 → PH → Prop) (okl0 : qOK h 10 l0) (okl3 : qOK h 15 l3) (hwp : wx_L_place l0 l1 l2 l3 h Q) : Mh G (7 + d) 1 6 mL_place [(0, 10, 13, 13)] [.ref l0, .int l1, .int l2, .ref l3] h (qqi Q) := by
  unfold wx_L_place at hwp
  refine Mh.of (by decide) rfl (Nat.le_of_ble_eq_true rfl) ?_
  have hex := qEx.rf h
  have hnn : qn h = qn h + 0 := rfl
  have hzz : qz h = qz h + 0 := rfl
  refine x_lvE (lv2 := [(0, .ref l0), (1, .int l1), (2, .int l2), (3, .ref l3)]) rfl ?_
  refine x_aload_n (pc := 0) dL_place_0 rfl ?_
  refine x_iconst (v := 0) (pc := 1) dL_place_1 (by decide) ?_
  refine x_aload_n (pc := 2) dL_place_2 rfl ?_
  refine x_iload_n (pc := 3) dL_place_3 rfl ?_
  refine x_iload_n (pc := 4) dL_place_4 rfl ?_
  exact x_invX (d2 := 6 + (d + 0)) (As := [.int l1, .int l2]) (st := [.int 0, .ref l3]) (k9 := 4) (pc := 5) dL_place_5 lRL_7 fX11_place vX11_place okl0 rfl (Nat.le_of_ble_eq_true rfl) (q_R (by omega) (by decide)) (sx_X11_place G (d + 0) l0 l1 l2 h _ okl0 hwp) cwL_place rfl clRL_13 hex hnn hzz dL_place_13 (by decide) dL_place_15 dL_place_16 rfl (fun h1 t => ⟨1, rfl, t⟩)

theorem dL_energy_16 : decode cL_energy 16 = .ok (.ireturn, 1) := by decide +kernel
theorem dL_energy_15 : decode cL_energy 15 = .ok (.iconst 1, 1) := by decide +kernel
theorem dL_energy_13 : decode cL_energy 13 = .ok (.astore 4, 2) := by decide +kernel
theorem dL_energy_0 : decode cL_energy 0 = .ok (.aload_n 3, 1) := by decide +kernel
theorem dL_energy_1 : decode cL_energy 1 = .ok (.iconst 0, 1) := by decide +kernel
theorem dL_energy_2 : decode cL_energy 2 = .ok (.aload_n 0, 1) := by decide +kernel
theorem dL_energy_3 : decode cL_energy 3 = .ok (.iload_n 1, 1) := by decide +kernel
theorem dL_energy_4 : decode cL_energy 4 = .ok (.iload_n 2, 1) := by decide +kernel
theorem dL_energy_5 : decode cL_energy 5 = .ok (.invokevirtual 15, 3) := by decide +kernel
theorem dL_energy_8 : decode cL_energy 8 = .ok (.i2l, 1) := by decide +kernel
theorem dL_energy_9 : decode cL_energy 9 = .ok (.lastore, 1) := by decide +kernel
theorem dL_energy_10 : decode cL_energy 10 = .ok (.goto 7, 3) := by decide +kernel
theorem dL_energy_17 : decode cL_energy 17 = .ok (.iconst 0, 1) := by decide +kernel
theorem dL_energy_18 : decode cL_energy 18 = .ok (.ireturn, 1) := by decide +kernel
def wp_L_energy (l0 : Nat) (l1 : Int32) (l2 : Int32) (l3 : Nat) (h : PH) (Q : Int32 → PH → Prop) : Prop := (wp_X11_energy l0 l1 l2 h (fun r2 h1 => (vp_in 0 (qL h1 l3) ∧ ∀ h3, h3 = qsJ h1 l3 (0 : Int32).toNatClampNeg r2.toInt64 → Q 0 h3)))
set_option maxHeartbeats 4000000 in
set_option maxRecDepth 100000 in
theorem sn_L_energy (G : GT) (d : Nat) (l0 : Nat) (l1 : Int32) (l2 : Int32) (l3 : Nat) (h : PH) (Q : Int32 → PH → Prop) (okl0 : qOK h 10 l0) (okl3 : qOK h 15 l3) (hwp : wp_L_energy l0 l1 l2 l3 h Q) : Mh G (4 + d) 0 0 mL_energy [(0, 10, 13, 13)] [.ref l0, .int l1, .int l2, .ref l3] h (qqi Q) := by
  unfold wp_L_energy at hwp
  refine Mh.of (by decide) rfl (Nat.le_of_ble_eq_true rfl) (ZH.up ?_)
  have hex := qEx.rf h
  have hnn : qn h = qn h + 0 := rfl
  have hzz : qz h = qz h + 0 := rfl
  refine x_lvE (lv2 := [(0, .ref l0), (1, .int l1), (2, .int l2), (3, .ref l3)]) rfl ?_
  refine x_aload_n (pc := 0) dL_energy_0 rfl ?_
  refine x_iconst (v := 0) (pc := 1) dL_energy_1 (by decide) ?_
  refine x_aload_n (pc := 2) dL_energy_2 rfl ?_
  refine x_iload_n (pc := 3) dL_energy_3 rfl ?_
  refine x_iload_n (pc := 4) dL_energy_4 rfl ?_
  refine x_invV (As := [.int l1, .int l2]) (st := [.int 0, .ref l3]) (pc := 5) dL_energy_5 lRL_15 fX11_energy vX11_energy okl0 rfl (Nat.le_of_ble_eq_true rfl) (q_R (by omega) (by decide)) (q_C hnn hzz (by decide) (by decide)) (sn_X11_energy G (d + 0) l0 l1 l2 h _ okl0 hwp) (k_i (fun r2 h1 hwp cxh1 => ?_))
  have hex := hex.tr cxh1.1
  have hnn : qn h1 = qn h + 0 := by have := cxh1.2.1; omega
  have hzz : qz h1 = qz h + 0 := by have := cxh1.2.2; omega
  have okl0 := okl0.ex cxh1.1
  have okl3 := okl3.ex cxh1.1
  refine x_i2l (pc := 8) dL_energy_8 ?_
  obtain ⟨i4, hwp⟩ := hwp
  refine y_lastore (pc := 9) dL_energy_9 okl3 i4 (fun h3 eh3 nxh3 => ?_)
  have hwp := hwp h3 eh3
  have hex := hex.tr nxh3.1
  have hnn := nxh3.2.1.trans hnn
  have hzz := nxh3.2.2.trans hzz
  have okl0 := okl0.ex nxh3.1
  have okl3 := okl3.ex nxh3.1
  refine x_goto (tgt := 17) (pc := 10) dL_energy_10 (by decide) ?_
  refine x_iconst (v := 0) (pc := 17) dL_energy_17 (by decide) ?_
  exact x_iret (pc := 18) dL_energy_18 rfl hex hnn hzz ⟨_, rfl, hwp⟩

def wx_L_energy (l0 : Nat) (l1 : Int32) (l2 : Int32) (l3 : Nat) (h : PH) (Q : Int32 → PH → Prop) : Prop := (wx_X11_energy l0 l1 l2 h (fun h1 => Q 1 h1))
set_option maxHeartbeats 4000000 in
set_option maxRecDepth 100000 in
theorem sx_L_energy (G : GT) (d : Nat) (l0 : Nat) (l1 : Int32) (l2 : Int32) (l3 : Nat) (h : PH) (Q : Int32 → PH → Prop) (okl0 : qOK h 10 l0) (okl3 : qOK h 15 l3) (hwp : wx_L_energy l0 l1 l2 l3 h Q) : Mh G (7 + d) 1 6 mL_energy [(0, 10, 13, 13)] [.ref l0, .int l1, .int l2, .ref l3] h (qqi Q) := by
  unfold wx_L_energy at hwp
  refine Mh.of (by decide) rfl (Nat.le_of_ble_eq_true rfl) ?_
  have hex := qEx.rf h
  have hnn : qn h = qn h + 0 := rfl
  have hzz : qz h = qz h + 0 := rfl
  refine x_lvE (lv2 := [(0, .ref l0), (1, .int l1), (2, .int l2), (3, .ref l3)]) rfl ?_
  refine x_aload_n (pc := 0) dL_energy_0 rfl ?_
  refine x_iconst (v := 0) (pc := 1) dL_energy_1 (by decide) ?_
  refine x_aload_n (pc := 2) dL_energy_2 rfl ?_
  refine x_iload_n (pc := 3) dL_energy_3 rfl ?_
  refine x_iload_n (pc := 4) dL_energy_4 rfl ?_
  exact x_invX (d2 := 6 + (d + 0)) (As := [.int l1, .int l2]) (st := [.int 0, .ref l3]) (k9 := 4) (pc := 5) dL_energy_5 lRL_15 fX11_energy vX11_energy okl0 rfl (Nat.le_of_ble_eq_true rfl) (q_R (by omega) (by decide)) (sx_X11_energy G (d + 0) l0 l1 l2 h _ okl0 hwp) cwL_energy rfl clRL_13 hex hnn hzz dL_energy_13 (by decide) dL_energy_15 dL_energy_16 rfl (fun h1 t => ⟨1, rfl, t⟩)

theorem dL_gives_18 : decode cL_gives 18 = .ok (.ireturn, 1) := by decide +kernel
theorem dL_gives_17 : decode cL_gives 17 = .ok (.iconst 1, 1) := by decide +kernel
theorem dL_gives_15 : decode cL_gives 15 = .ok (.astore 5, 2) := by decide +kernel
theorem dL_gives_0 : decode cL_gives 0 = .ok (.aload 4, 2) := by decide +kernel
theorem dL_gives_2 : decode cL_gives 2 = .ok (.iconst 0, 1) := by decide +kernel
theorem dL_gives_3 : decode cL_gives 3 = .ok (.aload_n 0, 1) := by decide +kernel
theorem dL_gives_4 : decode cL_gives 4 = .ok (.iload_n 1, 1) := by decide +kernel
theorem dL_gives_5 : decode cL_gives 5 = .ok (.iload_n 2, 1) := by decide +kernel
theorem dL_gives_6 : decode cL_gives 6 = .ok (.iload_n 3, 1) := by decide +kernel
theorem dL_gives_7 : decode cL_gives 7 = .ok (.invokevirtual 18, 3) := by decide +kernel
theorem dL_gives_10 : decode cL_gives 10 = .ok (.i2l, 1) := by decide +kernel
theorem dL_gives_11 : decode cL_gives 11 = .ok (.lastore, 1) := by decide +kernel
theorem dL_gives_12 : decode cL_gives 12 = .ok (.goto 7, 3) := by decide +kernel
theorem dL_gives_19 : decode cL_gives 19 = .ok (.iconst 0, 1) := by decide +kernel
theorem dL_gives_20 : decode cL_gives 20 = .ok (.ireturn, 1) := by decide +kernel
def wp_L_gives (l0 : Nat) (l1 : Int32) (l2 : Int32) (l3 : Int32) (l4 : Nat) (h : PH) (Q : Int32 → PH → Prop) : Prop := (wp_X11_gives l0 l1 l2 l3 h (fun r2 h1 => (vp_in 0 (qL h1 l4) ∧ ∀ h3, h3 = qsJ h1 l4 (0 : Int32).toNatClampNeg r2.toInt64 → Q 0 h3)))
set_option maxHeartbeats 4000000 in
set_option maxRecDepth 100000 in
theorem sn_L_gives (G : GT) (d : Nat) (l0 : Nat) (l1 : Int32) (l2 : Int32) (l3 : Int32) (l4 : Nat) (h : PH) (Q : Int32 → PH → Prop) (okl0 : qOK h 10 l0) (okl4 : qOK h 15 l4) (hwp : wp_L_gives l0 l1 l2 l3 l4 h Q) : Mh G (5 + d) 0 0 mL_gives [(0, 12, 15, 13)] [.ref l0, .int l1, .int l2, .int l3, .ref l4] h (qqi Q) := by
  unfold wp_L_gives at hwp
  refine Mh.of (by decide) rfl (Nat.le_of_ble_eq_true rfl) (ZH.up ?_)
  have hex := qEx.rf h
  have hnn : qn h = qn h + 0 := rfl
  have hzz : qz h = qz h + 0 := rfl
  refine x_lvE (lv2 := [(0, .ref l0), (1, .int l1), (2, .int l2), (3, .int l3), (4, .ref l4)]) rfl ?_
  refine x_aload (pc := 0) dL_gives_0 rfl ?_
  refine x_iconst (v := 0) (pc := 2) dL_gives_2 (by decide) ?_
  refine x_aload_n (pc := 3) dL_gives_3 rfl ?_
  refine x_iload_n (pc := 4) dL_gives_4 rfl ?_
  refine x_iload_n (pc := 5) dL_gives_5 rfl ?_
  refine x_iload_n (pc := 6) dL_gives_6 rfl ?_
  refine x_invV (As := [.int l1, .int l2, .int l3]) (st := [.int 0, .ref l4]) (pc := 7) dL_gives_7 lRL_18 fX11_gives vX11_gives okl0 rfl (Nat.le_of_ble_eq_true rfl) (q_R (by omega) (by decide)) (q_C hnn hzz (by decide) (by decide)) (sn_X11_gives G (d + 0) l0 l1 l2 l3 h _ okl0 hwp) (k_i (fun r2 h1 hwp cxh1 => ?_))
  have hex := hex.tr cxh1.1
  have hnn : qn h1 = qn h + 0 := by have := cxh1.2.1; omega
  have hzz : qz h1 = qz h + 0 := by have := cxh1.2.2; omega
  have okl0 := okl0.ex cxh1.1
  have okl4 := okl4.ex cxh1.1
  refine x_i2l (pc := 10) dL_gives_10 ?_
  obtain ⟨i4, hwp⟩ := hwp
  refine y_lastore (pc := 11) dL_gives_11 okl4 i4 (fun h3 eh3 nxh3 => ?_)
  have hwp := hwp h3 eh3
  have hex := hex.tr nxh3.1
  have hnn := nxh3.2.1.trans hnn
  have hzz := nxh3.2.2.trans hzz
  have okl0 := okl0.ex nxh3.1
  have okl4 := okl4.ex nxh3.1
  refine x_goto (tgt := 19) (pc := 12) dL_gives_12 (by decide) ?_
  refine x_iconst (v := 0) (pc := 19) dL_gives_19 (by decide) ?_
  exact x_iret (pc := 20) dL_gives_20 rfl hex hnn hzz ⟨_, rfl, hwp⟩

def wx_L_gives (l0 : Nat) (l1 : Int32) (l2 : Int32) (l3 : Int32) (l4 : Nat) (h : PH) (Q : Int32 → PH → Prop) : Prop := (wx_X11_gives l0 l1 l2 l3 h (fun h1 => Q 1 h1))
set_option maxHeartbeats 4000000 in
set_option maxRecDepth 100000 in
theorem sx_L_gives (G : GT) (d : Nat) (l0 : Nat) (l1 : Int32) (l2 : Int32) (l3 : Int32) (l4 : Nat) (h : PH) (Q : Int32 → PH → Prop) (okl0 : qOK h 10 l0) (okl4 : qOK h 15 l4) (hwp : wx_L_gives l0 l1 l2 l3 l4 h Q) : Mh G (7 + d) 1 6 mL_gives [(0, 12, 15, 13)] [.ref l0, .int l1, .int l2, .int l3, .ref l4] h (qqi Q) := by
  unfold wx_L_gives at hwp
  refine Mh.of (by decide) rfl (Nat.le_of_ble_eq_true rfl) ?_
  have hex := qEx.rf h
  have hnn : qn h = qn h + 0 := rfl
  have hzz : qz h = qz h + 0 := rfl
  refine x_lvE (lv2 := [(0, .ref l0), (1, .int l1), (2, .int l2), (3, .int l3), (4, .ref l4)]) rfl ?_
  refine x_aload (pc := 0) dL_gives_0 rfl ?_
  refine x_iconst (v := 0) (pc := 2) dL_gives_2 (by decide) ?_
  refine x_aload_n (pc := 3) dL_gives_3 rfl ?_
  refine x_iload_n (pc := 4) dL_gives_4 rfl ?_
  refine x_iload_n (pc := 5) dL_gives_5 rfl ?_
  refine x_iload_n (pc := 6) dL_gives_6 rfl ?_
  exact x_invX (d2 := 6 + (d + 0)) (As := [.int l1, .int l2, .int l3]) (st := [.int 0, .ref l4]) (k9 := 5) (pc := 7) dL_gives_7 lRL_18 fX11_gives vX11_gives okl0 rfl (Nat.le_of_ble_eq_true rfl) (q_R (by omega) (by decide)) (sx_X11_gives G (d + 0) l0 l1 l2 l3 h _ okl0 hwp) cwL_gives rfl clRL_13 hex hnn hzz dL_gives_15 (by decide) dL_gives_17 dL_gives_18 rfl (fun h1 t => ⟨1, rfl, t⟩)

theorem dL_sum_16 : decode cL_sum 16 = .ok (.ireturn, 1) := by decide +kernel
theorem dL_sum_15 : decode cL_sum 15 = .ok (.iconst 1, 1) := by decide +kernel
theorem dL_sum_13 : decode cL_sum 13 = .ok (.astore 4, 2) := by decide +kernel
theorem dL_sum_0 : decode cL_sum 0 = .ok (.aload_n 3, 1) := by decide +kernel
theorem dL_sum_1 : decode cL_sum 1 = .ok (.iconst 0, 1) := by decide +kernel
theorem dL_sum_2 : decode cL_sum 2 = .ok (.aload_n 0, 1) := by decide +kernel
theorem dL_sum_3 : decode cL_sum 3 = .ok (.iload_n 1, 1) := by decide +kernel
theorem dL_sum_4 : decode cL_sum 4 = .ok (.iload_n 2, 1) := by decide +kernel
theorem dL_sum_5 : decode cL_sum 5 = .ok (.invokevirtual 22, 3) := by decide +kernel
theorem dL_sum_8 : decode cL_sum 8 = .ok (.i2l, 1) := by decide +kernel
theorem dL_sum_9 : decode cL_sum 9 = .ok (.lastore, 1) := by decide +kernel
theorem dL_sum_10 : decode cL_sum 10 = .ok (.goto 7, 3) := by decide +kernel
theorem dL_sum_17 : decode cL_sum 17 = .ok (.iconst 0, 1) := by decide +kernel
theorem dL_sum_18 : decode cL_sum 18 = .ok (.ireturn, 1) := by decide +kernel
def wp_L_sum (l0 : Nat) (l1 : Int32) (l2 : Int32) (l3 : Nat) (h : PH) (Q : Int32 → PH → Prop) : Prop := (wp_X11_sum l0 l1 l2 h (fun r2 h1 => (vp_in 0 (qL h1 l3) ∧ ∀ h3, h3 = qsJ h1 l3 (0 : Int32).toNatClampNeg r2.toInt64 → Q 0 h3)))
set_option maxHeartbeats 4000000 in
set_option maxRecDepth 100000 in
theorem sn_L_sum (G : GT) (d : Nat) (l0 : Nat) (l1 : Int32) (l2 : Int32) (l3 : Nat) (h : PH) (Q : Int32 → PH → Prop) (okl0 : qOK h 10 l0) (okl3 : qOK h 15 l3) (hwp : wp_L_sum l0 l1 l2 l3 h Q) : Mh G (6 + d) 0 0 mL_sum [(0, 10, 13, 13)] [.ref l0, .int l1, .int l2, .ref l3] h (qqi Q) := by
  unfold wp_L_sum at hwp
  refine Mh.of (by decide) rfl (Nat.le_of_ble_eq_true rfl) (ZH.up ?_)
  have hex := qEx.rf h
  have hnn : qn h = qn h + 0 := rfl
  have hzz : qz h = qz h + 0 := rfl
  refine x_lvE (lv2 := [(0, .ref l0), (1, .int l1), (2, .int l2), (3, .ref l3)]) rfl ?_
  refine x_aload_n (pc := 0) dL_sum_0 rfl ?_
  refine x_iconst (v := 0) (pc := 1) dL_sum_1 (by decide) ?_
  refine x_aload_n (pc := 2) dL_sum_2 rfl ?_
  refine x_iload_n (pc := 3) dL_sum_3 rfl ?_
  refine x_iload_n (pc := 4) dL_sum_4 rfl ?_
  refine x_invV (As := [.int l1, .int l2]) (st := [.int 0, .ref l3]) (pc := 5) dL_sum_5 lRL_22 fX11_sum vX11_sum okl0 rfl (Nat.le_of_ble_eq_true rfl) (q_R (by omega) (by decide)) (q_C hnn hzz (by decide) (by decide)) (sn_X11_sum G (d + 0) l0 l1 l2 h _ okl0 hwp) (k_i (fun r2 h1 hwp cxh1 => ?_))
  have hex := hex.tr cxh1.1
  have hnn : qn h1 = qn h + 0 := by have := cxh1.2.1; omega
  have hzz : qz h1 = qz h + 0 := by have := cxh1.2.2; omega
  have okl0 := okl0.ex cxh1.1
  have okl3 := okl3.ex cxh1.1
  refine x_i2l (pc := 8) dL_sum_8 ?_
  obtain ⟨i4, hwp⟩ := hwp
  refine y_lastore (pc := 9) dL_sum_9 okl3 i4 (fun h3 eh3 nxh3 => ?_)
  have hwp := hwp h3 eh3
  have hex := hex.tr nxh3.1
  have hnn := nxh3.2.1.trans hnn
  have hzz := nxh3.2.2.trans hzz
  have okl0 := okl0.ex nxh3.1
  have okl3 := okl3.ex nxh3.1
  refine x_goto (tgt := 17) (pc := 10) dL_sum_10 (by decide) ?_
  refine x_iconst (v := 0) (pc := 17) dL_sum_17 (by decide) ?_
  exact x_iret (pc := 18) dL_sum_18 rfl hex hnn hzz ⟨_, rfl, hwp⟩

def wx_L_sum (l0 : Nat) (l1 : Int32) (l2 : Int32) (l3 : Nat) (h : PH) (Q : Int32 → PH → Prop) : Prop := (wx_X11_sum l0 l1 l2 h (fun h1 => Q 1 h1))
set_option maxHeartbeats 4000000 in
set_option maxRecDepth 100000 in
theorem sx_L_sum (G : GT) (d : Nat) (l0 : Nat) (l1 : Int32) (l2 : Int32) (l3 : Nat) (h : PH) (Q : Int32 → PH → Prop) (okl0 : qOK h 10 l0) (okl3 : qOK h 15 l3) (hwp : wx_L_sum l0 l1 l2 l3 h Q) : Mh G (7 + d) 1 6 mL_sum [(0, 10, 13, 13)] [.ref l0, .int l1, .int l2, .ref l3] h (qqi Q) := by
  unfold wx_L_sum at hwp
  refine Mh.of (by decide) rfl (Nat.le_of_ble_eq_true rfl) ?_
  have hex := qEx.rf h
  have hnn : qn h = qn h + 0 := rfl
  have hzz : qz h = qz h + 0 := rfl
  refine x_lvE (lv2 := [(0, .ref l0), (1, .int l1), (2, .int l2), (3, .ref l3)]) rfl ?_
  refine x_aload_n (pc := 0) dL_sum_0 rfl ?_
  refine x_iconst (v := 0) (pc := 1) dL_sum_1 (by decide) ?_
  refine x_aload_n (pc := 2) dL_sum_2 rfl ?_
  refine x_iload_n (pc := 3) dL_sum_3 rfl ?_
  refine x_iload_n (pc := 4) dL_sum_4 rfl ?_
  exact x_invX (d2 := 6 + (d + 0)) (As := [.int l1, .int l2]) (st := [.int 0, .ref l3]) (k9 := 4) (pc := 5) dL_sum_5 lRL_22 fX11_sum vX11_sum okl0 rfl (Nat.le_of_ble_eq_true rfl) (q_R (by omega) (by decide)) (sx_X11_sum G (d + 0) l0 l1 l2 h _ okl0 hwp) cwL_sum rfl clRL_13 hex hnn hzz dL_sum_13 (by decide) dL_sum_15 dL_sum_16 rfl (fun h1 t => ⟨1, rfl, t⟩)

theorem dL_value_16 : decode cL_value 16 = .ok (.ireturn, 1) := by decide +kernel
theorem dL_value_15 : decode cL_value 15 = .ok (.iconst 1, 1) := by decide +kernel
theorem dL_value_13 : decode cL_value 13 = .ok (.astore 4, 2) := by decide +kernel
theorem dL_value_0 : decode cL_value 0 = .ok (.aload_n 3, 1) := by decide +kernel
theorem dL_value_1 : decode cL_value 1 = .ok (.iconst 0, 1) := by decide +kernel
theorem dL_value_2 : decode cL_value 2 = .ok (.aload_n 0, 1) := by decide +kernel
theorem dL_value_3 : decode cL_value 3 = .ok (.iload_n 1, 1) := by decide +kernel
theorem dL_value_4 : decode cL_value 4 = .ok (.iload_n 2, 1) := by decide +kernel
theorem dL_value_5 : decode cL_value 5 = .ok (.invokevirtual 25, 3) := by decide +kernel
theorem dL_value_8 : decode cL_value 8 = .ok (.i2l, 1) := by decide +kernel
theorem dL_value_9 : decode cL_value 9 = .ok (.lastore, 1) := by decide +kernel
theorem dL_value_10 : decode cL_value 10 = .ok (.goto 7, 3) := by decide +kernel
theorem dL_value_17 : decode cL_value 17 = .ok (.iconst 0, 1) := by decide +kernel
theorem dL_value_18 : decode cL_value 18 = .ok (.ireturn, 1) := by decide +kernel
def wp_L_value (l0 : Nat) (l1 : Int32) (l2 : Int32) (l3 : Nat) (h : PH) (Q : Int32 → PH → Prop) : Prop := (wp_X11_value l0 l1 l2 h (fun r2 h1 => (vp_in 0 (qL h1 l3) ∧ ∀ h3, h3 = qsJ h1 l3 (0 : Int32).toNatClampNeg r2.toInt64 → Q 0 h3)))
set_option maxHeartbeats 4000000 in
set_option maxRecDepth 100000 in
theorem sn_L_value (G : GT) (d : Nat) (l0 : Nat) (l1 : Int32) (l2 : Int32) (l3 : Nat) (h : PH) (Q : Int32 → PH → Prop) (okl0 : qOK h 10 l0) (okl3 : qOK h 15 l3) (hwp : wp_L_value l0 l1 l2 l3 h Q) : Mh G (2 + d) 0 0 mL_value [(0, 10, 13, 13)] [.ref l0, .int l1, .int l2, .ref l3] h (qqi Q) := by
  unfold wp_L_value at hwp
  refine Mh.of (by decide) rfl (Nat.le_of_ble_eq_true rfl) (ZH.up ?_)
  have hex := qEx.rf h
  have hnn : qn h = qn h + 0 := rfl
  have hzz : qz h = qz h + 0 := rfl
  refine x_lvE (lv2 := [(0, .ref l0), (1, .int l1), (2, .int l2), (3, .ref l3)]) rfl ?_
  refine x_aload_n (pc := 0) dL_value_0 rfl ?_
  refine x_iconst (v := 0) (pc := 1) dL_value_1 (by decide) ?_
  refine x_aload_n (pc := 2) dL_value_2 rfl ?_
  refine x_iload_n (pc := 3) dL_value_3 rfl ?_
  refine x_iload_n (pc := 4) dL_value_4 rfl ?_
  refine x_invV (As := [.int l1, .int l2]) (st := [.int 0, .ref l3]) (pc := 5) dL_value_5 lRL_25 fX11_value vX11_value okl0 rfl (Nat.le_of_ble_eq_true rfl) (q_R (by omega) (by decide)) (q_C hnn hzz (by decide) (by decide)) (sn_X11_value G (d + 0) l0 l1 l2 h _ okl0 hwp) (k_i (fun r2 h1 hwp cxh1 => ?_))
  have hex := hex.tr cxh1.1
  have hnn : qn h1 = qn h + 0 := by have := cxh1.2.1; omega
  have hzz : qz h1 = qz h + 0 := by have := cxh1.2.2; omega
  have okl0 := okl0.ex cxh1.1
  have okl3 := okl3.ex cxh1.1
  refine x_i2l (pc := 8) dL_value_8 ?_
  obtain ⟨i4, hwp⟩ := hwp
  refine y_lastore (pc := 9) dL_value_9 okl3 i4 (fun h3 eh3 nxh3 => ?_)
  have hwp := hwp h3 eh3
  have hex := hex.tr nxh3.1
  have hnn := nxh3.2.1.trans hnn
  have hzz := nxh3.2.2.trans hzz
  have okl0 := okl0.ex nxh3.1
  have okl3 := okl3.ex nxh3.1
  refine x_goto (tgt := 17) (pc := 10) dL_value_10 (by decide) ?_
  refine x_iconst (v := 0) (pc := 17) dL_value_17 (by decide) ?_
  exact x_iret (pc := 18) dL_value_18 rfl hex hnn hzz ⟨_, rfl, hwp⟩

def wx_L_value (l0 : Nat) (l1 : Int32) (l2 : Int32) (l3 : Nat) (h : PH) (Q : Int32 → PH → Prop) : Prop := (wx_X11_value l0 l1 l2 h (fun h1 => Q 1 h1))
set_option maxHeartbeats 4000000 in
set_option maxRecDepth 100000 in
theorem sx_L_value (G : GT) (d : Nat) (l0 : Nat) (l1 : Int32) (l2 : Int32) (l3 : Nat) (h : PH) (Q : Int32 → PH → Prop) (okl0 : qOK h 10 l0) (okl3 : qOK h 15 l3) (hwp : wx_L_value l0 l1 l2 l3 h Q) : Mh G (7 + d) 1 6 mL_value [(0, 10, 13, 13)] [.ref l0, .int l1, .int l2, .ref l3] h (qqi Q) := by
  unfold wx_L_value at hwp
  refine Mh.of (by decide) rfl (Nat.le_of_ble_eq_true rfl) ?_
  have hex := qEx.rf h
  have hnn : qn h = qn h + 0 := rfl
  have hzz : qz h = qz h + 0 := rfl
  refine x_lvE (lv2 := [(0, .ref l0), (1, .int l1), (2, .int l2), (3, .ref l3)]) rfl ?_
  refine x_aload_n (pc := 0) dL_value_0 rfl ?_
  refine x_iconst (v := 0) (pc := 1) dL_value_1 (by decide) ?_
  refine x_aload_n (pc := 2) dL_value_2 rfl ?_
  refine x_iload_n (pc := 3) dL_value_3 rfl ?_
  refine x_iload_n (pc := 4) dL_value_4 rfl ?_
  exact x_invX (d2 := 6 + (d + 0)) (As := [.int l1, .int l2]) (st := [.int 0, .ref l3]) (k9 := 4) (pc := 5) dL_value_5 lRL_25 fX11_value vX11_value okl0 rfl (Nat.le_of_ble_eq_true rfl) (q_R (by omega) (by decide)) (sx_X11_value G (d + 0) l0 l1 l2 h _ okl0 hwp) cwL_value rfl clRL_13 hex hnn hzz dL_value_13 (by decide) dL_value_15 dL_value_16 rfl (fun h1 t => ⟨1, rfl, t⟩)

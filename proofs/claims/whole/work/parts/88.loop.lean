/-! ===== the law: its loop ===== -/
theorem lw_gt {i L : Nat} (hi : i ≤ 4000) (hL : L ≤ 3072) (h : L < i + 6) : nI L - 6 < nI i := by
  have a1 : (nI L).toInt = (L : Int) := nI_toInt (by omega)
  have a2 : (nI i).toInt = (i : Int) := nI_toInt (by omega)
  have a3 : (6 : Int32).toInt = 6 := by decide
  rw [Int32.lt_iff_toInt_lt, fb_subI (by rw [a1, a3]; omega) (by rw [a1, a3]; omega), a1, a2, a3]
  omega

theorem dL_law_23 : decode cL_law 23 = .ok (.iload 4, 2) := by decide +kernel
theorem dL_law_25 : decode cL_law 25 = .ok (.aload_n 0, 1) := by decide +kernel
theorem dL_law_26 : decode cL_law 26 = .ok (.arraylength, 1) := by decide +kernel
theorem dL_law_27 : decode cL_law 27 = .ok (.bipush 6, 2) := by decide +kernel
theorem dL_law_29 : decode cL_law 29 = .ok (.isub, 1) := by decide +kernel
theorem dL_law_30 : decode cL_law 30 = .ok (.if_icmp .gt 1182, 3) := by decide +kernel
theorem dL_law_33 : decode cL_law 33 = .ok (.aload_n 0, 1) := by decide +kernel
theorem dL_law_34 : decode cL_law 34 = .ok (.iload 4, 2) := by decide +kernel
theorem dL_law_36 : decode cL_law 36 = .ok (.iaload, 1) := by decide +kernel
theorem dL_law_37 : decode cL_law 37 = .ok (.bipush 31, 2) := by decide +kernel
theorem dL_law_39 : decode cL_law 39 = .ok (.iand, 1) := by decide +kernel
theorem dL_law_40 : decode cL_law 40 = .ok (.tableswitch 1166 0 30 #[140, 213, 238, 251, 264, 332, 400, 480, 548, 597, 622, 647, 672, 685, 698, 711, 779, 804, 829, 854, 891, 928, 941, 954, 979, 1004, 1065, 1078, 1103, 1116, 1141], 140) := by decide +kernel
theorem dL_law_1206 : decode cL_law 1206 = .ok (.iinc 4 6, 3) := by decide +kernel
theorem dL_law_1209 : decode cL_law 1209 = .ok (.goto (-1186), 3) := by decide +kernel
theorem dL_law_1212 : decode cL_law 1212 = .ok (.iconst 1, 1) := by decide +kernel
theorem dL_law_1213 : decode cL_law 1213 = .ok (.ireturn, 1) := by decide +kernel
set_option maxHeartbeats 4000000 in
set_option maxRecDepth 100000 in
theorem law_turn {G : GT} {L : Nat} {xs : Nat → Int32} {i : Nat} (hi : i + 6 ≤ L) (hL : L ≤ 3072) {h : PH} (inv : Inv h) (rm : LwR h) (kk : ∀ h2, Inv h2 → Rm h h2 → LwE G L xs 1206 i h2) : Ex G room_1 mL_law 0 0 (ZL G L xs) 40 (lwV i) [.int (xs (nI i).toNatClampNeg &&& 31)] h := by
  obtain ⟨x, ex⟩ : ∃ x, x = xs (nI i).toNatClampNeg &&& 31 := ⟨_, rfl⟩
  rw [← ex]
  by_cases c0 : x = 0
  · exact x_tabIn (tgt := 180) (pc := 40) dL_law_40 (by rw [q_teq c0 (n := 0) (by decide)]; decide) (by rw [q_teq c0 (n := 0) (by decide)]; decide) (by rw [q_teq c0 (n := 0) (by decide)]; rfl) (by decide) (lc_0 hi hL inv rm kk)
  by_cases c1 : x = 1
  · exact x_tabIn (tgt := 253) (pc := 40) dL_law_40 (by rw [q_teq c1 (n := 1) (by decide)]; decide) (by rw [q_teq c1 (n := 1) (by decide)]; decide) (by rw [q_teq c1 (n := 1) (by decide)]; rfl) (by decide) (lc_1 hi hL inv rm kk)
  by_cases c2 : x = 2
  · exact x_tabIn (tgt := 278) (pc := 40) dL_law_40 (by rw [q_teq c2 (n := 2) (by decide)]; decide) (by rw [q_teq c2 (n := 2) (by decide)]; decide) (by rw [q_teq c2 (n := 2) (by decide)]; rfl) (by decide) (lc_2 hi hL inv rm kk)
  by_cases c3 : x = 3
  · exact x_tabIn (tgt := 291) (pc := 40) dL_law_40 (by rw [q_teq c3 (n := 3) (by decide)]; decide) (by rw [q_teq c3 (n := 3) (by decide)]; decide) (by rw [q_teq c3 (n := 3) (by decide)]; rfl) (by decide) (lc_3 hi hL inv rm kk)
  by_cases c4 : x = 4
  · exact x_tabIn (tgt := 304) (pc := 40) dL_law_40 (by rw [q_teq c4 (n := 4) (by decide)]; decide) (by rw [q_teq c4 (n := 4) (by decide)]; decide) (by rw [q_teq c4 (n := 4) (by decide)]; rfl) (by decide) (lc_4 hi hL inv rm kk)
  by_cases c5 : x = 5
  · exact x_tabIn (tgt := 372) (pc := 40) dL_law_40 (by rw [q_teq c5 (n := 5) (by decide)]; decide) (by rw [q_teq c5 (n := 5) (by decide)]; decide) (by rw [q_teq c5 (n := 5) (by decide)]; rfl) (by decide) (lc_5 hi hL inv rm kk)
  by_cases c6 : x = 6
  · exact x_tabIn (tgt := 440) (pc := 40) dL_law_40 (by rw [q_teq c6 (n := 6) (by decide)]; decide) (by rw [q_teq c6 (n := 6) (by decide)]; decide) (by rw [q_teq c6 (n := 6) (by decide)]; rfl) (by decide) (lc_6 hi hL inv rm kk)
  by_cases c7 : x = 7
  · exact x_tabIn (tgt := 520) (pc := 40) dL_law_40 (by rw [q_teq c7 (n := 7) (by decide)]; decide) (by rw [q_teq c7 (n := 7) (by decide)]; decide) (by rw [q_teq c7 (n := 7) (by decide)]; rfl) (by decide) (lc_7 hi hL inv rm kk)
  by_cases c8 : x = 8
  · exact x_tabIn (tgt := 588) (pc := 40) dL_law_40 (by rw [q_teq c8 (n := 8) (by decide)]; decide) (by rw [q_teq c8 (n := 8) (by decide)]; decide) (by rw [q_teq c8 (n := 8) (by decide)]; rfl) (by decide) (lc_8 hi hL inv rm kk)
  by_cases c9 : x = 9
  · exact x_tabIn (tgt := 637) (pc := 40) dL_law_40 (by rw [q_teq c9 (n := 9) (by decide)]; decide) (by rw [q_teq c9 (n := 9) (by decide)]; decide) (by rw [q_teq c9 (n := 9) (by decide)]; rfl) (by decide) (lc_9 hi hL inv rm kk)
  by_cases c10 : x = 10
  · exact x_tabIn (tgt := 662) (pc := 40) dL_law_40 (by rw [q_teq c10 (n := 10) (by decide)]; decide) (by rw [q_teq c10 (n := 10) (by decide)]; decide) (by rw [q_teq c10 (n := 10) (by decide)]; rfl) (by decide) (lc_10 hi hL inv rm kk)
  by_cases c11 : x = 11
  · exact x_tabIn (tgt := 687) (pc := 40) dL_law_40 (by rw [q_teq c11 (n := 11) (by decide)]; decide) (by rw [q_teq c11 (n := 11) (by decide)]; decide) (by rw [q_teq c11 (n := 11) (by decide)]; rfl) (by decide) (lc_11 hi hL inv rm kk)
  by_cases c12 : x = 12
  · exact x_tabIn (tgt := 712) (pc := 40) dL_law_40 (by rw [q_teq c12 (n := 12) (by decide)]; decide) (by rw [q_teq c12 (n := 12) (by decide)]; decide) (by rw [q_teq c12 (n := 12) (by decide)]; rfl) (by decide) (lc_12 hi hL inv rm kk)
  by_cases c13 : x = 13
  · exact x_tabIn (tgt := 725) (pc := 40) dL_law_40 (by rw [q_teq c13 (n := 13) (by decide)]; decide) (by rw [q_teq c13 (n := 13) (by decide)]; decide) (by rw [q_teq c13 (n := 13) (by decide)]; rfl) (by decide) (lc_13 hi hL inv rm kk)
  by_cases c14 : x = 14
  · exact x_tabIn (tgt := 738) (pc := 40) dL_law_40 (by rw [q_teq c14 (n := 14) (by decide)]; decide) (by rw [q_teq c14 (n := 14) (by decide)]; decide) (by rw [q_teq c14 (n := 14) (by decide)]; rfl) (by decide) (lc_14 hi hL inv rm kk)
  by_cases c15 : x = 15
  · exact x_tabIn (tgt := 751) (pc := 40) dL_law_40 (by rw [q_teq c15 (n := 15) (by decide)]; decide) (by rw [q_teq c15 (n := 15) (by decide)]; decide) (by rw [q_teq c15 (n := 15) (by decide)]; rfl) (by decide) (lc_15 hi hL inv rm kk)
  by_cases c16 : x = 16
  · exact x_tabIn (tgt := 819) (pc := 40) dL_law_40 (by rw [q_teq c16 (n := 16) (by decide)]; decide) (by rw [q_teq c16 (n := 16) (by decide)]; decide) (by rw [q_teq c16 (n := 16) (by decide)]; rfl) (by decide) (lc_16 hi hL inv rm kk)
  by_cases c17 : x = 17
  · exact x_tabIn (tgt := 844) (pc := 40) dL_law_40 (by rw [q_teq c17 (n := 17) (by decide)]; decide) (by rw [q_teq c17 (n := 17) (by decide)]; decide) (by rw [q_teq c17 (n := 17) (by decide)]; rfl) (by decide) (lc_17 hi hL inv rm kk)
  by_cases c18 : x = 18
  · exact x_tabIn (tgt := 869) (pc := 40) dL_law_40 (by rw [q_teq c18 (n := 18) (by decide)]; decide) (by rw [q_teq c18 (n := 18) (by decide)]; decide) (by rw [q_teq c18 (n := 18) (by decide)]; rfl) (by decide) (lc_18 hi hL inv rm kk)
  by_cases c19 : x = 19
  · exact x_tabIn (tgt := 894) (pc := 40) dL_law_40 (by rw [q_teq c19 (n := 19) (by decide)]; decide) (by rw [q_teq c19 (n := 19) (by decide)]; decide) (by rw [q_teq c19 (n := 19) (by decide)]; rfl) (by decide) (lc_19 hi hL inv rm kk)
  by_cases c20 : x = 20
  · exact x_tabIn (tgt := 931) (pc := 40) dL_law_40 (by rw [q_teq c20 (n := 20) (by decide)]; decide) (by rw [q_teq c20 (n := 20) (by decide)]; decide) (by rw [q_teq c20 (n := 20) (by decide)]; rfl) (by decide) (lc_20 hi hL inv rm kk)
  by_cases c21 : x = 21
  · exact x_tabIn (tgt := 968) (pc := 40) dL_law_40 (by rw [q_teq c21 (n := 21) (by decide)]; decide) (by rw [q_teq c21 (n := 21) (by decide)]; decide) (by rw [q_teq c21 (n := 21) (by decide)]; rfl) (by decide) (lc_21 hi hL inv rm kk)
  by_cases c22 : x = 22
  · exact x_tabIn (tgt := 981) (pc := 40) dL_law_40 (by rw [q_teq c22 (n := 22) (by decide)]; decide) (by rw [q_teq c22 (n := 22) (by decide)]; decide) (by rw [q_teq c22 (n := 22) (by decide)]; rfl) (by decide) (lc_22 hi hL inv rm kk)
  by_cases c23 : x = 23
  · exact x_tabIn (tgt := 994) (pc := 40) dL_law_40 (by rw [q_teq c23 (n := 23) (by decide)]; decide) (by rw [q_teq c23 (n := 23) (by decide)]; decide) (by rw [q_teq c23 (n := 23) (by decide)]; rfl) (by decide) (lc_23 hi hL inv rm kk)
  by_cases c24 : x = 24
  · exact x_tabIn (tgt := 1019) (pc := 40) dL_law_40 (by rw [q_teq c24 (n := 24) (by decide)]; decide) (by rw [q_teq c24 (n := 24) (by decide)]; decide) (by rw [q_teq c24 (n := 24) (by decide)]; rfl) (by decide) (lc_24 hi hL inv rm kk)
  by_cases c25 : x = 25
  · exact x_tabIn (tgt := 1044) (pc := 40) dL_law_40 (by rw [q_teq c25 (n := 25) (by decide)]; decide) (by rw [q_teq c25 (n := 25) (by decide)]; decide) (by rw [q_teq c25 (n := 25) (by decide)]; rfl) (by decide) (lc_25 hi hL inv rm kk)
  by_cases c26 : x = 26
  · exact x_tabIn (tgt := 1105) (pc := 40) dL_law_40 (by rw [q_teq c26 (n := 26) (by decide)]; decide) (by rw [q_teq c26 (n := 26) (by decide)]; decide) (by rw [q_teq c26 (n := 26) (by decide)]; rfl) (by decide) (lc_26 hi hL inv rm kk)
  by_cases c27 : x = 27
  · exact x_tabIn (tgt := 1118) (pc := 40) dL_law_40 (by rw [q_teq c27 (n := 27) (by decide)]; decide) (by rw [q_teq c27 (n := 27) (by decide)]; decide) (by rw [q_teq c27 (n := 27) (by decide)]; rfl) (by decide) (lc_27 hi hL inv rm kk)
  by_cases c28 : x = 28
  · exact x_tabIn (tgt := 1143) (pc := 40) dL_law_40 (by rw [q_teq c28 (n := 28) (by decide)]; decide) (by rw [q_teq c28 (n := 28) (by decide)]; decide) (by rw [q_teq c28 (n := 28) (by decide)]; rfl) (by decide) (lc_28 hi hL inv rm kk)
  by_cases c29 : x = 29
  · exact x_tabIn (tgt := 1156) (pc := 40) dL_law_40 (by rw [q_teq c29 (n := 29) (by decide)]; decide) (by rw [q_teq c29 (n := 29) (by decide)]; decide) (by rw [q_teq c29 (n := 29) (by decide)]; rfl) (by decide) (lc_29 hi hL inv rm kk)
  by_cases c30 : x = 30
  · exact x_tabIn (tgt := 1181) (pc := 40) dL_law_40 (by rw [q_teq c30 (n := 30) (by decide)]; decide) (by rw [q_teq c30 (n := 30) (by decide)]; decide) (by rw [q_teq c30 (n := 30) (by decide)]; rfl) (by decide) (lc_30 hi hL inv rm kk)
  exact x_tabOut (tgt := 1206) (pc := 40) dL_law_40 (by have := q_tne c0 (n := 0) (by decide); have := q_tne c1 (n := 1) (by decide); have := q_tne c2 (n := 2) (by decide); have := q_tne c3 (n := 3) (by decide); have := q_tne c4 (n := 4) (by decide); have := q_tne c5 (n := 5) (by decide); have := q_tne c6 (n := 6) (by decide); have := q_tne c7 (n := 7) (by decide); have := q_tne c8 (n := 8) (by decide); have := q_tne c9 (n := 9) (by decide); have := q_tne c10 (n := 10) (by decide); have := q_tne c11 (n := 11) (by decide); have := q_tne c12 (n := 12) (by decide); have := q_tne c13 (n := 13) (by decide); have := q_tne c14 (n := 14) (by decide); have := q_tne c15 (n := 15) (by decide); have := q_tne c16 (n := 16) (by decide); have := q_tne c17 (n := 17) (by decide); have := q_tne c18 (n := 18) (by decide); have := q_tne c19 (n := 19) (by decide); have := q_tne c20 (n := 20) (by decide); have := q_tne c21 (n := 21) (by decide); have := q_tne c22 (n := 22) (by decide); have := q_tne c23 (n := 23) (by decide); have := q_tne c24 (n := 24) (by decide); have := q_tne c25 (n := 25) (by decide); have := q_tne c26 (n := 26) (by decide); have := q_tne c27 (n := 27) (by decide); have := q_tne c28 (n := 28) (by decide); have := q_tne c29 (n := 29) (by decide); have := q_tne c30 (n := 30) (by decide); omega) (by decide) (kk h inv ⟨Nat.le_refl _, by omega, by omega⟩)
set_option maxHeartbeats 4000000 in
set_option maxRecDepth 100000 in
theorem law_loop {G : GT} {L : Nat} {xs : Nat → Int32} (hL : L ≤ 3072) : ∀ (n k : Nat) (h : PH), n + k = 600 → Inv h → qn h ≤ 93 + 14 * k → qz h ≤ 7473 + 136 * k → LwE G L xs 23 (6 * k) h := by
  intro n
  induction n with
  | zero =>
    intro k h hk inv h1 h2
    refine x_iload (pc := 23) dL_law_23 rfl ?_
    refine x_aload_n (pc := 25) dL_law_25 rfl ?_
    refine x_slen (pc := 26) dL_law_26 ?_
    refine x_bipush (v := 6) (pc := 27) dL_law_27 (by decide) ?_
    refine x_isub (pc := 29) dL_law_29 ?_
    refine x_icmp_gt (tgt := 1212) (pc := 30) dL_law_30 (by decide) (fun _ => ?_) (fun c => absurd (lw_gt (by omega) (by omega) (by omega)) c)
    refine x_iconst (v := 1) (pc := 1212) dL_law_1212 (by decide) ?_
    exact x_lend dL_law_1213 (by omega) (by omega)
  | succ n ih =>
    intro k h hk inv h1 h2
    refine x_iload (pc := 23) dL_law_23 rfl ?_
    refine x_aload_n (pc := 25) dL_law_25 rfl ?_
    refine x_slen (pc := 26) dL_law_26 ?_
    refine x_bipush (v := 6) (pc := 27) dL_law_27 (by decide) ?_
    refine x_isub (pc := 29) dL_law_29 ?_
    refine x_icmp_gt (tgt := 1212) (pc := 30) dL_law_30 (by decide) (fun _ => ?_) (fun c => ?_)
    · refine x_iconst (v := 1) (pc := 1212) dL_law_1212 (by decide) ?_
      exact x_lend dL_law_1213 (by omega) (by omega)
    · have hi : 6 * k + 6 ≤ L := by
        rcases Nat.lt_or_ge L (6 * k + 6) with z | z
        · exact absurd (lw_gt (by omega) (by omega) z) c
        · exact z
      refine x_aload_n (pc := 33) dL_law_33 rfl ?_
      refine x_iload (pc := 34) dL_law_34 rfl ?_
      refine x_sld (pc := 36) dL_law_36 (vp_in_nI (by omega) (by omega)) ?_
      refine x_bipush (v := 31) (pc := 37) dL_law_37 (by decide) ?_
      refine x_iand (pc := 39) dL_law_39 ?_
      refine law_turn hi hL inv ⟨by omega, by omega⟩ (fun h2 inv2 rm2 => ?_)
      refine y_iinc (c := 6) (pc := 1206) dL_law_1206 rfl (by decide) (by decide) (fun v ev => ?_)
      have ev2 : v = nI (6 * (k + 1)) := by rw [ev, show 6 * (k + 1) = 6 * k + 6 by omega]; exact nI_add _ 6
      subst ev2
      refine x_lvE (lv2 := lwV (6 * (k + 1))) rfl ?_
      refine x_goto (tgt := 23) (pc := 1209) dL_law_1209 (by decide) ?_
      obtain ⟨_, r2, r3⟩ := rm2
      exact ih (k + 1) h2 (by omega) inv2 (by omega) (by omega)

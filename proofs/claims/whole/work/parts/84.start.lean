/-! ===== PURE: the start ===== -/
def X_0 : Nat → Bool := fun _ => false
def X_1 : Nat → Bool := fun a => X_0 a || (decide (26 ≤ a) && decide (a < 26 + 14))
def X_2 : Nat → Bool := fun a => X_1 a || (decide (40 ≤ a) && decide (a < 40 + 14))
def X_3 : Nat → Bool := fun a => X_2 a || (a == 65)
def X_4 : Nat → Bool := fun a => X_3 a || (a == 68)
def st_R : List (Nat × Nat × Option Nat) := [(0, 15, some 67), (67, 1, some 69), (67, 0, some 68), (0, 14, some 64), (64, 1, some 66), (64, 0, some 65), (0, 13, some 59), (59, 3, some 63), (59, 2, some 62), (59, 1, some 61), (59, 0, some 60), (0, 12, some 54), (54, 3, some 58), (54, 2, some 57), (54, 1, some 56), (54, 0, some 55), (0, 11, some 40), (0, 10, some 26), (0, 9, some 25), (0, 8, some 24), (0, 7, some 23), (0, 6, some 18), (18, 7, some 22), (18, 2, some 21), (18, 1, some 20), (18, 0, some 19), (0, 5, some 17), (0, 4, some 16), (0, 3, some 13), (13, 1, some 15), (13, 0, some 14), (0, 2, some 7), (7, 4, some 12), (7, 3, some 11), (7, 2, some 10), (7, 1, some 9), (7, 0, some 8), (0, 1, some 3), (3, 2, some 6), (3, 1, some 5), (3, 0, some 4), (0, 0, some 1), (1, 0, some 2)]
def st_I : List (Nat × Nat × Int32) := [(0, 17, 0), (0, 16, 0), (67, 2, 0), (64, 2, 0), (59, 6, 0), (59, 5, 0), (59, 4, 0), (54, 6, 0), (54, 5, 0), (54, 4, 0), (18, 9, 0), (18, 8, 0), (18, 5, 0), (18, 4, 0), (18, 3, 0), (17, 6, 0), (17, 5, 0), (17, 4, 0), (17, 3, 0), (17, 2, 0), (17, 1, 0), (17, 0, 0), (16, 6, 0), (16, 5, 0), (16, 4, 0), (16, 3, 0), (16, 2, 0), (16, 1, 0), (16, 0, 0), (13, 2, 0), (7, 6, 0), (7, 5, 24), (3, 6, 0), (3, 5, 0), (3, 4, 0), (3, 3, 0), (1, 1, 0)]
theorem X_12 (a : Nat) : X_2 a = (X_1 a || (decide (40 ≤ a) && decide (a < 40 + 14))) := rfl
set_option maxHeartbeats 4000000 in
set_option maxRecDepth 100000 in
theorem start_office {h : PH} {Q : PH → Prop} {fI : Nat → Nat → Int32} {fR : Nat → Nat → Option Nat} (s : NS h 1 [] [] X_0 fI fR) (q : ∀ h1 gI gR, NS h1 70 st_R st_I X_4 gI gR → G1 gI gR → G2 gR → (∀ j, j < 70 → gI 65 j = -1) → Q h1) : wp_X11_init 0 h Q := by
  unfold wp_X11_init
  rw [s.1]
  refine ⟨by decide, fun h1 e1 => ?_⟩
  have s := s.new (k1 := 2) e1 rfl rfl rfl rfl rfl rfl
  clear e1
  try unfold wp_X6_init
  rw [s.1]
  refine ⟨by decide, fun h3 e3 => ?_⟩
  have s := s.new (k1 := 3) e3 rfl rfl rfl rfl rfl rfl
  clear e3
  intro h4 e4
  have s := s.sR e4 rfl
  clear e4
  intro h5 e5
  have s := s.sI e5 rfl
  clear e5
  intro h6 e6
  have s := s.sR e6 rfl
  clear e6
  rw [s.1]
  refine ⟨by decide, fun h7 e7 => ?_⟩
  have s := s.new (k1 := 4) e7 rfl rfl rfl rfl rfl rfl
  clear e7
  try unfold wp_X7_init
  rw [s.1]
  refine ⟨by decide, fun h9 e9 => ?_⟩
  have s := s.new (k1 := 5) e9 rfl rfl rfl rfl rfl rfl
  clear e9
  intro h10 e10
  have s := s.sR e10 rfl
  clear e10
  rw [s.1]
  refine ⟨by decide, fun h11 e11 => ?_⟩
  have s := s.new (k1 := 6) e11 rfl rfl rfl rfl rfl rfl
  clear e11
  intro h12 e12
  have s := s.sR e12 rfl
  clear e12
  rw [s.1]
  refine ⟨by decide, fun h13 e13 => ?_⟩
  have s := s.new (k1 := 7) e13 rfl rfl rfl rfl rfl rfl
  clear e13
  intro h14 e14
  have s := s.sR e14 rfl
  clear e14
  intro h15 e15
  have s := s.sI e15 rfl
  clear e15
  intro h16 e16
  have s := s.sI e16 rfl
  clear e16
  intro h17 e17
  have s := s.sI e17 rfl
  clear e17
  intro h18 e18
  have s := s.sI e18 rfl
  clear e18
  intro h19 e19
  have s := s.sR e19 rfl
  clear e19
  rw [s.1]
  refine ⟨by decide, fun h20 e20 => ?_⟩
  have s := s.new (k1 := 8) e20 rfl rfl rfl rfl rfl rfl
  clear e20
  try unfold wp_X8_init
  rw [s.1]
  refine ⟨by decide, fun h22 e22 => ?_⟩
  have s := s.new (k1 := 9) e22 rfl rfl rfl rfl rfl rfl
  clear e22
  intro h23 e23
  have s := s.sR e23 rfl
  clear e23
  rw [s.1]
  refine ⟨by decide, fun h24 e24 => ?_⟩
  have s := s.new (k1 := 10) e24 rfl rfl rfl rfl rfl rfl
  clear e24
  intro h25 e25
  have s := s.sR e25 rfl
  clear e25
  rw [s.1]
  refine ⟨by decide, fun h26 e26 => ?_⟩
  have s := s.new (k1 := 11) e26 rfl rfl rfl rfl rfl rfl
  clear e26
  intro h27 e27
  have s := s.sR e27 rfl
  clear e27
  rw [s.1]
  refine ⟨by decide, fun h28 e28 => ?_⟩
  have s := s.new (k1 := 12) e28 rfl rfl rfl rfl rfl rfl
  clear e28
  intro h29 e29
  have s := s.sR e29 rfl
  clear e29
  rw [s.1]
  refine ⟨by decide, fun h30 e30 => ?_⟩
  have s := s.new (k1 := 13) e30 rfl rfl rfl rfl rfl rfl
  clear e30
  intro h31 e31
  have s := s.sR e31 rfl
  clear e31
  intro h32 e32
  have s := s.sI e32 rfl
  clear e32
  intro h33 e33
  have s := s.sI e33 rfl
  clear e33
  intro h34 e34
  have s := s.sR e34 rfl
  clear e34
  rw [s.1]
  refine ⟨by decide, fun h35 e35 => ?_⟩
  have s := s.new (k1 := 14) e35 rfl rfl rfl rfl rfl rfl
  clear e35
  try unfold wp_X10_init
  rw [s.1]
  refine ⟨by decide, fun h37 e37 => ?_⟩
  have s := s.new (k1 := 15) e37 rfl rfl rfl rfl rfl rfl
  clear e37
  intro h38 e38
  have s := s.sR e38 rfl
  clear e38
  rw [s.1]
  refine ⟨by decide, fun h39 e39 => ?_⟩
  have s := s.new (k1 := 16) e39 rfl rfl rfl rfl rfl rfl
  clear e39
  intro h40 e40
  have s := s.sR e40 rfl
  clear e40
  intro h41 e41
  have s := s.sI e41 rfl
  clear e41
  intro h42 e42
  have s := s.sR e42 rfl
  clear e42
  rw [s.1]
  refine ⟨by decide, fun h43 e43 => ?_⟩
  have s := s.new (k1 := 17) e43 rfl rfl rfl rfl rfl rfl
  clear e43
  try unfold wp_X5_init
  intro h45 e45
  have s := s.sI e45 rfl
  clear e45
  intro h46 e46
  have s := s.sI e46 rfl
  clear e46
  intro h47 e47
  have s := s.sI e47 rfl
  clear e47
  intro h48 e48
  have s := s.sI e48 rfl
  clear e48
  intro h49 e49
  have s := s.sI e49 rfl
  clear e49
  intro h50 e50
  have s := s.sI e50 rfl
  clear e50
  intro h51 e51
  have s := s.sI e51 rfl
  clear e51
  intro h52 e52
  have s := s.sR e52 rfl
  clear e52
  rw [s.1]
  refine ⟨by decide, fun h53 e53 => ?_⟩
  have s := s.new (k1 := 18) e53 rfl rfl rfl rfl rfl rfl
  clear e53
  try unfold wp_X5_init
  intro h55 e55
  have s := s.sI e55 rfl
  clear e55
  intro h56 e56
  have s := s.sI e56 rfl
  clear e56
  intro h57 e57
  have s := s.sI e57 rfl
  clear e57
  intro h58 e58
  have s := s.sI e58 rfl
  clear e58
  intro h59 e59
  have s := s.sI e59 rfl
  clear e59
  intro h60 e60
  have s := s.sI e60 rfl
  clear e60
  intro h61 e61
  have s := s.sI e61 rfl
  clear e61
  intro h62 e62
  have s := s.sR e62 rfl
  clear e62
  rw [s.1]
  refine ⟨by decide, fun h63 e63 => ?_⟩
  have s := s.new (k1 := 19) e63 rfl rfl rfl rfl rfl rfl
  clear e63
  try unfold wp_X2_init
  rw [s.1]
  refine ⟨by decide, fun h65 e65 => ?_⟩
  have s := s.new (k1 := 20) e65 rfl rfl rfl rfl rfl rfl
  clear e65
  intro h66 e66
  have s := s.sR e66 rfl
  clear e66
  rw [s.1]
  refine ⟨by decide, fun h67 e67 => ?_⟩
  have s := s.new (k1 := 21) e67 rfl rfl rfl rfl rfl rfl
  clear e67
  intro h68 e68
  have s := s.sR e68 rfl
  clear e68
  rw [s.1]
  refine ⟨by decide, fun h69 e69 => ?_⟩
  have s := s.new (k1 := 22) e69 rfl rfl rfl rfl rfl rfl
  clear e69
  intro h70 e70
  have s := s.sR e70 rfl
  clear e70
  intro h71 e71
  have s := s.sI e71 rfl
  clear e71
  intro h72 e72
  have s := s.sI e72 rfl
  clear e72
  intro h73 e73
  have s := s.sI e73 rfl
  clear e73
  intro h74 e74
  have s := s.sJ e74 rfl
  clear e74
  rw [s.1]
  refine ⟨by decide, fun h75 e75 => ?_⟩
  have s := s.new (k1 := 23) e75 rfl rfl rfl rfl rfl rfl
  clear e75
  intro h76 e76
  have s := s.sR e76 rfl
  clear e76
  intro h77 e77
  have s := s.sI e77 rfl
  clear e77
  intro h78 e78
  have s := s.sI e78 rfl
  clear e78
  intro h79 e79
  have s := s.sR e79 rfl
  clear e79
  rw [s.1]
  refine ⟨by decide, fun h80 e80 => ?_⟩
  have s := s.new (k1 := 24) e80 rfl rfl rfl rfl rfl rfl
  clear e80
  intro h81 e81
  have s := s.sR e81 rfl
  clear e81
  rw [s.1]
  refine ⟨by decide, fun h82 e82 => ?_⟩
  have s := s.new (k1 := 25) e82 rfl rfl rfl rfl rfl rfl
  clear e82
  intro h83 e83
  have s := s.sR e83 rfl
  clear e83
  rw [s.1]
  refine ⟨by decide, fun h84 e84 => ?_⟩
  have s := s.new (k1 := 26) e84 rfl rfl rfl rfl rfl rfl
  clear e84
  intro h85 e85
  have s := s.sR e85 rfl
  clear e85
  rw [s.1]
  refine ⟨by decide, fun h86 e86 => ?_⟩
  have s := s.new (k1 := 27) e86 rfl rfl rfl rfl rfl rfl
  clear e86
  refine dinit_ok (by rw [s.1]; decide) (by rw [s.1]; decide) (fun h87 di => ?_)
  rw [s.1] at di
  obtain ⟨s, -⟩ := s.di (k1 := 40) (Y := X_1) di rfl rfl (fun _ => rfl) ⟨rfl, rfl⟩ (by decide)
  have g1 : G1 (qI h87) (qR h87) := ⟨di.2.2.1.2.1, di.2.2.1.2.2.1, di.2.2.1.2.2.2.1, di.2.2.1.1, fun j hj => (di.2.2.2.2 j hj).1⟩
  clear di
  intro h88 e88
  have s := s.sR e88 rfl
  clear e88
  rw [s.1]
  refine ⟨by decide, fun h89 e89 => ?_⟩
  have s := s.new (k1 := 41) e89 rfl rfl rfl rfl rfl rfl
  clear e89
  refine dinit_ok (by rw [s.1]; decide) (by rw [s.1]; decide) (fun h90 di => ?_)
  rw [s.1] at di
  obtain ⟨s, o⟩ := s.di (k1 := 54) (Y := X_2) di rfl rfl X_12 ⟨rfl, rfl⟩ (by decide)
  have g1 := g1.to (o 26 (by decide) rfl).1 (o 26 (by decide) rfl).2 (o 27 (by decide) rfl).2
  have g2 : G2 (qR h90) := ⟨di.2.2.1.1, fun j hj => (di.2.2.2.2 j hj).1⟩
  clear di o
  intro h91 e91
  have s := s.sR e91 rfl
  clear e91
  rw [s.1]
  refine ⟨by decide, fun h92 e92 => ?_⟩
  have s := s.new (k1 := 55) e92 rfl rfl rfl rfl rfl rfl
  clear e92
  try unfold wp_X0_init
  rw [s.1]
  refine ⟨by decide, fun h94 e94 => ?_⟩
  have s := s.new (k1 := 56) e94 rfl rfl rfl rfl rfl rfl
  clear e94
  intro h95 e95
  have s := s.sR e95 rfl
  clear e95
  rw [s.1]
  refine ⟨by decide, fun h96 e96 => ?_⟩
  have s := s.new (k1 := 57) e96 rfl rfl rfl rfl rfl rfl
  clear e96
  intro h97 e97
  have s := s.sR e97 rfl
  clear e97
  rw [s.1]
  refine ⟨by decide, fun h98 e98 => ?_⟩
  have s := s.new (k1 := 58) e98 rfl rfl rfl rfl rfl rfl
  clear e98
  intro h99 e99
  have s := s.sR e99 rfl
  clear e99
  rw [s.1]
  refine ⟨by decide, fun h100 e100 => ?_⟩
  have s := s.new (k1 := 59) e100 rfl rfl rfl rfl rfl rfl
  clear e100
  intro h101 e101
  have s := s.sR e101 rfl
  clear e101
  intro h102 e102
  have s := s.sI e102 rfl
  clear e102
  intro h103 e103
  have s := s.sI e103 rfl
  clear e103
  intro h104 e104
  have s := s.sI e104 rfl
  clear e104
  intro h105 e105
  have s := s.sR e105 rfl
  clear e105
  rw [s.1]
  refine ⟨by decide, fun h106 e106 => ?_⟩
  have s := s.new (k1 := 60) e106 rfl rfl rfl rfl rfl rfl
  clear e106
  try unfold wp_X0_init
  rw [s.1]
  refine ⟨by decide, fun h108 e108 => ?_⟩
  have s := s.new (k1 := 61) e108 rfl rfl rfl rfl rfl rfl
  clear e108
  intro h109 e109
  have s := s.sR e109 rfl
  clear e109
  rw [s.1]
  refine ⟨by decide, fun h110 e110 => ?_⟩
  have s := s.new (k1 := 62) e110 rfl rfl rfl rfl rfl rfl
  clear e110
  intro h111 e111
  have s := s.sR e111 rfl
  clear e111
  rw [s.1]
  refine ⟨by decide, fun h112 e112 => ?_⟩
  have s := s.new (k1 := 63) e112 rfl rfl rfl rfl rfl rfl
  clear e112
  intro h113 e113
  have s := s.sR e113 rfl
  clear e113
  rw [s.1]
  refine ⟨by decide, fun h114 e114 => ?_⟩
  have s := s.new (k1 := 64) e114 rfl rfl rfl rfl rfl rfl
  clear e114
  intro h115 e115
  have s := s.sR e115 rfl
  clear e115
  intro h116 e116
  have s := s.sI e116 rfl
  clear e116
  intro h117 e117
  have s := s.sI e117 rfl
  clear e117
  intro h118 e118
  have s := s.sI e118 rfl
  clear e118
  intro h119 e119
  have s := s.sR e119 rfl
  clear e119
  rw [s.1]
  refine ⟨by decide, fun h120 e120 => ?_⟩
  have s := s.new (k1 := 65) e120 rfl rfl rfl rfl rfl rfl
  clear e120
  try unfold wp_X3_init
  rw [s.1]
  refine ⟨by decide, fun h122 e122 => ?_⟩
  have s := s.new (k1 := 66) e122 rfl rfl rfl rfl rfl rfl
  clear e122
  intro h123 e123
  have s := s.sR e123 rfl
  clear e123
  rw [s.1]
  refine ⟨by decide, fun h124 e124 => ?_⟩
  have s := s.new (k1 := 67) e124 rfl rfl rfl rfl rfl rfl
  clear e124
  intro h125 e125
  have s := s.sR e125 rfl
  clear e125
  intro h126 e126
  have s := s.sI e126 rfl
  clear e126
  refine linit_ok (r := 65) (((s.2.2.1 64 (by decide) rfl).1 0).trans rfl) (s.2.1 65 (by decide)).2 (fun h127 f gg => ?_)
  obtain ⟨s, o⟩ := s.fr (Y := X_3) f (fun _ => rfl)
  have g1 := g1.to (o 26 (by decide) (by decide) rfl).1 (o 26 (by decide) (by decide) rfl).2 (o 27 (by decide) (by decide) rfl).2
  have g2 := g2.to (o 40 (by decide) (by decide) rfl).2 (o 41 (by decide) (by decide) rfl).2
  have g3 : ∀ j, j < 70 → qI h127 65 j = -1 := gg
  clear f gg o
  intro h128 e128
  have s := s.sR e128 rfl
  clear e128
  rw [s.1]
  refine ⟨by decide, fun h129 e129 => ?_⟩
  have s := s.new (k1 := 68) e129 rfl rfl rfl rfl rfl rfl
  clear e129
  try unfold wp_X3_init
  rw [s.1]
  refine ⟨by decide, fun h131 e131 => ?_⟩
  have s := s.new (k1 := 69) e131 rfl rfl rfl rfl rfl rfl
  clear e131
  intro h132 e132
  have s := s.sR e132 rfl
  clear e132
  rw [s.1]
  refine ⟨by decide, fun h133 e133 => ?_⟩
  have s := s.new (k1 := 70) e133 rfl rfl rfl rfl rfl rfl
  clear e133
  intro h134 e134
  have s := s.sR e134 rfl
  clear e134
  intro h135 e135
  have s := s.sI e135 rfl
  clear e135
  refine linit_ok (r := 68) (((s.2.2.1 67 (by decide) rfl).1 0).trans rfl) (s.2.1 68 (by decide)).2 (fun h136 f gg => ?_)
  obtain ⟨s, o⟩ := s.fr (Y := X_4) f (fun _ => rfl)
  have g1 := g1.to (o 26 (by decide) (by decide) rfl).1 (o 26 (by decide) (by decide) rfl).2 (o 27 (by decide) (by decide) rfl).2
  have g2 := g2.to (o 40 (by decide) (by decide) rfl).2 (o 41 (by decide) (by decide) rfl).2
  have g3 : ∀ j, j < 70 → qI h136 65 j = -1 := fun j hj => by rw [(o 65 (by decide) (by decide) rfl).1]; exact g3 j hj
  clear f gg o
  intro h137 e137
  have s := s.sR e137 rfl
  clear e137
  intro h138 e138
  have s := s.sI e138 rfl
  clear e138
  intro h139 e139
  have s := s.sI e139 rfl
  clear e139
  exact q _ _ _ s g1 g2 g3
def st_M : List (Nat × Nat × Option Nat) := [(70, 60, some 91), (70, 59, some 90), (70, 57, some 89), (70, 55, some 88), (70, 50, some 87), (70, 49, some 86), (70, 48, some 85), (70, 40, some 84), (70, 39, some 83), (70, 38, some 82), (70, 37, some 81), (70, 35, some 80), (70, 22, some 79), (70, 21, some 78), (70, 19, some 77), (70, 18, some 76), (70, 17, some 75), (70, 16, some 74), (70, 15, some 73), (70, 14, some 72), (70, 1, some 71)]
set_option maxHeartbeats 4000000 in
set_option maxRecDepth 100000 in
theorem start_model {h : PH} {Q : PH → Prop} {fI : Nat → Nat → Int32} {fR : Nat → Nat → Option Nat} (s : NS h 71 st_R st_I X_4 fI fR) (q : ∀ h1, NS h1 92 (st_M ++ st_R) st_I X_4 fI fR → Q h1) : wp_X12_init 70 h Q := by
  unfold wp_X12_init
  rw [s.1]
  refine ⟨by decide, fun h140 e140 => ?_⟩
  have s := s.new (k1 := 72) e140 rfl rfl rfl rfl rfl rfl
  clear e140
  intro h141 e141
  have s := s.sR e141 rfl
  clear e141
  rw [s.1]
  refine ⟨by decide, fun h142 e142 => ?_⟩
  have s := s.new (k1 := 73) e142 rfl rfl rfl rfl rfl rfl
  clear e142
  intro h143 e143
  have s := s.sR e143 rfl
  clear e143
  rw [s.1]
  refine ⟨by decide, fun h144 e144 => ?_⟩
  have s := s.new (k1 := 74) e144 rfl rfl rfl rfl rfl rfl
  clear e144
  intro h145 e145
  have s := s.sR e145 rfl
  clear e145
  rw [s.1]
  refine ⟨by decide, fun h146 e146 => ?_⟩
  have s := s.new (k1 := 75) e146 rfl rfl rfl rfl rfl rfl
  clear e146
  intro h147 e147
  have s := s.sR e147 rfl
  clear e147
  rw [s.1]
  refine ⟨by decide, fun h148 e148 => ?_⟩
  have s := s.new (k1 := 76) e148 rfl rfl rfl rfl rfl rfl
  clear e148
  intro h149 e149
  have s := s.sR e149 rfl
  clear e149
  rw [s.1]
  refine ⟨by decide, fun h150 e150 => ?_⟩
  have s := s.new (k1 := 77) e150 rfl rfl rfl rfl rfl rfl
  clear e150
  intro h151 e151
  have s := s.sR e151 rfl
  clear e151
  rw [s.1]
  refine ⟨by decide, fun h152 e152 => ?_⟩
  have s := s.new (k1 := 78) e152 rfl rfl rfl rfl rfl rfl
  clear e152
  intro h153 e153
  have s := s.sR e153 rfl
  clear e153
  rw [s.1]
  refine ⟨by decide, fun h154 e154 => ?_⟩
  have s := s.new (k1 := 79) e154 rfl rfl rfl rfl rfl rfl
  clear e154
  intro h155 e155
  have s := s.sR e155 rfl
  clear e155
  rw [s.1]
  refine ⟨by decide, fun h156 e156 => ?_⟩
  have s := s.new (k1 := 80) e156 rfl rfl rfl rfl rfl rfl
  clear e156
  intro h157 e157
  have s := s.sR e157 rfl
  clear e157
  rw [s.1]
  refine ⟨by decide, fun h158 e158 => ?_⟩
  have s := s.new (k1 := 81) e158 rfl rfl rfl rfl rfl rfl
  clear e158
  intro h159 e159
  have s := s.sR e159 rfl
  clear e159
  rw [s.1]
  refine ⟨by decide, fun h160 e160 => ?_⟩
  have s := s.new (k1 := 82) e160 rfl rfl rfl rfl rfl rfl
  clear e160
  intro h161 e161
  have s := s.sR e161 rfl
  clear e161
  rw [s.1]
  refine ⟨by decide, fun h162 e162 => ?_⟩
  have s := s.new (k1 := 83) e162 rfl rfl rfl rfl rfl rfl
  clear e162
  intro h163 e163
  have s := s.sR e163 rfl
  clear e163
  rw [s.1]
  refine ⟨by decide, fun h164 e164 => ?_⟩
  have s := s.new (k1 := 84) e164 rfl rfl rfl rfl rfl rfl
  clear e164
  intro h165 e165
  have s := s.sR e165 rfl
  clear e165
  rw [s.1]
  refine ⟨by decide, fun h166 e166 => ?_⟩
  have s := s.new (k1 := 85) e166 rfl rfl rfl rfl rfl rfl
  clear e166
  intro h167 e167
  have s := s.sR e167 rfl
  clear e167
  rw [s.1]
  refine ⟨by decide, fun h168 e168 => ?_⟩
  have s := s.new (k1 := 86) e168 rfl rfl rfl rfl rfl rfl
  clear e168
  intro h169 e169
  have s := s.sR e169 rfl
  clear e169
  rw [s.1]
  refine ⟨by decide, fun h170 e170 => ?_⟩
  have s := s.new (k1 := 87) e170 rfl rfl rfl rfl rfl rfl
  clear e170
  intro h171 e171
  have s := s.sR e171 rfl
  clear e171
  rw [s.1]
  refine ⟨by decide, fun h172 e172 => ?_⟩
  have s := s.new (k1 := 88) e172 rfl rfl rfl rfl rfl rfl
  clear e172
  intro h173 e173
  have s := s.sR e173 rfl
  clear e173
  rw [s.1]
  refine ⟨by decide, fun h174 e174 => ?_⟩
  have s := s.new (k1 := 89) e174 rfl rfl rfl rfl rfl rfl
  clear e174
  intro h175 e175
  have s := s.sR e175 rfl
  clear e175
  rw [s.1]
  refine ⟨by decide, fun h176 e176 => ?_⟩
  have s := s.new (k1 := 90) e176 rfl rfl rfl rfl rfl rfl
  clear e176
  intro h177 e177
  have s := s.sR e177 rfl
  clear e177
  rw [s.1]
  refine ⟨by decide, fun h178 e178 => ?_⟩
  have s := s.new (k1 := 91) e178 rfl rfl rfl rfl rfl rfl
  clear e178
  intro h179 e179
  have s := s.sR e179 rfl
  clear e179
  rw [s.1]
  refine ⟨by decide, fun h180 e180 => ?_⟩
  have s := s.new (k1 := 92) e180 rfl rfl rfl rfl rfl rfl
  clear e180
  intro h181 e181
  have s := s.sR e181 rfl
  clear e181
  exact q _ s

/-! ===== the law, cases 24 to 30 ===== -/
theorem dL_law_1019 : decode cL_law 1019 = .ok (.aload_n 1, 1) := by decide +kernel
theorem dL_law_1020 : decode cL_law 1020 = .ok (.aload_n 0, 1) := by decide +kernel
theorem dL_law_1021 : decode cL_law 1021 = .ok (.iload 4, 2) := by decide +kernel
theorem dL_law_1023 : decode cL_law 1023 = .ok (.iconst 1, 1) := by decide +kernel
theorem dL_law_1024 : decode cL_law 1024 = .ok (.iadd, 1) := by decide +kernel
theorem dL_law_1025 : decode cL_law 1025 = .ok (.iaload, 1) := by decide +kernel
theorem dL_law_1026 : decode cL_law 1026 = .ok (.invokevirtual 134, 3) := by decide +kernel
set_option maxRecDepth 50000 in
theorem lRL_134 : Cond.methodLink RL 134 yX11_same ∈ qw_good := qw_g 1002 rfl rfl
theorem dL_law_1029 : decode cL_law 1029 = .ok (.aload_n 2, 1) := by decide +kernel
theorem dL_law_1030 : decode cL_law 1030 = .ok (.aload_n 0, 1) := by decide +kernel
theorem dL_law_1031 : decode cL_law 1031 = .ok (.iload 4, 2) := by decide +kernel
theorem dL_law_1033 : decode cL_law 1033 = .ok (.iconst 1, 1) := by decide +kernel
theorem dL_law_1034 : decode cL_law 1034 = .ok (.iadd, 1) := by decide +kernel
theorem dL_law_1035 : decode cL_law 1035 = .ok (.iaload, 1) := by decide +kernel
theorem dL_law_1036 : decode cL_law 1036 = .ok (.invokevirtual 137, 3) := by decide +kernel
set_option maxRecDepth 50000 in
theorem lRL_137 : Cond.methodLink RL 137 yX12_same ∈ qw_good := qw_g 1781 rfl rfl
theorem dL_law_1039 : decode cL_law 1039 = .ok (.if_icmp .eq 167, 3) := by decide +kernel
theorem dL_law_1044 : decode cL_law 1044 = .ok (.aload_n 1, 1) := by decide +kernel
theorem dL_law_1045 : decode cL_law 1045 = .ok (.aload_n 0, 1) := by decide +kernel
theorem dL_law_1046 : decode cL_law 1046 = .ok (.iload 4, 2) := by decide +kernel
theorem dL_law_1048 : decode cL_law 1048 = .ok (.iconst 1, 1) := by decide +kernel
theorem dL_law_1049 : decode cL_law 1049 = .ok (.iadd, 1) := by decide +kernel
theorem dL_law_1050 : decode cL_law 1050 = .ok (.iaload, 1) := by decide +kernel
theorem dL_law_1051 : decode cL_law 1051 = .ok (.aload_n 0, 1) := by decide +kernel
theorem dL_law_1052 : decode cL_law 1052 = .ok (.iload 4, 2) := by decide +kernel
theorem dL_law_1054 : decode cL_law 1054 = .ok (.iconst 2, 1) := by decide +kernel
theorem dL_law_1055 : decode cL_law 1055 = .ok (.iadd, 1) := by decide +kernel
theorem dL_law_1056 : decode cL_law 1056 = .ok (.iaload, 1) := by decide +kernel
theorem dL_law_1057 : decode cL_law 1057 = .ok (.aload_n 0, 1) := by decide +kernel
theorem dL_law_1058 : decode cL_law 1058 = .ok (.iload 4, 2) := by decide +kernel
theorem dL_law_1060 : decode cL_law 1060 = .ok (.iconst 3, 1) := by decide +kernel
theorem dL_law_1061 : decode cL_law 1061 = .ok (.iadd, 1) := by decide +kernel
theorem dL_law_1062 : decode cL_law 1062 = .ok (.iaload, 1) := by decide +kernel
theorem dL_law_1063 : decode cL_law 1063 = .ok (.aload_n 0, 1) := by decide +kernel
theorem dL_law_1064 : decode cL_law 1064 = .ok (.iload 4, 2) := by decide +kernel
theorem dL_law_1066 : decode cL_law 1066 = .ok (.iconst 4, 1) := by decide +kernel
theorem dL_law_1067 : decode cL_law 1067 = .ok (.iadd, 1) := by decide +kernel
theorem dL_law_1068 : decode cL_law 1068 = .ok (.iaload, 1) := by decide +kernel
theorem dL_law_1069 : decode cL_law 1069 = .ok (.invokevirtual 138, 3) := by decide +kernel
set_option maxRecDepth 50000 in
theorem lRL_138 : Cond.methodLink RL 138 yX11_feeding ∈ qw_good := qw_g 1025 rfl rfl
theorem dL_law_1072 : decode cL_law 1072 = .ok (.aload_n 2, 1) := by decide +kernel
theorem dL_law_1073 : decode cL_law 1073 = .ok (.aload_n 0, 1) := by decide +kernel
theorem dL_law_1074 : decode cL_law 1074 = .ok (.iload 4, 2) := by decide +kernel
theorem dL_law_1076 : decode cL_law 1076 = .ok (.iconst 1, 1) := by decide +kernel
theorem dL_law_1077 : decode cL_law 1077 = .ok (.iadd, 1) := by decide +kernel
theorem dL_law_1078 : decode cL_law 1078 = .ok (.iaload, 1) := by decide +kernel
theorem dL_law_1079 : decode cL_law 1079 = .ok (.aload_n 0, 1) := by decide +kernel
theorem dL_law_1080 : decode cL_law 1080 = .ok (.iload 4, 2) := by decide +kernel
theorem dL_law_1082 : decode cL_law 1082 = .ok (.iconst 2, 1) := by decide +kernel
theorem dL_law_1083 : decode cL_law 1083 = .ok (.iadd, 1) := by decide +kernel
theorem dL_law_1084 : decode cL_law 1084 = .ok (.iaload, 1) := by decide +kernel
theorem dL_law_1085 : decode cL_law 1085 = .ok (.aload_n 0, 1) := by decide +kernel
theorem dL_law_1086 : decode cL_law 1086 = .ok (.iload 4, 2) := by decide +kernel
theorem dL_law_1088 : decode cL_law 1088 = .ok (.iconst 3, 1) := by decide +kernel
theorem dL_law_1089 : decode cL_law 1089 = .ok (.iadd, 1) := by decide +kernel
theorem dL_law_1090 : decode cL_law 1090 = .ok (.iaload, 1) := by decide +kernel
theorem dL_law_1091 : decode cL_law 1091 = .ok (.aload_n 0, 1) := by decide +kernel
theorem dL_law_1092 : decode cL_law 1092 = .ok (.iload 4, 2) := by decide +kernel
theorem dL_law_1094 : decode cL_law 1094 = .ok (.iconst 4, 1) := by decide +kernel
theorem dL_law_1095 : decode cL_law 1095 = .ok (.iadd, 1) := by decide +kernel
theorem dL_law_1096 : decode cL_law 1096 = .ok (.iaload, 1) := by decide +kernel
theorem dL_law_1097 : decode cL_law 1097 = .ok (.invokevirtual 142, 3) := by decide +kernel
set_option maxRecDepth 50000 in
theorem lRL_142 : Cond.methodLink RL 142 yX12_feeding ∈ qw_good := qw_g 1789 rfl rfl
theorem dL_law_1100 : decode cL_law 1100 = .ok (.if_icmp .eq 106, 3) := by decide +kernel
theorem dL_law_1105 : decode cL_law 1105 = .ok (.aload_n 1, 1) := by decide +kernel
theorem dL_law_1106 : decode cL_law 1106 = .ok (.invokevirtual 143, 3) := by decide +kernel
set_option maxRecDepth 50000 in
theorem lRL_143 : Cond.methodLink RL 143 yX11_inventor ∈ qw_good := qw_g 1038 rfl rfl
theorem dL_law_1109 : decode cL_law 1109 = .ok (.aload_n 2, 1) := by decide +kernel
theorem dL_law_1110 : decode cL_law 1110 = .ok (.invokevirtual 146, 3) := by decide +kernel
set_option maxRecDepth 50000 in
theorem lRL_146 : Cond.methodLink RL 146 yX12_inventor ∈ qw_good := qw_g 1797 rfl rfl
theorem dL_law_1113 : decode cL_law 1113 = .ok (.if_icmp .eq 93, 3) := by decide +kernel
theorem dL_law_1118 : decode cL_law 1118 = .ok (.aload_n 1, 1) := by decide +kernel
theorem dL_law_1119 : decode cL_law 1119 = .ok (.aload_n 0, 1) := by decide +kernel
theorem dL_law_1120 : decode cL_law 1120 = .ok (.iload 4, 2) := by decide +kernel
theorem dL_law_1122 : decode cL_law 1122 = .ok (.iconst 1, 1) := by decide +kernel
theorem dL_law_1123 : decode cL_law 1123 = .ok (.iadd, 1) := by decide +kernel
theorem dL_law_1124 : decode cL_law 1124 = .ok (.iaload, 1) := by decide +kernel
theorem dL_law_1125 : decode cL_law 1125 = .ok (.invokevirtual 147, 3) := by decide +kernel
set_option maxRecDepth 50000 in
theorem lRL_147 : Cond.methodLink RL 147 yX11_right ∈ qw_good := qw_g 1065 rfl rfl
theorem dL_law_1128 : decode cL_law 1128 = .ok (.aload_n 2, 1) := by decide +kernel
theorem dL_law_1129 : decode cL_law 1129 = .ok (.aload_n 0, 1) := by decide +kernel
theorem dL_law_1130 : decode cL_law 1130 = .ok (.iload 4, 2) := by decide +kernel
theorem dL_law_1132 : decode cL_law 1132 = .ok (.iconst 1, 1) := by decide +kernel
theorem dL_law_1133 : decode cL_law 1133 = .ok (.iadd, 1) := by decide +kernel
theorem dL_law_1134 : decode cL_law 1134 = .ok (.iaload, 1) := by decide +kernel
theorem dL_law_1135 : decode cL_law 1135 = .ok (.invokevirtual 150, 3) := by decide +kernel
set_option maxRecDepth 50000 in
theorem lRL_150 : Cond.methodLink RL 150 yX12_right ∈ qw_good := qw_g 1813 rfl rfl
theorem dL_law_1138 : decode cL_law 1138 = .ok (.if_icmp .eq 68, 3) := by decide +kernel
theorem dL_law_1143 : decode cL_law 1143 = .ok (.aload_n 1, 1) := by decide +kernel
theorem dL_law_1144 : decode cL_law 1144 = .ok (.invokevirtual 151, 3) := by decide +kernel
set_option maxRecDepth 50000 in
theorem lRL_151 : Cond.methodLink RL 151 yX11_answer ∈ qw_good := qw_g 1098 rfl rfl
theorem dL_law_1147 : decode cL_law 1147 = .ok (.aload_n 2, 1) := by decide +kernel
theorem dL_law_1148 : decode cL_law 1148 = .ok (.invokevirtual 154, 3) := by decide +kernel
set_option maxRecDepth 50000 in
theorem lRL_154 : Cond.methodLink RL 154 yX12_answer ∈ qw_good := qw_g 1825 rfl rfl
theorem dL_law_1151 : decode cL_law 1151 = .ok (.if_icmp .eq 55, 3) := by decide +kernel
theorem dL_law_1156 : decode cL_law 1156 = .ok (.aload_n 1, 1) := by decide +kernel
theorem dL_law_1157 : decode cL_law 1157 = .ok (.aload_n 0, 1) := by decide +kernel
theorem dL_law_1158 : decode cL_law 1158 = .ok (.iload 4, 2) := by decide +kernel
theorem dL_law_1160 : decode cL_law 1160 = .ok (.iconst 1, 1) := by decide +kernel
theorem dL_law_1161 : decode cL_law 1161 = .ok (.iadd, 1) := by decide +kernel
theorem dL_law_1162 : decode cL_law 1162 = .ok (.iaload, 1) := by decide +kernel
theorem dL_law_1163 : decode cL_law 1163 = .ok (.invokevirtual 155, 3) := by decide +kernel
set_option maxRecDepth 50000 in
theorem lRL_155 : Cond.methodLink RL 155 yX11_answerAt ∈ qw_good := qw_g 1123 rfl rfl
theorem dL_law_1166 : decode cL_law 1166 = .ok (.aload_n 2, 1) := by decide +kernel
theorem dL_law_1167 : decode cL_law 1167 = .ok (.aload_n 0, 1) := by decide +kernel
theorem dL_law_1168 : decode cL_law 1168 = .ok (.iload 4, 2) := by decide +kernel
theorem dL_law_1170 : decode cL_law 1170 = .ok (.iconst 1, 1) := by decide +kernel
theorem dL_law_1171 : decode cL_law 1171 = .ok (.iadd, 1) := by decide +kernel
theorem dL_law_1172 : decode cL_law 1172 = .ok (.iaload, 1) := by decide +kernel
theorem dL_law_1173 : decode cL_law 1173 = .ok (.invokevirtual 158, 3) := by decide +kernel
set_option maxRecDepth 50000 in
theorem lRL_158 : Cond.methodLink RL 158 yX12_answerAt ∈ qw_good := qw_g 1833 rfl rfl
theorem dL_law_1176 : decode cL_law 1176 = .ok (.if_icmp .eq 30, 3) := by decide +kernel
theorem dL_law_1181 : decode cL_law 1181 = .ok (.aload_n 1, 1) := by decide +kernel
theorem dL_law_1182 : decode cL_law 1182 = .ok (.aload_n 0, 1) := by decide +kernel
theorem dL_law_1183 : decode cL_law 1183 = .ok (.iload 4, 2) := by decide +kernel
theorem dL_law_1185 : decode cL_law 1185 = .ok (.iconst 1, 1) := by decide +kernel
theorem dL_law_1186 : decode cL_law 1186 = .ok (.iadd, 1) := by decide +kernel
theorem dL_law_1187 : decode cL_law 1187 = .ok (.iaload, 1) := by decide +kernel
theorem dL_law_1188 : decode cL_law 1188 = .ok (.invokevirtual 159, 3) := by decide +kernel
set_option maxRecDepth 50000 in
theorem lRL_159 : Cond.methodLink RL 159 yX11_count ∈ qw_good := qw_g 1127 rfl rfl
theorem dL_law_1191 : decode cL_law 1191 = .ok (.aload_n 2, 1) := by decide +kernel
theorem dL_law_1192 : decode cL_law 1192 = .ok (.aload_n 0, 1) := by decide +kernel
theorem dL_law_1193 : decode cL_law 1193 = .ok (.iload 4, 2) := by decide +kernel
theorem dL_law_1195 : decode cL_law 1195 = .ok (.iconst 1, 1) := by decide +kernel
theorem dL_law_1196 : decode cL_law 1196 = .ok (.iadd, 1) := by decide +kernel
theorem dL_law_1197 : decode cL_law 1197 = .ok (.iaload, 1) := by decide +kernel
theorem dL_law_1198 : decode cL_law 1198 = .ok (.invokevirtual 162, 3) := by decide +kernel
set_option maxRecDepth 50000 in
theorem lRL_162 : Cond.methodLink RL 162 yX12_count ∈ qw_good := qw_g 1837 rfl rfl
theorem dL_law_1201 : decode cL_law 1201 = .ok (.if_icmp .eq 5, 3) := by decide +kernel
set_option maxHeartbeats 4000000 in
set_option maxRecDepth 100000 in
theorem lc_24 {G : GT} {L : Nat} {xs : Nat → Int32} {i : Nat} (hi : i + 6 ≤ L) (hL : L ≤ 3072) {h : PH} (inv : Inv h) (rm : LwR h) (kk : ∀ h2, Inv h2 → Rm h h2 → LwE G L xs 1206 i h2) : LwE G L xs 1019 i h := by
  refine x_aload_n (pc := 1019) dL_law_1019 rfl ?_
  refine x_aload_n (pc := 1020) dL_law_1020 rfl ?_
  refine x_iload (pc := 1021) dL_law_1021 rfl ?_
  refine x_iconst (v := 1) (pc := 1023) dL_law_1023 (by decide) ?_
  refine x_iadd (pc := 1024) dL_law_1024 ?_
  refine x_sld (pc := 1025) dL_law_1025 (sc_in 1 rfl (by omega) hL) ?_
  refine x_invV (As := [.int (xs (nI i + 1).toNatClampNeg)]) (st := []) (pc := 1026) dL_law_1026 lRL_134 fX11_same vX11_same inv.k0 rfl (Nat.le_of_ble_eq_true rfl) ⟨by decide, by decide⟩ (lw_C ⟨by have := rm.1; omega, by have := rm.2; omega⟩ (by decide) (by decide)) (sn_X11_same G 0 0 (xs (nI i + 1).toNatClampNeg) h _ inv.k0 (op_same inv (xs (nI i + 1).toNatClampNeg))) (k_i (fun r1 h1 hwp cx1 => ?_))
  have rm1 : qn h1 ≤ 10000 ∧ qz h1 ≤ 1000000 := ⟨by have := rm.1; have := cx1.2.1; omega, by have := rm.2; have := cx1.2.2; omega⟩
  have ok70 := inv.k70.ex cx1.1
  refine x_aload_n (pc := 1029) dL_law_1029 rfl ?_
  refine x_aload_n (pc := 1030) dL_law_1030 rfl ?_
  refine x_iload (pc := 1031) dL_law_1031 rfl ?_
  refine x_iconst (v := 1) (pc := 1033) dL_law_1033 (by decide) ?_
  refine x_iadd (pc := 1034) dL_law_1034 ?_
  refine x_sld (pc := 1035) dL_law_1035 (sc_in 1 rfl (by omega) hL) ?_
  refine x_invV (As := [.int (xs (nI i + 1).toNatClampNeg)]) (st := [.int r1]) (pc := 1036) dL_law_1036 lRL_137 fX12_same vX12_same ok70 rfl (Nat.le_of_ble_eq_true rfl) ⟨by decide, by decide⟩ (lw_C rm1 (by decide) (by decide)) (sn_X12_same G 0 70 (xs (nI i + 1).toNatClampNeg) h1 _ ok70 hwp) (k_i (fun r2 h2 both cx2 => ?_))
  exact x_icmp_eq (tgt := 1206) (pc := 1039) dL_law_1039 (by decide) (fun _ => kk h2 both.2.1 both.2.2) (fun c => absurd both.1 c)

set_option maxHeartbeats 4000000 in
set_option maxRecDepth 100000 in
theorem lc_25 {G : GT} {L : Nat} {xs : Nat → Int32} {i : Nat} (hi : i + 6 ≤ L) (hL : L ≤ 3072) {h : PH} (inv : Inv h) (rm : LwR h) (kk : ∀ h2, Inv h2 → Rm h h2 → LwE G L xs 1206 i h2) : LwE G L xs 1044 i h := by
  refine x_aload_n (pc := 1044) dL_law_1044 rfl ?_
  refine x_aload_n (pc := 1045) dL_law_1045 rfl ?_
  refine x_iload (pc := 1046) dL_law_1046 rfl ?_
  refine x_iconst (v := 1) (pc := 1048) dL_law_1048 (by decide) ?_
  refine x_iadd (pc := 1049) dL_law_1049 ?_
  refine x_sld (pc := 1050) dL_law_1050 (sc_in 1 rfl (by omega) hL) ?_
  refine x_aload_n (pc := 1051) dL_law_1051 rfl ?_
  refine x_iload (pc := 1052) dL_law_1052 rfl ?_
  refine x_iconst (v := 2) (pc := 1054) dL_law_1054 (by decide) ?_
  refine x_iadd (pc := 1055) dL_law_1055 ?_
  refine x_sld (pc := 1056) dL_law_1056 (sc_in 2 rfl (by omega) hL) ?_
  refine x_aload_n (pc := 1057) dL_law_1057 rfl ?_
  refine x_iload (pc := 1058) dL_law_1058 rfl ?_
  refine x_iconst (v := 3) (pc := 1060) dL_law_1060 (by decide) ?_
  refine x_iadd (pc := 1061) dL_law_1061 ?_
  refine x_sld (pc := 1062) dL_law_1062 (sc_in 3 rfl (by omega) hL) ?_
  refine x_aload_n (pc := 1063) dL_law_1063 rfl ?_
  refine x_iload (pc := 1064) dL_law_1064 rfl ?_
  refine x_iconst (v := 4) (pc := 1066) dL_law_1066 (by decide) ?_
  refine x_iadd (pc := 1067) dL_law_1067 ?_
  refine x_sld (pc := 1068) dL_law_1068 (sc_in 4 rfl (by omega) hL) ?_
  refine x_invV (As := [.int (xs (nI i + 1).toNatClampNeg), .int (xs (nI i + 2).toNatClampNeg), .int (xs (nI i + 3).toNatClampNeg), .int (xs (nI i + 4).toNatClampNeg)]) (st := []) (pc := 1069) dL_law_1069 lRL_138 fX11_feeding vX11_feeding inv.k0 rfl (Nat.le_of_ble_eq_true rfl) ⟨by decide, by decide⟩ (lw_C ⟨by have := rm.1; omega, by have := rm.2; omega⟩ (by decide) (by decide)) (sn_X11_feeding G 0 0 (xs (nI i + 1).toNatClampNeg) (xs (nI i + 2).toNatClampNeg) (xs (nI i + 3).toNatClampNeg) (xs (nI i + 4).toNatClampNeg) h _ inv.k0 (op_feeding inv (xs (nI i + 1).toNatClampNeg) (xs (nI i + 2).toNatClampNeg) (xs (nI i + 3).toNatClampNeg) (xs (nI i + 4).toNatClampNeg))) (k_i (fun r1 h1 hwp cx1 => ?_))
  have rm1 : qn h1 ≤ 10000 ∧ qz h1 ≤ 1000000 := ⟨by have := rm.1; have := cx1.2.1; omega, by have := rm.2; have := cx1.2.2; omega⟩
  have ok70 := inv.k70.ex cx1.1
  refine x_aload_n (pc := 1072) dL_law_1072 rfl ?_
  refine x_aload_n (pc := 1073) dL_law_1073 rfl ?_
  refine x_iload (pc := 1074) dL_law_1074 rfl ?_
  refine x_iconst (v := 1) (pc := 1076) dL_law_1076 (by decide) ?_
  refine x_iadd (pc := 1077) dL_law_1077 ?_
  refine x_sld (pc := 1078) dL_law_1078 (sc_in 1 rfl (by omega) hL) ?_
  refine x_aload_n (pc := 1079) dL_law_1079 rfl ?_
  refine x_iload (pc := 1080) dL_law_1080 rfl ?_
  refine x_iconst (v := 2) (pc := 1082) dL_law_1082 (by decide) ?_
  refine x_iadd (pc := 1083) dL_law_1083 ?_
  refine x_sld (pc := 1084) dL_law_1084 (sc_in 2 rfl (by omega) hL) ?_
  refine x_aload_n (pc := 1085) dL_law_1085 rfl ?_
  refine x_iload (pc := 1086) dL_law_1086 rfl ?_
  refine x_iconst (v := 3) (pc := 1088) dL_law_1088 (by decide) ?_
  refine x_iadd (pc := 1089) dL_law_1089 ?_
  refine x_sld (pc := 1090) dL_law_1090 (sc_in 3 rfl (by omega) hL) ?_
  refine x_aload_n (pc := 1091) dL_law_1091 rfl ?_
  refine x_iload (pc := 1092) dL_law_1092 rfl ?_
  refine x_iconst (v := 4) (pc := 1094) dL_law_1094 (by decide) ?_
  refine x_iadd (pc := 1095) dL_law_1095 ?_
  refine x_sld (pc := 1096) dL_law_1096 (sc_in 4 rfl (by omega) hL) ?_
  refine x_invV (As := [.int (xs (nI i + 1).toNatClampNeg), .int (xs (nI i + 2).toNatClampNeg), .int (xs (nI i + 3).toNatClampNeg), .int (xs (nI i + 4).toNatClampNeg)]) (st := [.int r1]) (pc := 1097) dL_law_1097 lRL_142 fX12_feeding vX12_feeding ok70 rfl (Nat.le_of_ble_eq_true rfl) ⟨by decide, by decide⟩ (lw_C rm1 (by decide) (by decide)) (sn_X12_feeding G 0 70 (xs (nI i + 1).toNatClampNeg) (xs (nI i + 2).toNatClampNeg) (xs (nI i + 3).toNatClampNeg) (xs (nI i + 4).toNatClampNeg) h1 _ ok70 hwp) (k_i (fun r2 h2 both cx2 => ?_))
  exact x_icmp_eq (tgt := 1206) (pc := 1100) dL_law_1100 (by decide) (fun _ => kk h2 both.2.1 both.2.2) (fun c => absurd both.1 c)

set_option maxHeartbeats 4000000 in
set_option maxRecDepth 100000 in
theorem lc_26 {G : GT} {L : Nat} {xs : Nat → Int32} {i : Nat} (hi : i + 6 ≤ L) (hL : L ≤ 3072) {h : PH} (inv : Inv h) (rm : LwR h) (kk : ∀ h2, Inv h2 → Rm h h2 → LwE G L xs 1206 i h2) : LwE G L xs 1105 i h := by
  refine x_aload_n (pc := 1105) dL_law_1105 rfl ?_
  refine x_invV (As := []) (st := []) (pc := 1106) dL_law_1106 lRL_143 fX11_inventor vX11_inventor inv.k0 rfl (Nat.le_of_ble_eq_true rfl) ⟨by decide, by decide⟩ (lw_C ⟨by have := rm.1; omega, by have := rm.2; omega⟩ (by decide) (by decide)) (sn_X11_inventor G 0 0  h _ inv.k0 (op_inventor inv )) (k_i (fun r1 h1 hwp cx1 => ?_))
  have rm1 : qn h1 ≤ 10000 ∧ qz h1 ≤ 1000000 := ⟨by have := rm.1; have := cx1.2.1; omega, by have := rm.2; have := cx1.2.2; omega⟩
  have ok70 := inv.k70.ex cx1.1
  refine x_aload_n (pc := 1109) dL_law_1109 rfl ?_
  refine x_invV (As := []) (st := [.int r1]) (pc := 1110) dL_law_1110 lRL_146 fX12_inventor vX12_inventor ok70 rfl (Nat.le_of_ble_eq_true rfl) ⟨by decide, by decide⟩ (lw_C rm1 (by decide) (by decide)) (sn_X12_inventor G 0 70  h1 _ ok70 hwp) (k_i (fun r2 h2 both cx2 => ?_))
  exact x_icmp_eq (tgt := 1206) (pc := 1113) dL_law_1113 (by decide) (fun _ => kk h2 both.2.1 both.2.2) (fun c => absurd both.1 c)

set_option maxHeartbeats 4000000 in
set_option maxRecDepth 100000 in
theorem lc_27 {G : GT} {L : Nat} {xs : Nat → Int32} {i : Nat} (hi : i + 6 ≤ L) (hL : L ≤ 3072) {h : PH} (inv : Inv h) (rm : LwR h) (kk : ∀ h2, Inv h2 → Rm h h2 → LwE G L xs 1206 i h2) : LwE G L xs 1118 i h := by
  refine x_aload_n (pc := 1118) dL_law_1118 rfl ?_
  refine x_aload_n (pc := 1119) dL_law_1119 rfl ?_
  refine x_iload (pc := 1120) dL_law_1120 rfl ?_
  refine x_iconst (v := 1) (pc := 1122) dL_law_1122 (by decide) ?_
  refine x_iadd (pc := 1123) dL_law_1123 ?_
  refine x_sld (pc := 1124) dL_law_1124 (sc_in 1 rfl (by omega) hL) ?_
  refine x_invV (As := [.int (xs (nI i + 1).toNatClampNeg)]) (st := []) (pc := 1125) dL_law_1125 lRL_147 fX11_right vX11_right inv.k0 rfl (Nat.le_of_ble_eq_true rfl) ⟨by decide, by decide⟩ (lw_C ⟨by have := rm.1; omega, by have := rm.2; omega⟩ (by decide) (by decide)) (sn_X11_right G 0 0 (xs (nI i + 1).toNatClampNeg) h _ inv.k0 (op_right inv (xs (nI i + 1).toNatClampNeg))) (k_i (fun r1 h1 hwp cx1 => ?_))
  have rm1 : qn h1 ≤ 10000 ∧ qz h1 ≤ 1000000 := ⟨by have := rm.1; have := cx1.2.1; omega, by have := rm.2; have := cx1.2.2; omega⟩
  have ok70 := inv.k70.ex cx1.1
  refine x_aload_n (pc := 1128) dL_law_1128 rfl ?_
  refine x_aload_n (pc := 1129) dL_law_1129 rfl ?_
  refine x_iload (pc := 1130) dL_law_1130 rfl ?_
  refine x_iconst (v := 1) (pc := 1132) dL_law_1132 (by decide) ?_
  refine x_iadd (pc := 1133) dL_law_1133 ?_
  refine x_sld (pc := 1134) dL_law_1134 (sc_in 1 rfl (by omega) hL) ?_
  refine x_invV (As := [.int (xs (nI i + 1).toNatClampNeg)]) (st := [.int r1]) (pc := 1135) dL_law_1135 lRL_150 fX12_right vX12_right ok70 rfl (Nat.le_of_ble_eq_true rfl) ⟨by decide, by decide⟩ (lw_C rm1 (by decide) (by decide)) (sn_X12_right G 0 70 (xs (nI i + 1).toNatClampNeg) h1 _ ok70 hwp) (k_i (fun r2 h2 both cx2 => ?_))
  exact x_icmp_eq (tgt := 1206) (pc := 1138) dL_law_1138 (by decide) (fun _ => kk h2 both.2.1 both.2.2) (fun c => absurd both.1 c)

set_option maxHeartbeats 4000000 in
set_option maxRecDepth 100000 in
theorem lc_28 {G : GT} {L : Nat} {xs : Nat → Int32} {i : Nat} (hi : i + 6 ≤ L) (hL : L ≤ 3072) {h : PH} (inv : Inv h) (rm : LwR h) (kk : ∀ h2, Inv h2 → Rm h h2 → LwE G L xs 1206 i h2) : LwE G L xs 1143 i h := by
  refine x_aload_n (pc := 1143) dL_law_1143 rfl ?_
  refine x_invV (As := []) (st := []) (pc := 1144) dL_law_1144 lRL_151 fX11_answer vX11_answer inv.k0 rfl (Nat.le_of_ble_eq_true rfl) ⟨by decide, by decide⟩ (lw_C ⟨by have := rm.1; omega, by have := rm.2; omega⟩ (by decide) (by decide)) (sn_X11_answer G 0 0  h _ inv.k0 (op_answer inv )) (k_i (fun r1 h1 hwp cx1 => ?_))
  have rm1 : qn h1 ≤ 10000 ∧ qz h1 ≤ 1000000 := ⟨by have := rm.1; have := cx1.2.1; omega, by have := rm.2; have := cx1.2.2; omega⟩
  have ok70 := inv.k70.ex cx1.1
  refine x_aload_n (pc := 1147) dL_law_1147 rfl ?_
  refine x_invV (As := []) (st := [.int r1]) (pc := 1148) dL_law_1148 lRL_154 fX12_answer vX12_answer ok70 rfl (Nat.le_of_ble_eq_true rfl) ⟨by decide, by decide⟩ (lw_C rm1 (by decide) (by decide)) (sn_X12_answer G 0 70  h1 _ ok70 hwp) (k_i (fun r2 h2 both cx2 => ?_))
  exact x_icmp_eq (tgt := 1206) (pc := 1151) dL_law_1151 (by decide) (fun _ => kk h2 both.2.1 both.2.2) (fun c => absurd both.1 c)

set_option maxHeartbeats 4000000 in
set_option maxRecDepth 100000 in
theorem lc_29 {G : GT} {L : Nat} {xs : Nat → Int32} {i : Nat} (hi : i + 6 ≤ L) (hL : L ≤ 3072) {h : PH} (inv : Inv h) (rm : LwR h) (kk : ∀ h2, Inv h2 → Rm h h2 → LwE G L xs 1206 i h2) : LwE G L xs 1156 i h := by
  refine x_aload_n (pc := 1156) dL_law_1156 rfl ?_
  refine x_aload_n (pc := 1157) dL_law_1157 rfl ?_
  refine x_iload (pc := 1158) dL_law_1158 rfl ?_
  refine x_iconst (v := 1) (pc := 1160) dL_law_1160 (by decide) ?_
  refine x_iadd (pc := 1161) dL_law_1161 ?_
  refine x_sld (pc := 1162) dL_law_1162 (sc_in 1 rfl (by omega) hL) ?_
  refine x_invV (As := [.int (xs (nI i + 1).toNatClampNeg)]) (st := []) (pc := 1163) dL_law_1163 lRL_155 fX11_answerAt vX11_answerAt inv.k0 rfl (Nat.le_of_ble_eq_true rfl) ⟨by decide, by decide⟩ (lw_C ⟨by have := rm.1; omega, by have := rm.2; omega⟩ (by decide) (by decide)) (sn_X11_answerAt G 0 0 (xs (nI i + 1).toNatClampNeg) h _ inv.k0 (op_answerAt inv (xs (nI i + 1).toNatClampNeg))) (k_i (fun r1 h1 hwp cx1 => ?_))
  have rm1 : qn h1 ≤ 10000 ∧ qz h1 ≤ 1000000 := ⟨by have := rm.1; have := cx1.2.1; omega, by have := rm.2; have := cx1.2.2; omega⟩
  have ok70 := inv.k70.ex cx1.1
  refine x_aload_n (pc := 1166) dL_law_1166 rfl ?_
  refine x_aload_n (pc := 1167) dL_law_1167 rfl ?_
  refine x_iload (pc := 1168) dL_law_1168 rfl ?_
  refine x_iconst (v := 1) (pc := 1170) dL_law_1170 (by decide) ?_
  refine x_iadd (pc := 1171) dL_law_1171 ?_
  refine x_sld (pc := 1172) dL_law_1172 (sc_in 1 rfl (by omega) hL) ?_
  refine x_invV (As := [.int (xs (nI i + 1).toNatClampNeg)]) (st := [.int r1]) (pc := 1173) dL_law_1173 lRL_158 fX12_answerAt vX12_answerAt ok70 rfl (Nat.le_of_ble_eq_true rfl) ⟨by decide, by decide⟩ (lw_C rm1 (by decide) (by decide)) (sn_X12_answerAt G 0 70 (xs (nI i + 1).toNatClampNeg) h1 _ ok70 hwp) (k_i (fun r2 h2 both cx2 => ?_))
  exact x_icmp_eq (tgt := 1206) (pc := 1176) dL_law_1176 (by decide) (fun _ => kk h2 both.2.1 both.2.2) (fun c => absurd both.1 c)

set_option maxHeartbeats 4000000 in
set_option maxRecDepth 100000 in
theorem lc_30 {G : GT} {L : Nat} {xs : Nat → Int32} {i : Nat} (hi : i + 6 ≤ L) (hL : L ≤ 3072) {h : PH} (inv : Inv h) (rm : LwR h) (kk : ∀ h2, Inv h2 → Rm h h2 → LwE G L xs 1206 i h2) : LwE G L xs 1181 i h := by
  refine x_aload_n (pc := 1181) dL_law_1181 rfl ?_
  refine x_aload_n (pc := 1182) dL_law_1182 rfl ?_
  refine x_iload (pc := 1183) dL_law_1183 rfl ?_
  refine x_iconst (v := 1) (pc := 1185) dL_law_1185 (by decide) ?_
  refine x_iadd (pc := 1186) dL_law_1186 ?_
  refine x_sld (pc := 1187) dL_law_1187 (sc_in 1 rfl (by omega) hL) ?_
  refine x_invV (As := [.int (xs (nI i + 1).toNatClampNeg)]) (st := []) (pc := 1188) dL_law_1188 lRL_159 fX11_count vX11_count inv.k0 rfl (Nat.le_of_ble_eq_true rfl) ⟨by decide, by decide⟩ (lw_C ⟨by have := rm.1; omega, by have := rm.2; omega⟩ (by decide) (by decide)) (sn_X11_count G 0 0 (xs (nI i + 1).toNatClampNeg) h _ inv.k0 (op_count inv (xs (nI i + 1).toNatClampNeg))) (k_i (fun r1 h1 hwp cx1 => ?_))
  have rm1 : qn h1 ≤ 10000 ∧ qz h1 ≤ 1000000 := ⟨by have := rm.1; have := cx1.2.1; omega, by have := rm.2; have := cx1.2.2; omega⟩
  have ok70 := inv.k70.ex cx1.1
  refine x_aload_n (pc := 1191) dL_law_1191 rfl ?_
  refine x_aload_n (pc := 1192) dL_law_1192 rfl ?_
  refine x_iload (pc := 1193) dL_law_1193 rfl ?_
  refine x_iconst (v := 1) (pc := 1195) dL_law_1195 (by decide) ?_
  refine x_iadd (pc := 1196) dL_law_1196 ?_
  refine x_sld (pc := 1197) dL_law_1197 (sc_in 1 rfl (by omega) hL) ?_
  refine x_invV (As := [.int (xs (nI i + 1).toNatClampNeg)]) (st := [.int r1]) (pc := 1198) dL_law_1198 lRL_162 fX12_count vX12_count ok70 rfl (Nat.le_of_ble_eq_true rfl) ⟨by decide, by decide⟩ (lw_C rm1 (by decide) (by decide)) (sn_X12_count G 0 70 (xs (nI i + 1).toNatClampNeg) h1 _ ok70 hwp) (k_i (fun r2 h2 both cx2 => ?_))
  exact x_icmp_eq (tgt := 1206) (pc := 1201) dL_law_1201 (by decide) (fun _ => kk h2 both.2.1 both.2.2) (fun c => absurd both.1 c)

set_option maxRecDepth 50000 in
theorem qc_0 : qcf 0 RX0 TX0 7 := ⟨rfl, fun w hw => List.mem_filter.mpr ⟨(by decide +kernel : ∀ w ∈ u_ws RX0 TX0 7, w ∈ lw_tbl) w hw, (by decide +kernel : ∀ w ∈ u_ws RX0 TX0 7, goodWord w = true) w hw⟩, ⟨tyX0, tyX0_ok⟩, nmX0, by decide⟩
set_option maxRecDepth 50000 in
theorem qc_1 : qcf 1 RX1 TX1 4 := ⟨rfl, fun w hw => List.mem_filter.mpr ⟨(by decide +kernel : ∀ w ∈ u_ws RX1 TX1 4, w ∈ lw_tbl) w hw, (by decide +kernel : ∀ w ∈ u_ws RX1 TX1 4, goodWord w = true) w hw⟩, ⟨tyX1, tyX1_ok⟩, nmX1, by decide⟩
set_option maxRecDepth 50000 in
theorem qc_2 : qcf 2 RX2 TX2 10 := ⟨rfl, fun w hw => List.mem_filter.mpr ⟨(by decide +kernel : ∀ w ∈ u_ws RX2 TX2 10, w ∈ lw_tbl) w hw, (by decide +kernel : ∀ w ∈ u_ws RX2 TX2 10, goodWord w = true) w hw⟩, ⟨tyX2, tyX2_ok⟩, nmX2, by decide⟩
set_option maxRecDepth 50000 in
theorem qc_3 : qcf 3 RX3 TX3 3 := ⟨rfl, fun w hw => List.mem_filter.mpr ⟨(by decide +kernel : ∀ w ∈ u_ws RX3 TX3 3, w ∈ lw_tbl) w hw, (by decide +kernel : ∀ w ∈ u_ws RX3 TX3 3, goodWord w = true) w hw⟩, ⟨tyX3, tyX3_ok⟩, nmX3, by decide⟩
set_option maxRecDepth 50000 in
theorem qc_4 : qcf 4 RX4 TX4 10 := ⟨rfl, fun w hw => List.mem_filter.mpr ⟨(by decide +kernel : ∀ w ∈ u_ws RX4 TX4 10, w ∈ lw_tbl) w hw, (by decide +kernel : ∀ w ∈ u_ws RX4 TX4 10, goodWord w = true) w hw⟩, ⟨tyX4, tyX4_ok⟩, nmX4, by decide⟩
set_option maxRecDepth 50000 in
theorem qc_5 : qcf 5 RX5 TX5 7 := ⟨rfl, fun w hw => List.mem_filter.mpr ⟨(by decide +kernel : ∀ w ∈ u_ws RX5 TX5 7, w ∈ lw_tbl) w hw, (by decide +kernel : ∀ w ∈ u_ws RX5 TX5 7, goodWord w = true) w hw⟩, ⟨tyX5, tyX5_ok⟩, nmX5, by decide⟩
set_option maxRecDepth 50000 in
theorem qc_6 : qcf 6 RX6 TX6 2 := ⟨rfl, fun w hw => List.mem_filter.mpr ⟨(by decide +kernel : ∀ w ∈ u_ws RX6 TX6 2, w ∈ lw_tbl) w hw, (by decide +kernel : ∀ w ∈ u_ws RX6 TX6 2, goodWord w = true) w hw⟩, ⟨tyX6, tyX6_ok⟩, nmX6, by decide⟩
set_option maxRecDepth 50000 in
theorem qc_7 : qcf 7 RX7 TX7 7 := ⟨rfl, fun w hw => List.mem_filter.mpr ⟨(by decide +kernel : ∀ w ∈ u_ws RX7 TX7 7, w ∈ lw_tbl) w hw, (by decide +kernel : ∀ w ∈ u_ws RX7 TX7 7, goodWord w = true) w hw⟩, ⟨tyX7, tyX7_ok⟩, nmX7, by decide⟩
set_option maxRecDepth 50000 in
theorem qc_8 : qcf 8 RX8 TX8 7 := ⟨rfl, fun w hw => List.mem_filter.mpr ⟨(by decide +kernel : ∀ w ∈ u_ws RX8 TX8 7, w ∈ lw_tbl) w hw, (by decide +kernel : ∀ w ∈ u_ws RX8 TX8 7, goodWord w = true) w hw⟩, ⟨tyX8, tyX8_ok⟩, nmX8, by decide⟩
set_option maxRecDepth 50000 in
theorem qc_9 : qcf 9 RX10 TX10 3 := ⟨rfl, fun w hw => List.mem_filter.mpr ⟨(by decide +kernel : ∀ w ∈ u_ws RX10 TX10 3, w ∈ lw_tbl) w hw, (by decide +kernel : ∀ w ∈ u_ws RX10 TX10 3, goodWord w = true) w hw⟩, ⟨tyX10, tyX10_ok⟩, nmX10, by decide⟩
set_option maxRecDepth 50000 in
theorem qc_10 : qcf 10 RX11 TX11 18 := ⟨rfl, fun w hw => List.mem_filter.mpr ⟨(by decide +kernel : ∀ w ∈ u_ws RX11 TX11 18, w ∈ lw_tbl) w hw, (by decide +kernel : ∀ w ∈ u_ws RX11 TX11 18, goodWord w = true) w hw⟩, ⟨tyX11, tyX11_ok⟩, nmX11, by decide⟩
set_option maxRecDepth 50000 in
theorem qc_11 : qcf 11 RX12 TX12 62 := ⟨rfl, fun w hw => List.mem_filter.mpr ⟨(by decide +kernel : ∀ w ∈ u_ws RX12 TX12 62, w ∈ lw_tbl) w hw, (by decide +kernel : ∀ w ∈ u_ws RX12 TX12 62, goodWord w = true) w hw⟩, ⟨tyX12, tyX12_ok⟩, nmX12, by decide⟩
set_option maxRecDepth 50000 in
theorem qc_12 : qcf 12 "java/util/NoSuchElementException" (fun _ => ("", "", "", false)) 0 := ⟨rfl, fun w hw => absurd hw List.not_mem_nil, ⟨fun _ => .int, fun k hk => absurd hk (Nat.not_lt_zero k)⟩, fun a ha => absurd ha (Nat.not_lt_zero a), by decide⟩
set_option maxRecDepth 50000 in
theorem wk_oi : Cond.instanceMethod objectInit ∈ qw_good := qw_g 130 rfl rfl
set_option maxRecDepth 50000 in
theorem wk_oc : Cond.code objectInit ⟨#[0xb1]⟩ 1 none ∈ qw_good := qw_g 131 rfl rfl
set_option maxRecDepth 50000 in
theorem wk_ac_byte : Cond.arrayClass .byte ∈ qw_good := qw_g 147 rfl rfl
set_option maxRecDepth 50000 in
theorem wk_ac_int : Cond.arrayClass .int ∈ qw_good := qw_g 177 rfl rfl
set_option maxRecDepth 50000 in
theorem wk_ac_long : Cond.arrayClass .long ∈ qw_good := qw_g 307 rfl rfl
set_option maxRecDepth 50000 in
theorem wk_ac_boolean : Cond.arrayClass .boolean ∈ qw_good := qw_g 417 rfl rfl
abbrev mX0_init : MI := (RX0, cX0_init, 1, none, yX0_init)
set_option maxRecDepth 50000 in
theorem fX0_init : qmf mX0_init 0 := ⟨qw_g 391 rfl rfl, qw_g 113 rfl rfl, by decide +kernel, by decide +kernel, by decide +kernel⟩
set_option maxRecDepth 50000 in
theorem iX0_init : Cond.instanceMethod yX0_init ∈ qw_good := qw_g 390 rfl rfl
set_option maxRecDepth 50000 in
theorem lRX0_5 : Cond.methodLink RX0 5 objectInit ∈ qw_good := qw_g 392 rfl rfl
set_option maxRecDepth 50000 in
theorem qRX0_11 : qfL RX0 11 0 0 (10 + 14) true := ⟨RX0, TX0, 7, tyX0 0, qc_0, by decide, rfl, by decide +kernel, rfl, rfl, rfl, Or.inl (qw_g 393 rfl rfl)⟩
set_option maxRecDepth 50000 in
theorem FRX0_11 : qfF RX0 11 0 0 (10 + 14) := ⟨TX0, 7, tyX0 0, qc_0, by decide, rfl, by decide +kernel, rfl, rfl, rfl, qw_g 393 rfl rfl⟩
set_option maxRecDepth 50000 in
theorem qRX0_15 : qfL RX0 15 0 1 (10 + 14) true := ⟨RX0, TX0, 7, tyX0 1, qc_0, by decide, rfl, by decide +kernel, rfl, rfl, rfl, Or.inl (qw_g 394 rfl rfl)⟩
set_option maxRecDepth 50000 in
theorem FRX0_15 : qfF RX0 15 0 1 (10 + 14) := ⟨TX0, 7, tyX0 1, qc_0, by decide, rfl, by decide +kernel, rfl, rfl, rfl, qw_g 394 rfl rfl⟩
set_option maxRecDepth 50000 in
theorem qRX0_18 : qfL RX0 18 0 2 (10 + 14) true := ⟨RX0, TX0, 7, tyX0 2, qc_0, by decide, rfl, by decide +kernel, rfl, rfl, rfl, Or.inl (qw_g 395 rfl rfl)⟩
set_option maxRecDepth 50000 in
theorem FRX0_18 : qfF RX0 18 0 2 (10 + 14) := ⟨TX0, 7, tyX0 2, qc_0, by decide, rfl, by decide +kernel, rfl, rfl, rfl, qw_g 395 rfl rfl⟩
set_option maxRecDepth 50000 in
theorem qRX0_21 : qfL RX0 21 0 3 (10 + 16) true := ⟨RX0, TX0, 7, tyX0 3, qc_0, by decide, rfl, by decide +kernel, rfl, rfl, rfl, Or.inl (qw_g 396 rfl rfl)⟩
set_option maxRecDepth 50000 in
theorem FRX0_21 : qfF RX0 21 0 3 (10 + 16) := ⟨TX0, 7, tyX0 3, qc_0, by decide, rfl, by decide +kernel, rfl, rfl, rfl, qw_g 396 rfl rfl⟩
set_option maxRecDepth 50000 in
theorem qRX0_25 : qfL RX0 25 0 4 0 false := ⟨RX0, TX0, 7, tyX0 4, qc_0, by decide, rfl, by decide +kernel, rfl, rfl, rfl, Or.inl (qw_g 397 rfl rfl)⟩
set_option maxRecDepth 50000 in
theorem qRX0_29 : qfL RX0 29 0 5 0 false := ⟨RX0, TX0, 7, tyX0 5, qc_0, by decide, rfl, by decide +kernel, rfl, rfl, rfl, Or.inl (qw_g 399 rfl rfl)⟩
set_option maxRecDepth 50000 in
theorem qRX0_32 : qfL RX0 32 0 6 0 false := ⟨RX0, TX0, 7, tyX0 6, qc_0, by decide, rfl, by decide +kernel, rfl, rfl, rfl, Or.inl (qw_g 400 rfl rfl)⟩
abbrev mX0_readFrom : MI := (RX0, cX0_readFrom, 2, (some .boolean), yX0_readFrom)
set_option maxRecDepth 50000 in
theorem fX0_readFrom : qmf mX0_readFrom 1 := ⟨qw_g 819 rfl rfl, qw_g 113 rfl rfl, by decide +kernel, by decide +kernel, by decide +kernel⟩
set_option maxRecDepth 50000 in
theorem iX0_readFrom : Cond.instanceMethod yX0_readFrom ∈ qw_good := qw_g 817 rfl rfl
set_option maxRecDepth 50000 in
theorem vX0_readFrom : qmv mX0_readFrom 0 := ⟨TX0, 7, rfl, by decide, iX0_readFrom, qw_g 818 rfl rfl⟩
set_option maxRecDepth 50000 in
theorem lRX0_35 : Cond.methodLink RX0 35 yX7_knownWord ∈ qw_good := qw_g 820 rfl rfl
set_option maxRecDepth 50000 in
theorem lRX0_41 : Cond.methodLink RX0 41 yX0_kindOf ∈ qw_good := qw_g 821 rfl rfl
set_option maxRecDepth 50000 in
theorem lRX0_45 : Cond.methodLink RX0 45 yX7_fail ∈ qw_good := qw_g 830 rfl rfl
set_option maxRecDepth 50000 in
theorem lRX0_49 : Cond.methodLink RX0 49 yX7_pass ∈ qw_good := qw_g 831 rfl rfl
set_option maxRecDepth 50000 in
theorem lRX0_52 : Cond.methodLink RX0 52 yX0_readCondition ∈ qw_good := qw_g 832 rfl rfl
set_option maxRecDepth 50000 in
theorem lRX0_56 : Cond.methodLink RX0 56 yX7_takeEnd ∈ qw_good := qw_g 869 rfl rfl
abbrev mX0_kindOf : MI := (RX0, cX0_kindOf, 1, (some .int), yX0_kindOf)
set_option maxRecDepth 50000 in
theorem fX0_kindOf : qmf mX0_kindOf 1 := ⟨qw_g 823 rfl rfl, qw_g 113 rfl rfl, by decide +kernel, by decide +kernel, by decide +kernel⟩
set_option maxRecDepth 50000 in
theorem sX0_kindOf : Cond.static yX0_kindOf ∈ qw_good := qw_g 822 rfl rfl
set_option maxRecDepth 50000 in
theorem gRX0_60 : Cond.fieldLink RX0 60 "ForeverOffice$Word" (qwn.getD 13 "") "LForeverOffice$Word;" ∈ qw_good := qw_g 824 rfl rfl
set_option maxRecDepth 50000 in
theorem gRX0_66 : Cond.fieldLink RX0 66 "ForeverOffice$Word" (qwn.getD 14 "") "LForeverOffice$Word;" ∈ qw_good := qw_g 826 rfl rfl
set_option maxRecDepth 50000 in
theorem gRX0_69 : Cond.fieldLink RX0 69 "ForeverOffice$Word" (qwn.getD 15 "") "LForeverOffice$Word;" ∈ qw_good := qw_g 828 rfl rfl
abbrev mX0_readCondition : MI := (RX0, cX0_readCondition, 4, (some .boolean), yX0_readCondition)
set_option maxRecDepth 50000 in
theorem fX0_readCondition : qmf mX0_readCondition 2 := ⟨qw_g 835 rfl rfl, qw_g 113 rfl rfl, by decide +kernel, by decide +kernel, by decide +kernel⟩
set_option maxRecDepth 50000 in
theorem iX0_readCondition : Cond.instanceMethod yX0_readCondition ∈ qw_good := qw_g 834 rfl rfl
set_option maxRecDepth 50000 in
theorem vX0_readCondition : qmv mX0_readCondition 0 := ⟨TX0, 7, rfl, by decide, iX0_readCondition, qw_g 19 rfl rfl⟩
set_option maxRecDepth 50000 in
theorem lRX0_72 : Cond.methodLink RX0 72 yX0_readAll ∈ qw_good := qw_g 836 rfl rfl
set_option maxRecDepth 50000 in
theorem gRX0_75 : Cond.fieldLink RX0 75 "ForeverOffice$Word" (qwn.getD 16 "") "LForeverOffice$Word;" ∈ qw_good := qw_g 867 rfl rfl
set_option maxRecDepth 50000 in
theorem lRX0_78 : Cond.methodLink RX0 78 yX7_isWord ∈ qw_good := qw_g 846 rfl rfl
set_option maxRecDepth 50000 in
theorem lRX0_82 : Cond.methodLink RX0 82 yX0_add ∈ qw_good := qw_g 853 rfl rfl
abbrev mX0_readAll : MI := (RX0, cX0_readAll, 4, (some .boolean), yX0_readAll)
set_option maxRecDepth 50000 in
theorem fX0_readAll : qmf mX0_readAll 2 := ⟨qw_g 839 rfl rfl, qw_g 113 rfl rfl, by decide +kernel, by decide +kernel, by decide +kernel⟩
set_option maxRecDepth 50000 in
theorem iX0_readAll : Cond.instanceMethod yX0_readAll ∈ qw_good := qw_g 838 rfl rfl
set_option maxRecDepth 50000 in
theorem vX0_readAll : qmv mX0_readAll 0 := ⟨TX0, 7, rfl, by decide, iX0_readAll, qw_g 20 rfl rfl⟩
set_option maxRecDepth 50000 in
theorem lRX0_86 : Cond.methodLink RX0 86 yX0_readOne ∈ qw_good := qw_g 840 rfl rfl
set_option maxRecDepth 50000 in
theorem gRX0_89 : Cond.fieldLink RX0 89 "ForeverOffice$Word" (qwn.getD 17 "") "LForeverOffice$Word;" ∈ qw_good := qw_g 865 rfl rfl
abbrev mX0_readOne : MI := (RX0, cX0_readOne, 6, (some .boolean), yX0_readOne)
set_option maxRecDepth 50000 in
theorem fX0_readOne : qmf mX0_readOne 2 := ⟨qw_g 843 rfl rfl, qw_g 113 rfl rfl, by decide +kernel, by decide +kernel, by decide +kernel⟩
set_option maxRecDepth 50000 in
theorem iX0_readOne : Cond.instanceMethod yX0_readOne ∈ qw_good := qw_g 842 rfl rfl
set_option maxRecDepth 50000 in
theorem vX0_readOne : qmv mX0_readOne 0 := ⟨TX0, 7, rfl, by decide, iX0_readOne, qw_g 21 rfl rfl⟩
set_option maxRecDepth 50000 in
theorem gRX0_92 : Cond.fieldLink RX0 92 "ForeverOffice$Word" (qwn.getD 18 "") "LForeverOffice$Word;" ∈ qw_good := qw_g 844 rfl rfl
set_option maxRecDepth 50000 in
theorem lRX0_95 : Cond.methodLink RX0 95 yX7_isSign ∈ qw_good := qw_g 847 rfl rfl
set_option maxRecDepth 50000 in
theorem lRX0_98 : Cond.methodLink RX0 98 yX0_isValue ∈ qw_good := qw_g 848 rfl rfl
set_option maxRecDepth 50000 in
theorem lRX0_102 : Cond.methodLink RX0 102 yX7_takeSign ∈ qw_good := qw_g 852 rfl rfl
set_option maxRecDepth 50000 in
theorem lRX0_105 : Cond.methodLink RX0 105 yX0_readComparison ∈ qw_good := qw_g 857 rfl rfl
abbrev mX0_readComparison : MI := (RX0, cX0_readComparison, 4, (some .boolean), yX0_readComparison)
set_option maxRecDepth 50000 in
theorem fX0_readComparison : qmf mX0_readComparison 1 := ⟨qw_g 860 rfl rfl, qw_g 113 rfl rfl, by decide +kernel, by decide +kernel, by decide +kernel⟩
set_option maxRecDepth 50000 in
theorem iX0_readComparison : Cond.instanceMethod yX0_readComparison ∈ qw_good := qw_g 859 rfl rfl
set_option maxRecDepth 50000 in
theorem vX0_readComparison : qmv mX0_readComparison 0 := ⟨TX0, 7, rfl, by decide, iX0_readComparison, qw_g 23 rfl rfl⟩
set_option maxRecDepth 50000 in
theorem lRX0_108 : Cond.methodLink RX0 108 yX0_takeOperand ∈ qw_good := qw_g 861 rfl rfl
set_option maxRecDepth 50000 in
theorem lRX0_112 : Cond.methodLink RX0 112 yX7_content ∈ qw_good := qw_g 864 rfl rfl
abbrev mX0_isValue : MI := (RX0, cX0_isValue, 2, (some .boolean), yX0_isValue)
set_option maxRecDepth 50000 in
theorem fX0_isValue : qmf mX0_isValue 1 := ⟨qw_g 850 rfl rfl, qw_g 113 rfl rfl, by decide +kernel, by decide +kernel, by decide +kernel⟩
set_option maxRecDepth 50000 in
theorem sX0_isValue : Cond.static yX0_isValue ∈ qw_good := qw_g 849 rfl rfl
set_option maxRecDepth 50000 in
theorem lRX0_116 : Cond.methodLink RX0 116 yX7_isNumber ∈ qw_good := qw_g 851 rfl rfl
set_option maxRecDepth 50000 in
theorem wRX0_119 : Cond.fieldLink RX0 119 "ForeverOffice$Word" "valueIndex" "I" ∈ qw_good ∨ ∃ host, Cond.fieldLinkNest RX0 119 "ForeverOffice$Word" "valueIndex" "I" host ∈ qw_nest := Or.inr ⟨"ForeverOffice", qw_n 1860 rfl rfl⟩
abbrev mX0_takeOperand : MI := (RX0, cX0_takeOperand, 3, (some .int), yX0_takeOperand)
set_option maxRecDepth 50000 in
theorem fX0_takeOperand : qmf mX0_takeOperand 1 := ⟨qw_g 863 rfl rfl, qw_g 113 rfl rfl, by decide +kernel, by decide +kernel, by decide +kernel⟩
set_option maxRecDepth 50000 in
theorem sX0_takeOperand : Cond.static yX0_takeOperand ∈ qw_good := qw_g 862 rfl rfl
abbrev mX0_add : MI := (RX0, cX0_add, 4, none, yX0_add)
set_option maxRecDepth 50000 in
theorem fX0_add : qmf mX0_add 3 := ⟨qw_g 856 rfl rfl, qw_g 113 rfl rfl, by decide +kernel, by decide +kernel, by decide +kernel⟩
set_option maxRecDepth 50000 in
theorem iX0_add : Cond.instanceMethod yX0_add ∈ qw_good := qw_g 855 rfl rfl
set_option maxRecDepth 50000 in
theorem vX0_add : qmv mX0_add 0 := ⟨TX0, 7, rfl, by decide, iX0_add, qw_g 22 rfl rfl⟩
abbrev mX0_isSoAt : MI := (RX0, cX0_isSoAt, 6, (some .boolean), yX0_isSoAt)
set_option maxRecDepth 50000 in
theorem fX0_isSoAt : qmf mX0_isSoAt 2 := ⟨qw_g 881 rfl rfl, qw_g 113 rfl rfl, by decide +kernel, by decide +kernel, by decide +kernel⟩
set_option maxRecDepth 50000 in
theorem iX0_isSoAt : Cond.instanceMethod yX0_isSoAt ∈ qw_good := qw_g 879 rfl rfl
set_option maxRecDepth 50000 in
theorem vX0_isSoAt : qmv mX0_isSoAt 0 := ⟨TX0, 7, rfl, by decide, iX0_isSoAt, qw_g 880 rfl rfl⟩
set_option maxRecDepth 50000 in
theorem lRX0_122 : Cond.methodLink RX0 122 yX0_operandAt ∈ qw_good := qw_g 882 rfl rfl
set_option maxRecDepth 50000 in
theorem lRX0_126 : Cond.methodLink RX0 126 yX0_compare ∈ qw_good := qw_g 889 rfl rfl
abbrev mX0_operandAt : MI := (RX0, cX0_operandAt, 3, (some .int), yX0_operandAt)
set_option maxRecDepth 50000 in
theorem fX0_operandAt : qmf mX0_operandAt 3 := ⟨qw_g 884 rfl rfl, qw_g 113 rfl rfl, by decide +kernel, by decide +kernel, by decide +kernel⟩
set_option maxRecDepth 50000 in
theorem sX0_operandAt : Cond.static yX0_operandAt ∈ qw_good := qw_g 883 rfl rfl
set_option maxRecDepth 50000 in
theorem lRX0_130 : Cond.methodLink RX0 130 yX8_valueAt ∈ qw_good := qw_g 885 rfl rfl
abbrev mX0_compare : MI := (RX0, cX0_compare, 3, (some .boolean), yX0_compare)
set_option maxRecDepth 50000 in
theorem fX0_compare : qmf mX0_compare 3 := ⟨qw_g 891 rfl rfl, qw_g 113 rfl rfl, by decide +kernel, by decide +kernel, by decide +kernel⟩
set_option maxRecDepth 50000 in
theorem sX0_compare : Cond.static yX0_compare ∈ qw_good := qw_g 890 rfl rfl
abbrev mX1_init : MI := (RX1, cX1_init, 2, none, yX1_init)
set_option maxRecDepth 50000 in
theorem fX1_init : qmf mX1_init 0 := ⟨qw_g 313 rfl rfl, qw_g 111 rfl rfl, by decide +kernel, by decide +kernel, by decide +kernel⟩
set_option maxRecDepth 50000 in
theorem iX1_init : Cond.instanceMethod yX1_init ∈ qw_good := qw_g 312 rfl rfl
set_option maxRecDepth 50000 in
theorem lRX1_3 : Cond.methodLink RX1 3 objectInit ∈ qw_good := qw_g 314 rfl rfl
set_option maxRecDepth 50000 in
theorem cRX1_9 : Cond.classLink RX1 9 "ForeverOffice$Part" ∈ qw_good := qw_g 315 rfl rfl
set_option maxRecDepth 50000 in
theorem qRX1_11 : qfL RX1 11 1 0 (10 + 18) true := ⟨RX1, TX1, 4, tyX1 0, qc_1, by decide, rfl, by decide +kernel, rfl, rfl, rfl, Or.inl (qw_g 366 rfl rfl)⟩
set_option maxRecDepth 50000 in
theorem FRX1_11 : qfF RX1 11 1 0 (10 + 18) := ⟨TX1, 4, tyX1 0, qc_1, by decide, rfl, by decide +kernel, rfl, rfl, rfl, qw_g 366 rfl rfl⟩
set_option maxRecDepth 50000 in
theorem qRX1_17 : qfL RX1 17 1 1 0 false := ⟨RX1, TX1, 4, tyX1 1, qc_1, by decide, rfl, by decide +kernel, rfl, rfl, rfl, Or.inl (qw_g 369 rfl rfl)⟩
set_option maxRecDepth 50000 in
theorem qRX1_21 : qfL RX1 21 1 2 0 false := ⟨RX1, TX1, 4, tyX1 2, qc_1, by decide, rfl, by decide +kernel, rfl, rfl, rfl, Or.inl (qw_g 372 rfl rfl)⟩
set_option maxRecDepth 50000 in
theorem qRX1_24 : qfL RX1 24 1 3 0 false := ⟨RX1, TX1, 4, tyX1 3, qc_1, by decide, rfl, by decide +kernel, rfl, rfl, rfl, Or.inl (qw_g 375 rfl rfl)⟩
set_option maxRecDepth 50000 in
theorem wk_in_ForeverOffice_Part : Cond.instantiable "ForeverOffice$Part" 10 ∈ qw_good := qw_g 317 rfl rfl
set_option maxRecDepth 50000 in
theorem wk_it_ForeverOffice_Part : Cond.initialized "ForeverOffice$Part" ∈ qw_good := qw_g 112 rfl rfl
set_option maxRecDepth 50000 in
theorem lRX1_27 : Cond.methodLink RX1 27 yX4_init ∈ qw_good ∨ ∃ host, Cond.methodLinkNest RX1 27 yX4_init host ∈ qw_nest := Or.inr ⟨"ForeverOffice", qw_n 318 rfl rfl⟩
abbrev mX1_readFrom : MI := (RX1, cX1_readFrom, 6, (some .boolean), yX1_readFrom)
set_option maxRecDepth 50000 in
theorem fX1_readFrom : qmf mX1_readFrom 1 := ⟨qw_g 548 rfl rfl, qw_g 111 rfl rfl, by decide +kernel, by decide +kernel, by decide +kernel⟩
set_option maxRecDepth 50000 in
theorem iX1_readFrom : Cond.instanceMethod yX1_readFrom ∈ qw_good := qw_g 546 rfl rfl
set_option maxRecDepth 50000 in
theorem vX1_readFrom : qmv mX1_readFrom 1 := ⟨TX1, 4, rfl, by decide, iX1_readFrom, qw_g 547 rfl rfl⟩
set_option maxRecDepth 50000 in
theorem gRX1_28 : Cond.fieldLink RX1 28 "ForeverOffice$Word" (qwn.getD 0 "") "LForeverOffice$Word;" ∈ qw_good := qw_g 549 rfl rfl
set_option maxRecDepth 50000 in
theorem lRX1_34 : Cond.methodLink RX1 34 yX7_isWord ∈ qw_good := qw_g 551 rfl rfl
set_option maxRecDepth 50000 in
theorem lRX1_40 : Cond.methodLink RX1 40 yX1_readTurn ∈ qw_good := qw_g 555 rfl rfl
set_option maxRecDepth 50000 in
theorem lRX1_44 : Cond.methodLink RX1 44 yX7_isEnd ∈ qw_good := qw_g 590 rfl rfl
set_option maxRecDepth 50000 in
theorem gRX1_48 : Cond.fieldLink RX1 48 "ForeverOffice$Word" (qwn.getD 1 "") "LForeverOffice$Word;" ∈ qw_good := qw_g 594 rfl rfl
set_option maxRecDepth 50000 in
theorem lRX1_51 : Cond.methodLink RX1 51 yX7_fail ∈ qw_good := qw_g 571 rfl rfl
set_option maxRecDepth 50000 in
theorem lRX1_55 : Cond.methodLink RX1 55 yX1_readRub ∈ qw_good := qw_g 596 rfl rfl
set_option maxRecDepth 50000 in
theorem lRX1_58 : Cond.methodLink RX1 58 yX1_readPart ∈ qw_good := qw_g 600 rfl rfl
set_option maxRecDepth 50000 in
theorem lRX1_61 : Cond.methodLink RX1 61 yX7_takeSign ∈ qw_good := qw_g 582 rfl rfl
set_option maxRecDepth 50000 in
theorem lRX1_64 : Cond.methodLink RX1 64 yX7_takeEnd ∈ qw_good := qw_g 672 rfl rfl
abbrev mX1_readTurn : MI := (RX1, cX1_readTurn, 3, (some .boolean), yX1_readTurn)
set_option maxRecDepth 50000 in
theorem fX1_readTurn : qmf mX1_readTurn 1 := ⟨qw_g 558 rfl rfl, qw_g 111 rfl rfl, by decide +kernel, by decide +kernel, by decide +kernel⟩
set_option maxRecDepth 50000 in
theorem iX1_readTurn : Cond.instanceMethod yX1_readTurn ∈ qw_good := qw_g 557 rfl rfl
set_option maxRecDepth 50000 in
theorem vX1_readTurn : qmv mX1_readTurn 1 := ⟨TX1, 4, rfl, by decide, iX1_readTurn, qw_g 3 rfl rfl⟩
set_option maxRecDepth 50000 in
theorem lRX1_67 : Cond.methodLink RX1 67 yX7_pass ∈ qw_good := qw_g 559 rfl rfl
set_option maxRecDepth 50000 in
theorem lRX1_70 : Cond.methodLink RX1 70 yX7_isNumber ∈ qw_good := qw_g 563 rfl rfl
set_option maxRecDepth 50000 in
theorem lRX1_73 : Cond.methodLink RX1 73 yX7_content ∈ qw_good := qw_g 567 rfl rfl
set_option maxRecDepth 50000 in
theorem lRX1_77 : Cond.methodLink RX1 77 yX7_takeNumber ∈ qw_good := qw_g 575 rfl rfl
abbrev mX1_readRub : MI := (RX1, cX1_readRub, 3, (some .boolean), yX1_readRub)
set_option maxRecDepth 50000 in
theorem fX1_readRub : qmf mX1_readRub 1 := ⟨qw_g 599 rfl rfl, qw_g 111 rfl rfl, by decide +kernel, by decide +kernel, by decide +kernel⟩
set_option maxRecDepth 50000 in
theorem iX1_readRub : Cond.instanceMethod yX1_readRub ∈ qw_good := qw_g 598 rfl rfl
set_option maxRecDepth 50000 in
theorem vX1_readRub : qmv mX1_readRub 1 := ⟨TX1, 4, rfl, by decide, iX1_readRub, qw_g 4 rfl rfl⟩
abbrev mX1_readPart : MI := (RX1, cX1_readPart, 4, (some .boolean), yX1_readPart)
set_option maxRecDepth 50000 in
theorem fX1_readPart : qmf mX1_readPart 1 := ⟨qw_g 603 rfl rfl, qw_g 111 rfl rfl, by decide +kernel, by decide +kernel, by decide +kernel⟩
set_option maxRecDepth 50000 in
theorem iX1_readPart : Cond.instanceMethod yX1_readPart ∈ qw_good := qw_g 602 rfl rfl
set_option maxRecDepth 50000 in
theorem vX1_readPart : qmv mX1_readPart 1 := ⟨TX1, 4, rfl, by decide, iX1_readPart, qw_g 5 rfl rfl⟩
set_option maxRecDepth 50000 in
theorem lRX1_81 : Cond.methodLink RX1 81 yX7_knownWord ∈ qw_good := qw_g 604 rfl rfl
set_option maxRecDepth 50000 in
theorem lRX1_85 : Cond.methodLink RX1 85 yX4_kindOf ∈ qw_good := qw_g 610 rfl rfl
set_option maxRecDepth 50000 in
theorem lRX1_89 : Cond.methodLink RX1 89 yX4_begin ∈ qw_good := qw_g 623 rfl rfl
set_option maxRecDepth 50000 in
theorem lRX1_93 : Cond.methodLink RX1 93 yX1_readName ∈ qw_good := qw_g 627 rfl rfl
set_option maxRecDepth 50000 in
theorem lRX1_97 : Cond.methodLink RX1 97 yX1_readPinAndWeight ∈ qw_good := qw_g 635 rfl rfl
set_option maxRecDepth 50000 in
theorem lRX1_100 : Cond.methodLink RX1 100 yX1_readRest ∈ qw_good := qw_g 639 rfl rfl
abbrev mX1_readName : MI := (RX1, cX1_readName, 5, (some .boolean), yX1_readName)
set_option maxRecDepth 50000 in
theorem fX1_readName : qmf mX1_readName 2 := ⟨qw_g 630 rfl rfl, qw_g 111 rfl rfl, by decide +kernel, by decide +kernel, by decide +kernel⟩
set_option maxRecDepth 50000 in
theorem iX1_readName : Cond.instanceMethod yX1_readName ∈ qw_good := qw_g 629 rfl rfl
set_option maxRecDepth 50000 in
theorem vX1_readName : qmv mX1_readName 1 := ⟨TX1, 4, rfl, by decide, iX1_readName, qw_g 6 rfl rfl⟩
set_option maxRecDepth 50000 in
theorem lRX1_103 : Cond.methodLink RX1 103 yX7_isAnyWord ∈ qw_good := qw_g 631 rfl rfl
set_option maxRecDepth 50000 in
theorem wRX1_106 : Cond.fieldLink RX1 106 "ForeverOffice$Word" "reserved" "Z" ∈ qw_good ∨ ∃ host, Cond.fieldLinkNest RX1 106 "ForeverOffice$Word" "reserved" "Z" host ∈ qw_nest := Or.inr ⟨"ForeverOffice", qw_n 1859 rfl rfl⟩
set_option maxRecDepth 50000 in
theorem qRX1_110 : qfL RX1 110 4 1 0 false := ⟨RX4, TX4, 10, tyX4 1, qc_4, by decide, rfl, by decide +kernel, rfl, rfl, rfl, Or.inr ⟨"ForeverOffice", qw_n 327 rfl rfl⟩⟩
abbrev mX1_readPinAndWeight : MI := (RX1, cX1_readPinAndWeight, 3, (some .boolean), yX1_readPinAndWeight)
set_option maxRecDepth 50000 in
theorem fX1_readPinAndWeight : qmf mX1_readPinAndWeight 2 := ⟨qw_g 638 rfl rfl, qw_g 111 rfl rfl, by decide +kernel, by decide +kernel, by decide +kernel⟩
set_option maxRecDepth 50000 in
theorem iX1_readPinAndWeight : Cond.instanceMethod yX1_readPinAndWeight ∈ qw_good := qw_g 637 rfl rfl
set_option maxRecDepth 50000 in
theorem vX1_readPinAndWeight : qmv mX1_readPinAndWeight 1 := ⟨TX1, 4, rfl, by decide, iX1_readPinAndWeight, qw_g 7 rfl rfl⟩
set_option maxRecDepth 50000 in
theorem qRX1_113 : qfL RX1 113 4 2 0 false := ⟨RX4, TX4, 10, tyX4 2, qc_4, by decide, rfl, by decide +kernel, rfl, rfl, rfl, Or.inr ⟨"ForeverOffice", qw_n 329 rfl rfl⟩⟩
set_option maxRecDepth 50000 in
theorem qRX1_116 : qfL RX1 116 4 3 0 false := ⟨RX4, TX4, 10, tyX4 3, qc_4, by decide, rfl, by decide +kernel, rfl, rfl, rfl, Or.inr ⟨"ForeverOffice", qw_n 332 rfl rfl⟩⟩
abbrev mX1_readRest : MI := (RX1, cX1_readRest, 3, (some .boolean), yX1_readRest)
set_option maxRecDepth 50000 in
theorem fX1_readRest : qmf mX1_readRest 2 := ⟨qw_g 642 rfl rfl, qw_g 111 rfl rfl, by decide +kernel, by decide +kernel, by decide +kernel⟩
set_option maxRecDepth 50000 in
theorem iX1_readRest : Cond.instanceMethod yX1_readRest ∈ qw_good := qw_g 641 rfl rfl
set_option maxRecDepth 50000 in
theorem vX1_readRest : qmv mX1_readRest 1 := ⟨TX1, 4, rfl, by decide, iX1_readRest, qw_g 8 rfl rfl⟩
set_option maxRecDepth 50000 in
theorem qRX1_119 : qfL RX1 119 4 0 0 false := ⟨RX4, TX4, 10, tyX4 0, qc_4, by decide, rfl, by decide +kernel, rfl, rfl, rfl, Or.inr ⟨"ForeverOffice", qw_n 324 rfl rfl⟩⟩
set_option maxRecDepth 50000 in
theorem lRX1_122 : Cond.methodLink RX1 122 yX1_readArms ∈ qw_good := qw_g 643 rfl rfl
set_option maxRecDepth 50000 in
theorem lRX1_125 : Cond.methodLink RX1 125 yX1_readDoor ∈ qw_good := qw_g 664 rfl rfl
set_option maxRecDepth 50000 in
theorem gRX1_128 : Cond.fieldLink RX1 128 "ForeverOffice$Word" (qwn.getD 9 "") "LForeverOffice$Word;" ∈ qw_good := qw_g 656 rfl rfl
set_option maxRecDepth 50000 in
theorem lRX1_131 : Cond.methodLink RX1 131 yX1_readRange ∈ qw_good := qw_g 658 rfl rfl
abbrev mX1_readArms : MI := (RX1, cX1_readArms, 3, (some .boolean), yX1_readArms)
set_option maxRecDepth 50000 in
theorem fX1_readArms : qmf mX1_readArms 2 := ⟨qw_g 646 rfl rfl, qw_g 111 rfl rfl, by decide +kernel, by decide +kernel, by decide +kernel⟩
set_option maxRecDepth 50000 in
theorem iX1_readArms : Cond.instanceMethod yX1_readArms ∈ qw_good := qw_g 645 rfl rfl
set_option maxRecDepth 50000 in
theorem vX1_readArms : qmv mX1_readArms 1 := ⟨TX1, 4, rfl, by decide, iX1_readArms, qw_g 9 rfl rfl⟩
set_option maxRecDepth 50000 in
theorem gRX1_135 : Cond.fieldLink RX1 135 "ForeverOffice$Word" (qwn.getD 7 "") "LForeverOffice$Word;" ∈ qw_good := qw_g 647 rfl rfl
set_option maxRecDepth 50000 in
theorem lRX1_138 : Cond.methodLink RX1 138 yX7_takeWord ∈ qw_good := qw_g 649 rfl rfl
set_option maxRecDepth 50000 in
theorem qRX1_141 : qfL RX1 141 4 4 0 false := ⟨RX4, TX4, 10, tyX4 4, qc_4, by decide, rfl, by decide +kernel, rfl, rfl, rfl, Or.inr ⟨"ForeverOffice", qw_n 334 rfl rfl⟩⟩
set_option maxRecDepth 50000 in
theorem gRX1_144 : Cond.fieldLink RX1 144 "ForeverOffice$Word" (qwn.getD 8 "") "LForeverOffice$Word;" ∈ qw_good := qw_g 654 rfl rfl
set_option maxRecDepth 50000 in
theorem qRX1_147 : qfL RX1 147 4 5 0 false := ⟨RX4, TX4, 10, tyX4 5, qc_4, by decide, rfl, by decide +kernel, rfl, rfl, rfl, Or.inr ⟨"ForeverOffice", qw_n 336 rfl rfl⟩⟩
abbrev mX1_readDoor : MI := (RX1, cX1_readDoor, 3, (some .boolean), yX1_readDoor)
set_option maxRecDepth 50000 in
theorem fX1_readDoor : qmf mX1_readDoor 2 := ⟨qw_g 667 rfl rfl, qw_g 111 rfl rfl, by decide +kernel, by decide +kernel, by decide +kernel⟩
set_option maxRecDepth 50000 in
theorem iX1_readDoor : Cond.instanceMethod yX1_readDoor ∈ qw_good := qw_g 666 rfl rfl
set_option maxRecDepth 50000 in
theorem vX1_readDoor : qmv mX1_readDoor 1 := ⟨TX1, 4, rfl, by decide, iX1_readDoor, qw_g 11 rfl rfl⟩
set_option maxRecDepth 50000 in
theorem gRX1_150 : Cond.fieldLink RX1 150 "ForeverOffice$Word" (qwn.getD 11 "") "LForeverOffice$Word;" ∈ qw_good := qw_g 668 rfl rfl
set_option maxRecDepth 50000 in
theorem qRX1_153 : qfL RX1 153 4 6 0 false := ⟨RX4, TX4, 10, tyX4 6, qc_4, by decide, rfl, by decide +kernel, rfl, rfl, rfl, Or.inr ⟨"ForeverOffice", qw_n 338 rfl rfl⟩⟩
set_option maxRecDepth 50000 in
theorem gRX1_156 : Cond.fieldLink RX1 156 "ForeverOffice$Word" (qwn.getD 12 "") "LForeverOffice$Word;" ∈ qw_good := qw_g 670 rfl rfl
abbrev mX1_readRange : MI := (RX1, cX1_readRange, 4, (some .boolean), yX1_readRange)
set_option maxRecDepth 50000 in
theorem fX1_readRange : qmf mX1_readRange 3 := ⟨qw_g 661 rfl rfl, qw_g 111 rfl rfl, by decide +kernel, by decide +kernel, by decide +kernel⟩
set_option maxRecDepth 50000 in
theorem iX1_readRange : Cond.instanceMethod yX1_readRange ∈ qw_good := qw_g 660 rfl rfl
set_option maxRecDepth 50000 in
theorem vX1_readRange : qmv mX1_readRange 1 := ⟨TX1, 4, rfl, by decide, iX1_readRange, qw_g 10 rfl rfl⟩
set_option maxRecDepth 50000 in
theorem qRX1_159 : qfL RX1 159 4 8 0 false := ⟨RX4, TX4, 10, tyX4 8, qc_4, by decide, rfl, by decide +kernel, rfl, rfl, rfl, Or.inr ⟨"ForeverOffice", qw_n 342 rfl rfl⟩⟩
set_option maxRecDepth 50000 in
theorem gRX1_162 : Cond.fieldLink RX1 162 "ForeverOffice$Word" (qwn.getD 10 "") "LForeverOffice$Word;" ∈ qw_good := qw_g 662 rfl rfl
set_option maxRecDepth 50000 in
theorem qRX1_165 : qfL RX1 165 4 9 0 false := ⟨RX4, TX4, 10, tyX4 9, qc_4, by decide, rfl, by decide +kernel, rfl, rfl, rfl, Or.inr ⟨"ForeverOffice", qw_n 344 rfl rfl⟩⟩
set_option maxRecDepth 50000 in
theorem qRX1_168 : qfL RX1 168 4 7 1 false := ⟨RX4, TX4, 10, tyX4 7, qc_4, by decide, rfl, by decide +kernel, rfl, rfl, rfl, Or.inr ⟨"ForeverOffice", qw_n 340 rfl rfl⟩⟩
abbrev mX1_copyFrom : MI := (RX1, cX1_copyFrom, 3, none, yX1_copyFrom)
set_option maxRecDepth 50000 in
theorem fX1_copyFrom : qmf mX1_copyFrom 1 := ⟨qw_g 997 rfl rfl, qw_g 111 rfl rfl, by decide +kernel, by decide +kernel, by decide +kernel⟩
set_option maxRecDepth 50000 in
theorem iX1_copyFrom : Cond.instanceMethod yX1_copyFrom ∈ qw_good := qw_g 995 rfl rfl
set_option maxRecDepth 50000 in
theorem vX1_copyFrom : qmv mX1_copyFrom 1 := ⟨TX1, 4, rfl, by decide, iX1_copyFrom, qw_g 996 rfl rfl⟩
set_option maxRecDepth 50000 in
theorem lRX1_171 : Cond.methodLink RX1 171 yX4_copyFrom ∈ qw_good := qw_g 998 rfl rfl
abbrev mX1_turnTo : MI := (RX1, cX1_turnTo, 3, (some .int), yX1_turnTo)
set_option maxRecDepth 50000 in
theorem fX1_turnTo : qmf mX1_turnTo 1 := ⟨qw_g 1009 rfl rfl, qw_g 111 rfl rfl, by decide +kernel, by decide +kernel, by decide +kernel⟩
set_option maxRecDepth 50000 in
theorem iX1_turnTo : Cond.instanceMethod yX1_turnTo ∈ qw_good := qw_g 1007 rfl rfl
set_option maxRecDepth 50000 in
theorem vX1_turnTo : qmv mX1_turnTo 1 := ⟨TX1, 4, rfl, by decide, iX1_turnTo, qw_g 1008 rfl rfl⟩
set_option maxRecDepth 50000 in
theorem lRX1_175 : Cond.methodLink RX1 175 yX1_isTurned ∈ qw_good := qw_g 1010 rfl rfl
abbrev mX1_isTurned : MI := (RX1, cX1_isTurned, 6, (some .boolean), yX1_isTurned)
set_option maxRecDepth 50000 in
theorem fX1_isTurned : qmf mX1_isTurned 2 := ⟨qw_g 1013 rfl rfl, qw_g 111 rfl rfl, by decide +kernel, by decide +kernel, by decide +kernel⟩
set_option maxRecDepth 50000 in
theorem iX1_isTurned : Cond.instanceMethod yX1_isTurned ∈ qw_good := qw_g 1012 rfl rfl
set_option maxRecDepth 50000 in
theorem vX1_isTurned : qmv mX1_isTurned 1 := ⟨TX1, 4, rfl, by decide, iX1_isTurned, qw_g 29 rfl rfl⟩
set_option maxRecDepth 50000 in
theorem lRX1_179 : Cond.methodLink RX1 179 yX1_freePartner ∈ qw_good := qw_g 1014 rfl rfl
abbrev mX1_freePartner : MI := (RX1, cX1_freePartner, 6, (some .int), yX1_freePartner)
set_option maxRecDepth 50000 in
theorem fX1_freePartner : qmf mX1_freePartner 4 := ⟨qw_g 1017 rfl rfl, qw_g 111 rfl rfl, by decide +kernel, by decide +kernel, by decide +kernel⟩
set_option maxRecDepth 50000 in
theorem iX1_freePartner : Cond.instanceMethod yX1_freePartner ∈ qw_good := qw_g 1016 rfl rfl
set_option maxRecDepth 50000 in
theorem vX1_freePartner : qmv mX1_freePartner 1 := ⟨TX1, 4, rfl, by decide, iX1_freePartner, qw_g 30 rfl rfl⟩
set_option maxRecDepth 50000 in
theorem lRX1_183 : Cond.methodLink RX1 183 yX4_isTurned ∈ qw_good := qw_g 1018 rfl rfl
abbrev mX2_init : MI := (RX2, cX2_init, 1, none, yX2_init)
set_option maxRecDepth 50000 in
theorem fX2_init : qmf mX2_init 0 := ⟨qw_g 269 rfl rfl, qw_g 110 rfl rfl, by decide +kernel, by decide +kernel, by decide +kernel⟩
set_option maxRecDepth 50000 in
theorem iX2_init : Cond.instanceMethod yX2_init ∈ qw_good := qw_g 268 rfl rfl
set_option maxRecDepth 50000 in
theorem lRX2_3 : Cond.methodLink RX2 3 objectInit ∈ qw_good := qw_g 270 rfl rfl
set_option maxRecDepth 50000 in
theorem qRX2_11 : qfL RX2 11 2 0 (10 + 14) true := ⟨RX2, TX2, 10, tyX2 0, qc_2, by decide, rfl, by decide +kernel, rfl, rfl, rfl, Or.inl (qw_g 271 rfl rfl)⟩
set_option maxRecDepth 50000 in
theorem FRX2_11 : qfF RX2 11 2 0 (10 + 14) := ⟨TX2, 10, tyX2 0, qc_2, by decide, rfl, by decide +kernel, rfl, rfl, rfl, qw_g 271 rfl rfl⟩
set_option maxRecDepth 50000 in
theorem qRX2_15 : qfL RX2 15 2 1 (10 + 14) true := ⟨RX2, TX2, 10, tyX2 1, qc_2, by decide, rfl, by decide +kernel, rfl, rfl, rfl, Or.inl (qw_g 272 rfl rfl)⟩
set_option maxRecDepth 50000 in
theorem FRX2_15 : qfF RX2 15 2 1 (10 + 14) := ⟨TX2, 10, tyX2 1, qc_2, by decide, rfl, by decide +kernel, rfl, rfl, rfl, qw_g 272 rfl rfl⟩
set_option maxRecDepth 50000 in
theorem qRX2_18 : qfL RX2 18 2 2 (10 + 14) true := ⟨RX2, TX2, 10, tyX2 2, qc_2, by decide, rfl, by decide +kernel, rfl, rfl, rfl, Or.inl (qw_g 274 rfl rfl)⟩
set_option maxRecDepth 50000 in
theorem FRX2_18 : qfF RX2 18 2 2 (10 + 14) := ⟨TX2, 10, tyX2 2, qc_2, by decide, rfl, by decide +kernel, rfl, rfl, rfl, qw_g 274 rfl rfl⟩
set_option maxRecDepth 50000 in
theorem qRX2_21 : qfL RX2 21 2 3 0 false := ⟨RX2, TX2, 10, tyX2 3, qc_2, by decide, rfl, by decide +kernel, rfl, rfl, rfl, Or.inl (qw_g 276 rfl rfl)⟩
set_option maxRecDepth 50000 in
theorem qRX2_25 : qfL RX2 25 2 4 1 false := ⟨RX2, TX2, 10, tyX2 4, qc_2, by decide, rfl, by decide +kernel, rfl, rfl, rfl, Or.inl (qw_g 277 rfl rfl)⟩
set_option maxRecDepth 50000 in
theorem qRX2_29 : qfL RX2 29 2 5 0 false := ⟨RX2, TX2, 10, tyX2 5, qc_2, by decide, rfl, by decide +kernel, rfl, rfl, rfl, Or.inl (qw_g 279 rfl rfl)⟩
set_option maxRecDepth 50000 in
theorem qRX2_32 : qfL RX2 32 2 6 2 false := ⟨RX2, TX2, 10, tyX2 6, qc_2, by decide, rfl, by decide +kernel, rfl, rfl, rfl, Or.inl (qw_g 281 rfl rfl)⟩
set_option maxRecDepth 50000 in
theorem qRX2_36 : qfL RX2 36 2 7 (10 + 15) true := ⟨RX2, TX2, 10, tyX2 7, qc_2, by decide, rfl, by decide +kernel, rfl, rfl, rfl, Or.inl (qw_g 282 rfl rfl)⟩
set_option maxRecDepth 50000 in
theorem FRX2_36 : qfF RX2 36 2 7 (10 + 15) := ⟨TX2, 10, tyX2 7, qc_2, by decide, rfl, by decide +kernel, rfl, rfl, rfl, qw_g 282 rfl rfl⟩
set_option maxRecDepth 50000 in
theorem qRX2_40 : qfL RX2 40 2 8 0 false := ⟨RX2, TX2, 10, tyX2 8, qc_2, by decide, rfl, by decide +kernel, rfl, rfl, rfl, Or.inl (qw_g 283 rfl rfl)⟩
set_option maxRecDepth 50000 in
theorem qRX2_43 : qfL RX2 43 2 9 0 false := ⟨RX2, TX2, 10, tyX2 9, qc_2, by decide, rfl, by decide +kernel, rfl, rfl, rfl, Or.inl (qw_g 284 rfl rfl)⟩
abbrev mX2_show : MI := (RX2, cX2_show, 4, none, yX2_show)
set_option maxRecDepth 50000 in
theorem fX2_show : qmf mX2_show 2 := ⟨qw_g 939 rfl rfl, qw_g 110 rfl rfl, by decide +kernel, by decide +kernel, by decide +kernel⟩
set_option maxRecDepth 50000 in
theorem iX2_show : Cond.instanceMethod yX2_show ∈ qw_good := qw_g 937 rfl rfl
set_option maxRecDepth 50000 in
theorem vX2_show : qmv mX2_show 2 := ⟨TX2, 10, rfl, by decide, iX2_show, qw_g 938 rfl rfl⟩
set_option maxRecDepth 50000 in
theorem lRX2_46 : Cond.methodLink RX2 46 yJ9_min_7cf53 ∈ qw_good := qw_g 940 rfl rfl
set_option maxRecDepth 50000 in
theorem lRX2_52 : Cond.methodLink RX2 52 yX6_byteAt ∈ qw_good := qw_g 941 rfl rfl
abbrev mX2_comesWithout : MI := (RX2, cX2_comesWithout, 7, (some .boolean), yX2_comesWithout)
set_option maxRecDepth 50000 in
theorem fX2_comesWithout : qmf mX2_comesWithout 3 := ⟨qw_g 945 rfl rfl, qw_g 110 rfl rfl, by decide +kernel, by decide +kernel, by decide +kernel⟩
set_option maxRecDepth 50000 in
theorem iX2_comesWithout : Cond.instanceMethod yX2_comesWithout ∈ qw_good := qw_g 943 rfl rfl
set_option maxRecDepth 50000 in
theorem vX2_comesWithout : qmv mX2_comesWithout 2 := ⟨TX2, 10, rfl, by decide, iX2_comesWithout, qw_g 944 rfl rfl⟩
set_option maxRecDepth 50000 in
theorem qRX2_58 : qfL RX2 58 9 0 (10 + 14) true := ⟨RX10, TX10, 3, tyX10 0, qc_9, by decide, rfl, by decide +kernel, rfl, rfl, rfl, Or.inr ⟨"ForeverOffice", qw_n 215 rfl rfl⟩⟩
set_option maxRecDepth 50000 in
theorem lRX2_63 : Cond.methodLink RX2 63 yX10_after ∈ qw_good := qw_g 946 rfl rfl
abbrev mX2_search : MI := (RX2, cX2_search, 5, none, yX2_search)
set_option maxRecDepth 50000 in
theorem fX2_search : qmf mX2_search 3 := ⟨qw_g 950 rfl rfl, qw_g 110 rfl rfl, by decide +kernel, by decide +kernel, by decide +kernel⟩
set_option maxRecDepth 50000 in
theorem iX2_search : Cond.instanceMethod yX2_search ∈ qw_good := qw_g 948 rfl rfl
set_option maxRecDepth 50000 in
theorem vX2_search : qmv mX2_search 2 := ⟨TX2, 10, rfl, by decide, iX2_search, qw_g 949 rfl rfl⟩
set_option maxRecDepth 50000 in
theorem qRX2_66 : qfL RX2 66 9 2 0 false := ⟨RX10, TX10, 3, tyX10 2, qc_9, by decide, rfl, by decide +kernel, rfl, rfl, rfl, Or.inr ⟨"ForeverOffice", qw_n 222 rfl rfl⟩⟩
set_option maxRecDepth 50000 in
theorem lRX2_68 : Cond.methodLink RX2 68 yX2_searchAt ∈ qw_good := qw_g 951 rfl rfl
abbrev mX2_searchAt : MI := (RX2, cX2_searchAt, 12, none, yX2_searchAt)
set_option maxRecDepth 50000 in
theorem fX2_searchAt : qmf mX2_searchAt 4 := ⟨qw_g 954 rfl rfl, qw_g 110 rfl rfl, by decide +kernel, by decide +kernel, by decide +kernel⟩
set_option maxRecDepth 50000 in
theorem iX2_searchAt : Cond.instanceMethod yX2_searchAt ∈ qw_good := qw_g 953 rfl rfl
set_option maxRecDepth 50000 in
theorem vX2_searchAt : qmv mX2_searchAt 2 := ⟨TX2, 10, rfl, by decide, iX2_searchAt, qw_g 26 rfl rfl⟩
set_option maxRecDepth 50000 in
theorem lRX2_72 : Cond.methodLink RX2 72 yJ9_floorDiv_7cf53 ∈ qw_good := qw_g 955 rfl rfl
set_option maxRecDepth 50000 in
theorem lRX2_75 : Cond.methodLink RX2 75 yJ9_max_7cf53 ∈ qw_good := qw_g 958 rfl rfl
set_option maxRecDepth 50000 in
theorem lRX2_78 : Cond.methodLink RX2 78 yX2_add ∈ qw_good := qw_g 959 rfl rfl
abbrev mX2_add : MI := (RX2, cX2_add, 3, none, yX2_add)
set_option maxRecDepth 50000 in
theorem fX2_add : qmf mX2_add 2 := ⟨qw_g 962 rfl rfl, qw_g 110 rfl rfl, by decide +kernel, by decide +kernel, by decide +kernel⟩
set_option maxRecDepth 50000 in
theorem iX2_add : Cond.instanceMethod yX2_add ∈ qw_good := qw_g 961 rfl rfl
set_option maxRecDepth 50000 in
theorem vX2_add : qmv mX2_add 2 := ⟨TX2, 10, rfl, by decide, iX2_add, qw_g 27 rfl rfl⟩
abbrev mX2_readLooks : MI := (RX2, cX2_readLooks, 5, none, yX2_readLooks)
set_option maxRecDepth 50000 in
theorem fX2_readLooks : qmf mX2_readLooks 2 := ⟨qw_g 975 rfl rfl, qw_g 110 rfl rfl, by decide +kernel, by decide +kernel, by decide +kernel⟩
set_option maxRecDepth 50000 in
theorem iX2_readLooks : Cond.instanceMethod yX2_readLooks ∈ qw_good := qw_g 973 rfl rfl
set_option maxRecDepth 50000 in
theorem vX2_readLooks : qmv mX2_readLooks 2 := ⟨TX2, 10, rfl, by decide, iX2_readLooks, qw_g 974 rfl rfl⟩
abbrev mX2_fewestLooks : MI := (RX2, cX2_fewestLooks, 4, (some .int), yX2_fewestLooks)
set_option maxRecDepth 50000 in
theorem fX2_fewestLooks : qmf mX2_fewestLooks 0 := ⟨qw_g 979 rfl rfl, qw_g 110 rfl rfl, by decide +kernel, by decide +kernel, by decide +kernel⟩
set_option maxRecDepth 50000 in
theorem iX2_fewestLooks : Cond.instanceMethod yX2_fewestLooks ∈ qw_good := qw_g 977 rfl rfl
set_option maxRecDepth 50000 in
theorem vX2_fewestLooks : qmv mX2_fewestLooks 2 := ⟨TX2, 10, rfl, by decide, iX2_fewestLooks, qw_g 978 rfl rfl⟩
set_option maxRecDepth 50000 in
theorem lRX2_82 : Cond.methodLink RX2 82 yJ6_bitCount_0f7a4 ∈ qw_good := qw_g 980 rfl rfl
set_option maxRecDepth 50000 in
theorem lRX2_87 : Cond.methodLink RX2 87 yX2_lookedAt ∈ qw_good := qw_g 981 rfl rfl
set_option maxRecDepth 50000 in
theorem kRX2_91 : Cond.constantLong RX2 91 (-1) ∈ qw_good := qw_g 985 rfl rfl
abbrev mX2_lookedAt : MI := (RX2, cX2_lookedAt, 5, (some .long), yX2_lookedAt)
set_option maxRecDepth 50000 in
theorem fX2_lookedAt : qmf mX2_lookedAt 1 := ⟨qw_g 984 rfl rfl, qw_g 110 rfl rfl, by decide +kernel, by decide +kernel, by decide +kernel⟩
set_option maxRecDepth 50000 in
theorem iX2_lookedAt : Cond.instanceMethod yX2_lookedAt ∈ qw_good := qw_g 983 rfl rfl
set_option maxRecDepth 50000 in
theorem vX2_lookedAt : qmv mX2_lookedAt 2 := ⟨TX2, 10, rfl, by decide, iX2_lookedAt, qw_g 28 rfl rfl⟩
abbrev mX3_init : MI := (RX3, cX3_init, 2, none, yX3_init)
set_option maxRecDepth 50000 in
theorem fX3_init : qmf mX3_init 0 := ⟨qw_g 422 rfl rfl, qw_g 114 rfl rfl, by decide +kernel, by decide +kernel, by decide +kernel⟩
set_option maxRecDepth 50000 in
theorem iX3_init : Cond.instanceMethod yX3_init ∈ qw_good := qw_g 421 rfl rfl
set_option maxRecDepth 50000 in
theorem lRX3_3 : Cond.methodLink RX3 3 objectInit ∈ qw_good := qw_g 423 rfl rfl
set_option maxRecDepth 50000 in
theorem qRX3_11 : qfL RX3 11 3 0 (10 + 14) true := ⟨RX3, TX3, 3, tyX3 0, qc_3, by decide, rfl, by decide +kernel, rfl, rfl, rfl, Or.inl (qw_g 424 rfl rfl)⟩
set_option maxRecDepth 50000 in
theorem FRX3_11 : qfF RX3 11 3 0 (10 + 14) := ⟨TX3, 3, tyX3 0, qc_3, by decide, rfl, by decide +kernel, rfl, rfl, rfl, qw_g 424 rfl rfl⟩
set_option maxRecDepth 50000 in
theorem qRX3_15 : qfL RX3 15 3 1 (10 + 14) true := ⟨RX3, TX3, 3, tyX3 1, qc_3, by decide, rfl, by decide +kernel, rfl, rfl, rfl, Or.inl (qw_g 425 rfl rfl)⟩
set_option maxRecDepth 50000 in
theorem FRX3_15 : qfF RX3 15 3 1 (10 + 14) := ⟨TX3, 3, tyX3 1, qc_3, by decide, rfl, by decide +kernel, rfl, rfl, rfl, qw_g 425 rfl rfl⟩
set_option maxRecDepth 50000 in
theorem qRX3_18 : qfL RX3 18 3 2 0 false := ⟨RX3, TX3, 3, tyX3 2, qc_3, by decide, rfl, by decide +kernel, rfl, rfl, rfl, Or.inl (qw_g 427 rfl rfl)⟩
abbrev mX3_readFrom : MI := (RX3, cX3_readFrom, 3, (some .boolean), yX3_readFrom)
set_option maxRecDepth 50000 in
theorem fX3_readFrom : qmf mX3_readFrom 1 := ⟨qw_g 1045 rfl rfl, qw_g 114 rfl rfl, by decide +kernel, by decide +kernel, by decide +kernel⟩
set_option maxRecDepth 50000 in
theorem iX3_readFrom : Cond.instanceMethod yX3_readFrom ∈ qw_good := qw_g 1043 rfl rfl
set_option maxRecDepth 50000 in
theorem vX3_readFrom : qmv mX3_readFrom 3 := ⟨TX3, 3, rfl, by decide, iX3_readFrom, qw_g 1044 rfl rfl⟩
set_option maxRecDepth 50000 in
theorem lRX3_22 : Cond.methodLink RX3 22 yX7_isEnd ∈ qw_good := qw_g 1046 rfl rfl
set_option maxRecDepth 50000 in
theorem lRX3_28 : Cond.methodLink RX3 28 yX3_readLine ∈ qw_good := qw_g 1047 rfl rfl
set_option maxRecDepth 50000 in
theorem lRX3_32 : Cond.methodLink RX3 32 yX7_takeEnd ∈ qw_good := qw_g 1064 rfl rfl
abbrev mX3_readLine : MI := (RX3, cX3_readLine, 6, (some .boolean), yX3_readLine)
set_option maxRecDepth 50000 in
theorem fX3_readLine : qmf mX3_readLine 1 := ⟨qw_g 1050 rfl rfl, qw_g 114 rfl rfl, by decide +kernel, by decide +kernel, by decide +kernel⟩
set_option maxRecDepth 50000 in
theorem iX3_readLine : Cond.instanceMethod yX3_readLine ∈ qw_good := qw_g 1049 rfl rfl
set_option maxRecDepth 50000 in
theorem vX3_readLine : qmv mX3_readLine 3 := ⟨TX3, 3, rfl, by decide, iX3_readLine, qw_g 31 rfl rfl⟩
set_option maxRecDepth 50000 in
theorem gRX3_35 : Cond.fieldLink RX3 35 "ForeverOffice$Word" (qwn.getD 27 "") "LForeverOffice$Word;" ∈ qw_good := qw_g 1051 rfl rfl
set_option maxRecDepth 50000 in
theorem lRX3_41 : Cond.methodLink RX3 41 yX7_isWord ∈ qw_good := qw_g 1053 rfl rfl
set_option maxRecDepth 50000 in
theorem lRX3_45 : Cond.methodLink RX3 45 yX7_fail ∈ qw_good := qw_g 1054 rfl rfl
set_option maxRecDepth 50000 in
theorem lRX3_49 : Cond.methodLink RX3 49 yX7_takeWord ∈ qw_good := qw_g 1055 rfl rfl
set_option maxRecDepth 50000 in
theorem lRX3_52 : Cond.methodLink RX3 52 yX7_takeNumber ∈ qw_good := qw_g 1056 rfl rfl
set_option maxRecDepth 50000 in
theorem gRX3_56 : Cond.fieldLink RX3 56 "ForeverOffice$Word" (qwn.getD 28 "") "LForeverOffice$Word;" ∈ qw_good := qw_g 1057 rfl rfl
set_option maxRecDepth 50000 in
theorem lRX3_59 : Cond.methodLink RX3 59 yX7_knownWord ∈ qw_good := qw_g 1059 rfl rfl
set_option maxRecDepth 50000 in
theorem wRX3_63 : Cond.fieldLink RX3 63 "ForeverOffice$Word" "sayingIndex" "I" ∈ qw_good ∨ ∃ host, Cond.fieldLinkNest RX3 63 "ForeverOffice$Word" "sayingIndex" "I" host ∈ qw_nest := Or.inr ⟨"ForeverOffice", qw_n 1861 rfl rfl⟩
set_option maxRecDepth 50000 in
theorem lRX3_66 : Cond.methodLink RX3 66 yX7_pass ∈ qw_good := qw_g 1060 rfl rfl
set_option maxRecDepth 50000 in
theorem gRX3_69 : Cond.fieldLink RX3 69 "ForeverOffice$Word" (qwn.getD 29 "") "LForeverOffice$Word;" ∈ qw_good := qw_g 1061 rfl rfl
set_option maxRecDepth 50000 in
theorem lRX3_72 : Cond.methodLink RX3 72 yX7_takeSign ∈ qw_good := qw_g 1063 rfl rfl
abbrev mX3_stateAfter : MI := (RX3, cX3_stateAfter, 4, (some .int), yX3_stateAfter)
set_option maxRecDepth 50000 in
theorem fX3_stateAfter : qmf mX3_stateAfter 2 := ⟨qw_g 1113 rfl rfl, qw_g 114 rfl rfl, by decide +kernel, by decide +kernel, by decide +kernel⟩
set_option maxRecDepth 50000 in
theorem iX3_stateAfter : Cond.instanceMethod yX3_stateAfter ∈ qw_good := qw_g 1112 rfl rfl
set_option maxRecDepth 50000 in
theorem vX3_stateAfter : qmv mX3_stateAfter 3 := ⟨TX3, 3, rfl, by decide, iX3_stateAfter, qw_g 39 rfl rfl⟩
abbrev mX3_measure : MI := (RX3, cX3_measure, 4, none, yX3_measure)
set_option maxRecDepth 50000 in
theorem fX3_measure : qmf mX3_measure 1 := ⟨qw_g 1105 rfl rfl, qw_g 114 rfl rfl, by decide +kernel, by decide +kernel, by decide +kernel⟩
set_option maxRecDepth 50000 in
theorem iX3_measure : Cond.instanceMethod yX3_measure ∈ qw_good := qw_g 1103 rfl rfl
set_option maxRecDepth 50000 in
theorem vX3_measure : qmv mX3_measure 3 := ⟨TX3, 3, rfl, by decide, iX3_measure, qw_g 1104 rfl rfl⟩
set_option maxRecDepth 50000 in
theorem lRX3_75 : Cond.methodLink RX3 75 yX3_farBySaying ∈ qw_good := qw_g 1106 rfl rfl
set_option maxRecDepth 50000 in
theorem lRX3_78 : Cond.methodLink RX3 78 yJ9_min_7cf53 ∈ qw_good := qw_g 1114 rfl rfl
abbrev mX3_farBySaying : MI := (RX3, cX3_farBySaying, 5, (some .int), yX3_farBySaying)
set_option maxRecDepth 50000 in
theorem fX3_farBySaying : qmf mX3_farBySaying 2 := ⟨qw_g 1109 rfl rfl, qw_g 114 rfl rfl, by decide +kernel, by decide +kernel, by decide +kernel⟩
set_option maxRecDepth 50000 in
theorem iX3_farBySaying : Cond.instanceMethod yX3_farBySaying ∈ qw_good := qw_g 1108 rfl rfl
set_option maxRecDepth 50000 in
theorem vX3_farBySaying : qmv mX3_farBySaying 3 := ⟨TX3, 3, rfl, by decide, iX3_farBySaying, qw_g 38 rfl rfl⟩
set_option maxRecDepth 50000 in
theorem lRX3_83 : Cond.methodLink RX3 83 yX3_stateAfter ∈ qw_good := qw_g 1110 rfl rfl
abbrev mX3_tellShortest : MI := (RX3, cX3_tellShortest, 5, none, yX3_tellShortest)
set_option maxRecDepth 50000 in
theorem fX3_tellShortest : qmf mX3_tellShortest 2 := ⟨qw_g 1118 rfl rfl, qw_g 114 rfl rfl, by decide +kernel, by decide +kernel, by decide +kernel⟩
set_option maxRecDepth 50000 in
theorem iX3_tellShortest : Cond.instanceMethod yX3_tellShortest ∈ qw_good := qw_g 1116 rfl rfl
set_option maxRecDepth 50000 in
theorem vX3_tellShortest : qmv mX3_tellShortest 3 := ⟨TX3, 3, rfl, by decide, iX3_tellShortest, qw_g 1117 rfl rfl⟩
set_option maxRecDepth 50000 in
theorem lRX3_86 : Cond.methodLink RX3 86 yX3_nearingSaying ∈ qw_good := qw_g 1119 rfl rfl
abbrev mX3_nearingSaying : MI := (RX3, cX3_nearingSaying, 5, (some .int), yX3_nearingSaying)
set_option maxRecDepth 50000 in
theorem fX3_nearingSaying : qmf mX3_nearingSaying 2 := ⟨qw_g 1122 rfl rfl, qw_g 114 rfl rfl, by decide +kernel, by decide +kernel, by decide +kernel⟩
set_option maxRecDepth 50000 in
theorem iX3_nearingSaying : Cond.instanceMethod yX3_nearingSaying ∈ qw_good := qw_g 1121 rfl rfl
set_option maxRecDepth 50000 in
theorem vX3_nearingSaying : qmv mX3_nearingSaying 3 := ⟨TX3, 3, rfl, by decide, iX3_nearingSaying, qw_g 40 rfl rfl⟩
abbrev mX4_init : MI := (RX4, cX4_init, 1, none, yX4_init)
set_option maxRecDepth 50000 in
theorem fX4_init : qmf mX4_init 0 := ⟨qw_g 320 rfl rfl, qw_g 112 rfl rfl, by decide +kernel, by decide +kernel, by decide +kernel⟩
set_option maxRecDepth 50000 in
theorem iX4_init : Cond.instanceMethod yX4_init ∈ qw_good := qw_g 319 rfl rfl
set_option maxRecDepth 50000 in
theorem lRX4_3 : Cond.methodLink RX4 3 objectInit ∈ qw_good := qw_g 321 rfl rfl
set_option maxRecDepth 50000 in
theorem qRX4_11 : qfL RX4 11 4 0 0 false := ⟨RX4, TX4, 10, tyX4 0, qc_4, by decide, rfl, by decide +kernel, rfl, rfl, rfl, Or.inl (qw_g 322 rfl rfl)⟩
set_option maxRecDepth 50000 in
theorem qRX4_15 : qfL RX4 15 4 1 0 false := ⟨RX4, TX4, 10, tyX4 1, qc_4, by decide, rfl, by decide +kernel, rfl, rfl, rfl, Or.inl (qw_g 326 rfl rfl)⟩
set_option maxRecDepth 50000 in
theorem qRX4_18 : qfL RX4 18 4 2 0 false := ⟨RX4, TX4, 10, tyX4 2, qc_4, by decide, rfl, by decide +kernel, rfl, rfl, rfl, Or.inl (qw_g 328 rfl rfl)⟩
set_option maxRecDepth 50000 in
theorem qRX4_21 : qfL RX4 21 4 3 0 false := ⟨RX4, TX4, 10, tyX4 3, qc_4, by decide, rfl, by decide +kernel, rfl, rfl, rfl, Or.inl (qw_g 330 rfl rfl)⟩
set_option maxRecDepth 50000 in
theorem qRX4_24 : qfL RX4 24 4 4 0 false := ⟨RX4, TX4, 10, tyX4 4, qc_4, by decide, rfl, by decide +kernel, rfl, rfl, rfl, Or.inl (qw_g 333 rfl rfl)⟩
set_option maxRecDepth 50000 in
theorem qRX4_27 : qfL RX4 27 4 5 0 false := ⟨RX4, TX4, 10, tyX4 5, qc_4, by decide, rfl, by decide +kernel, rfl, rfl, rfl, Or.inl (qw_g 335 rfl rfl)⟩
set_option maxRecDepth 50000 in
theorem qRX4_30 : qfL RX4 30 4 6 0 false := ⟨RX4, TX4, 10, tyX4 6, qc_4, by decide, rfl, by decide +kernel, rfl, rfl, rfl, Or.inl (qw_g 337 rfl rfl)⟩
set_option maxRecDepth 50000 in
theorem qRX4_33 : qfL RX4 33 4 7 1 false := ⟨RX4, TX4, 10, tyX4 7, qc_4, by decide, rfl, by decide +kernel, rfl, rfl, rfl, Or.inl (qw_g 339 rfl rfl)⟩
set_option maxRecDepth 50000 in
theorem qRX4_37 : qfL RX4 37 4 8 0 false := ⟨RX4, TX4, 10, tyX4 8, qc_4, by decide, rfl, by decide +kernel, rfl, rfl, rfl, Or.inl (qw_g 341 rfl rfl)⟩
set_option maxRecDepth 50000 in
theorem qRX4_40 : qfL RX4 40 4 9 0 false := ⟨RX4, TX4, 10, tyX4 9, qc_4, by decide, rfl, by decide +kernel, rfl, rfl, rfl, Or.inl (qw_g 343 rfl rfl)⟩
abbrev mX4_kindOf : MI := (RX4, cX4_kindOf, 1, (some .int), yX4_kindOf)
set_option maxRecDepth 50000 in
theorem fX4_kindOf : qmf mX4_kindOf 1 := ⟨qw_g 612 rfl rfl, qw_g 112 rfl rfl, by decide +kernel, by decide +kernel, by decide +kernel⟩
set_option maxRecDepth 50000 in
theorem sX4_kindOf : Cond.static yX4_kindOf ∈ qw_good := qw_g 611 rfl rfl
set_option maxRecDepth 50000 in
theorem gRX4_43 : Cond.fieldLink RX4 43 "ForeverOffice$Word" (qwn.getD 2 "") "LForeverOffice$Word;" ∈ qw_good := qw_g 613 rfl rfl
set_option maxRecDepth 50000 in
theorem gRX4_49 : Cond.fieldLink RX4 49 "ForeverOffice$Word" (qwn.getD 3 "") "LForeverOffice$Word;" ∈ qw_good := qw_g 615 rfl rfl
set_option maxRecDepth 50000 in
theorem gRX4_52 : Cond.fieldLink RX4 52 "ForeverOffice$Word" (qwn.getD 4 "") "LForeverOffice$Word;" ∈ qw_good := qw_g 617 rfl rfl
set_option maxRecDepth 50000 in
theorem gRX4_55 : Cond.fieldLink RX4 55 "ForeverOffice$Word" (qwn.getD 5 "") "LForeverOffice$Word;" ∈ qw_good := qw_g 619 rfl rfl
set_option maxRecDepth 50000 in
theorem gRX4_58 : Cond.fieldLink RX4 58 "ForeverOffice$Word" (qwn.getD 6 "") "LForeverOffice$Word;" ∈ qw_good := qw_g 621 rfl rfl
abbrev mX4_highOf : MI := (RX4, cX4_highOf, 2, (some .int), yX4_highOf)
set_option maxRecDepth 50000 in
theorem fX4_highOf : qmf mX4_highOf 2 := ⟨qw_g 718 rfl rfl, qw_g 112 rfl rfl, by decide +kernel, by decide +kernel, by decide +kernel⟩
set_option maxRecDepth 50000 in
theorem sX4_highOf : Cond.static yX4_highOf ∈ qw_good := qw_g 717 rfl rfl
abbrev mX4_begin : MI := (RX4, cX4_begin, 2, none, yX4_begin)
set_option maxRecDepth 50000 in
theorem fX4_begin : qmf mX4_begin 1 := ⟨qw_g 626 rfl rfl, qw_g 112 rfl rfl, by decide +kernel, by decide +kernel, by decide +kernel⟩
set_option maxRecDepth 50000 in
theorem iX4_begin : Cond.instanceMethod yX4_begin ∈ qw_good := qw_g 624 rfl rfl
set_option maxRecDepth 50000 in
theorem vX4_begin : qmv mX4_begin 4 := ⟨TX4, 10, rfl, by decide, iX4_begin, qw_g 625 rfl rfl⟩
abbrev mX4_copyFrom : MI := (RX4, cX4_copyFrom, 2, none, yX4_copyFrom)
set_option maxRecDepth 50000 in
theorem fX4_copyFrom : qmf mX4_copyFrom 1 := ⟨qw_g 1001 rfl rfl, qw_g 112 rfl rfl, by decide +kernel, by decide +kernel, by decide +kernel⟩
set_option maxRecDepth 50000 in
theorem iX4_copyFrom : Cond.instanceMethod yX4_copyFrom ∈ qw_good := qw_g 999 rfl rfl
set_option maxRecDepth 50000 in
theorem vX4_copyFrom : qmv mX4_copyFrom 4 := ⟨TX4, 10, rfl, by decide, iX4_copyFrom, qw_g 1000 rfl rfl⟩
abbrev mX4_law : MI := (RX4, cX4_law, 1, (some .int), yX4_law)
set_option maxRecDepth 50000 in
theorem fX4_law : qmf mX4_law 0 := ⟨qw_g 731 rfl rfl, qw_g 112 rfl rfl, by decide +kernel, by decide +kernel, by decide +kernel⟩
set_option maxRecDepth 50000 in
theorem iX4_law : Cond.instanceMethod yX4_law ∈ qw_good := qw_g 729 rfl rfl
set_option maxRecDepth 50000 in
theorem vX4_law : qmv mX4_law 4 := ⟨TX4, 10, rfl, by decide, iX4_law, qw_g 730 rfl rfl⟩
abbrev mX4_isWithin : MI := (RX4, cX4_isWithin, 2, (some .boolean), yX4_isWithin)
set_option maxRecDepth 50000 in
theorem fX4_isWithin : qmf mX4_isWithin 1 := ⟨qw_g 715 rfl rfl, qw_g 112 rfl rfl, by decide +kernel, by decide +kernel, by decide +kernel⟩
set_option maxRecDepth 50000 in
theorem iX4_isWithin : Cond.instanceMethod yX4_isWithin ∈ qw_good := qw_g 713 rfl rfl
set_option maxRecDepth 50000 in
theorem vX4_isWithin : qmv mX4_isWithin 4 := ⟨TX4, 10, rfl, by decide, iX4_isWithin, qw_g 714 rfl rfl⟩
abbrev mX4_placeAt : MI := (RX4, cX4_placeAt, 4, (some .int), yX4_placeAt)
set_option maxRecDepth 50000 in
theorem fX4_placeAt : qmf mX4_placeAt 2 := ⟨qw_g 700 rfl rfl, qw_g 112 rfl rfl, by decide +kernel, by decide +kernel, by decide +kernel⟩
set_option maxRecDepth 50000 in
theorem iX4_placeAt : Cond.instanceMethod yX4_placeAt ∈ qw_good := qw_g 698 rfl rfl
set_option maxRecDepth 50000 in
theorem vX4_placeAt : qmv mX4_placeAt 4 := ⟨TX4, 10, rfl, by decide, iX4_placeAt, qw_g 699 rfl rfl⟩
abbrev mX4_placeBehind : MI := (RX4, cX4_placeBehind, 2, (some .int), yX4_placeBehind)
set_option maxRecDepth 50000 in
theorem fX4_placeBehind : qmf mX4_placeBehind 2 := ⟨qw_g 703 rfl rfl, qw_g 112 rfl rfl, by decide +kernel, by decide +kernel, by decide +kernel⟩
set_option maxRecDepth 50000 in
theorem sX4_placeBehind : Cond.static yX4_placeBehind ∈ qw_good := qw_g 702 rfl rfl
abbrev mX4_armAt : MI := (RX4, cX4_armAt, 2, (some .int), yX4_armAt)
set_option maxRecDepth 50000 in
theorem fX4_armAt : qmf mX4_armAt 1 := ⟨qw_g 711 rfl rfl, qw_g 112 rfl rfl, by decide +kernel, by decide +kernel, by decide +kernel⟩
set_option maxRecDepth 50000 in
theorem iX4_armAt : Cond.instanceMethod yX4_armAt ∈ qw_good := qw_g 709 rfl rfl
set_option maxRecDepth 50000 in
theorem vX4_armAt : qmv mX4_armAt 4 := ⟨TX4, 10, rfl, by decide, iX4_armAt, qw_g 710 rfl rfl⟩
set_option maxRecDepth 50000 in
theorem lRX4_61 : Cond.methodLink RX4 61 yX4_isWithin ∈ qw_good := qw_g 712 rfl rfl
abbrev mX4_energyAt : MI := (RX4, cX4_energyAt, 3, (some .int), yX4_energyAt)
set_option maxRecDepth 50000 in
theorem fX4_energyAt : qmf mX4_energyAt 2 := ⟨qw_g 707 rfl rfl, qw_g 112 rfl rfl, by decide +kernel, by decide +kernel, by decide +kernel⟩
set_option maxRecDepth 50000 in
theorem iX4_energyAt : Cond.instanceMethod yX4_energyAt ∈ qw_good := qw_g 705 rfl rfl
set_option maxRecDepth 50000 in
theorem vX4_energyAt : qmv mX4_energyAt 4 := ⟨TX4, 10, rfl, by decide, iX4_energyAt, qw_g 706 rfl rfl⟩
set_option maxRecDepth 50000 in
theorem lRX4_65 : Cond.methodLink RX4 65 yX4_armAt ∈ qw_good := qw_g 708 rfl rfl
set_option maxRecDepth 50000 in
theorem lRX4_69 : Cond.methodLink RX4 69 yX4_highOf ∈ qw_good := qw_g 716 rfl rfl
set_option maxRecDepth 50000 in
theorem lRX4_73 : Cond.methodLink RX4 73 yX4_distanceTo ∈ qw_good := qw_g 719 rfl rfl
set_option maxRecDepth 50000 in
theorem lRX4_76 : Cond.methodLink RX4 76 yJ9_max_7cf53 ∈ qw_good := qw_g 727 rfl rfl
abbrev mX4_distanceTo : MI := (RX4, cX4_distanceTo, 4, (some .int), yX4_distanceTo)
set_option maxRecDepth 50000 in
theorem fX4_distanceTo : qmf mX4_distanceTo 2 := ⟨qw_g 722 rfl rfl, qw_g 112 rfl rfl, by decide +kernel, by decide +kernel, by decide +kernel⟩
set_option maxRecDepth 50000 in
theorem iX4_distanceTo : Cond.instanceMethod yX4_distanceTo ∈ qw_good := qw_g 721 rfl rfl
set_option maxRecDepth 50000 in
theorem vX4_distanceTo : qmv mX4_distanceTo 4 := ⟨TX4, 10, rfl, by decide, iX4_distanceTo, qw_g 14 rfl rfl⟩
set_option maxRecDepth 50000 in
theorem lRX4_81 : Cond.methodLink RX4 81 yJ9_abs_0f7a4 ∈ qw_good := qw_g 723 rfl rfl
set_option maxRecDepth 50000 in
theorem lRX4_84 : Cond.methodLink RX4 84 yJ9_min_7cf53 ∈ qw_good := qw_g 726 rfl rfl
abbrev mX4_givesIn : MI := (RX4, cX4_givesIn, 7, (some .int), yX4_givesIn)
set_option maxRecDepth 50000 in
theorem fX4_givesIn : qmf mX4_givesIn 3 := ⟨qw_g 696 rfl rfl, qw_g 112 rfl rfl, by decide +kernel, by decide +kernel, by decide +kernel⟩
set_option maxRecDepth 50000 in
theorem iX4_givesIn : Cond.instanceMethod yX4_givesIn ∈ qw_good := qw_g 694 rfl rfl
set_option maxRecDepth 50000 in
theorem vX4_givesIn : qmv mX4_givesIn 4 := ⟨TX4, 10, rfl, by decide, iX4_givesIn, qw_g 695 rfl rfl⟩
set_option maxRecDepth 50000 in
theorem lRX4_87 : Cond.methodLink RX4 87 yX4_placeAt ∈ qw_good := qw_g 697 rfl rfl
set_option maxRecDepth 50000 in
theorem lRX4_90 : Cond.methodLink RX4 90 yX4_placeBehind ∈ qw_good := qw_g 701 rfl rfl
set_option maxRecDepth 50000 in
theorem lRX4_93 : Cond.methodLink RX4 93 yX4_energyAt ∈ qw_good := qw_g 704 rfl rfl
set_option maxRecDepth 50000 in
theorem lRX4_96 : Cond.methodLink RX4 96 yX4_law ∈ qw_good := qw_g 728 rfl rfl
set_option maxRecDepth 50000 in
theorem lRX4_100 : Cond.methodLink RX4 100 yX4_lawCounts ∈ qw_good := qw_g 732 rfl rfl
abbrev mX4_lawCounts : MI := (RX4, cX4_lawCounts, 4, (some .boolean), yX4_lawCounts)
set_option maxRecDepth 50000 in
theorem fX4_lawCounts : qmf mX4_lawCounts 3 := ⟨qw_g 735 rfl rfl, qw_g 112 rfl rfl, by decide +kernel, by decide +kernel, by decide +kernel⟩
set_option maxRecDepth 50000 in
theorem iX4_lawCounts : Cond.instanceMethod yX4_lawCounts ∈ qw_good := qw_g 734 rfl rfl
set_option maxRecDepth 50000 in
theorem vX4_lawCounts : qmv mX4_lawCounts 4 := ⟨TX4, 10, rfl, by decide, iX4_lawCounts, qw_g 15 rfl rfl⟩
abbrev mX4_takesWhereLawCounts : MI := (RX4, cX4_takesWhereLawCounts, 5, (some .boolean), yX4_takesWhereLawCounts)
set_option maxRecDepth 50000 in
theorem fX4_takesWhereLawCounts : qmf mX4_takesWhereLawCounts 1 := ⟨qw_g 1089 rfl rfl, qw_g 112 rfl rfl, by decide +kernel, by decide +kernel, by decide +kernel⟩
set_option maxRecDepth 50000 in
theorem iX4_takesWhereLawCounts : Cond.instanceMethod yX4_takesWhereLawCounts ∈ qw_good := qw_g 1087 rfl rfl
set_option maxRecDepth 50000 in
theorem vX4_takesWhereLawCounts : qmv mX4_takesWhereLawCounts 4 := ⟨TX4, 10, rfl, by decide, iX4_takesWhereLawCounts, qw_g 1088 rfl rfl⟩
set_option maxRecDepth 50000 in
theorem lRX4_104 : Cond.methodLink RX4 104 yX4_givesIn ∈ qw_good := qw_g 931 rfl rfl
abbrev mX4_sumWith : MI := (RX4, cX4_sumWith, 5, (some .int), yX4_sumWith)
set_option maxRecDepth 50000 in
theorem fX4_sumWith : qmf mX4_sumWith 2 := ⟨qw_g 930 rfl rfl, qw_g 112 rfl rfl, by decide +kernel, by decide +kernel, by decide +kernel⟩
set_option maxRecDepth 50000 in
theorem iX4_sumWith : Cond.instanceMethod yX4_sumWith ∈ qw_good := qw_g 928 rfl rfl
set_option maxRecDepth 50000 in
theorem vX4_sumWith : qmv mX4_sumWith 4 := ⟨TX4, 10, rfl, by decide, iX4_sumWith, qw_g 929 rfl rfl⟩
abbrev mX4_isTurned : MI := (RX4, cX4_isTurned, 5, (some .boolean), yX4_isTurned)
set_option maxRecDepth 50000 in
theorem fX4_isTurned : qmf mX4_isTurned 3 := ⟨qw_g 1021 rfl rfl, qw_g 112 rfl rfl, by decide +kernel, by decide +kernel, by decide +kernel⟩
set_option maxRecDepth 50000 in
theorem iX4_isTurned : Cond.instanceMethod yX4_isTurned ∈ qw_good := qw_g 1019 rfl rfl
set_option maxRecDepth 50000 in
theorem vX4_isTurned : qmv mX4_isTurned 4 := ⟨TX4, 10, rfl, by decide, iX4_isTurned, qw_g 1020 rfl rfl⟩
set_option maxRecDepth 50000 in
theorem lRX4_108 : Cond.methodLink RX4 108 yJ9_floorMod_7cf53 ∈ qw_good := qw_g 1022 rfl rfl
abbrev mX5_init : MI := (RX5, cX5_init, 1, none, yX5_init)
set_option maxRecDepth 50000 in
theorem fX5_init : qmf mX5_init 0 := ⟨qw_g 234 rfl rfl, qw_g 109 rfl rfl, by decide +kernel, by decide +kernel, by decide +kernel⟩
set_option maxRecDepth 50000 in
theorem iX5_init : Cond.instanceMethod yX5_init ∈ qw_good := qw_g 233 rfl rfl
set_option maxRecDepth 50000 in
theorem lRX5_3 : Cond.methodLink RX5 3 objectInit ∈ qw_good := qw_g 235 rfl rfl
set_option maxRecDepth 50000 in
theorem qRX5_9 : qfL RX5 9 5 0 1 false := ⟨RX5, TX5, 7, tyX5 0, qc_5, by decide, rfl, by decide +kernel, rfl, rfl, rfl, Or.inl (qw_g 236 rfl rfl)⟩
set_option maxRecDepth 50000 in
theorem qRX5_13 : qfL RX5 13 5 1 0 false := ⟨RX5, TX5, 7, tyX5 1, qc_5, by decide, rfl, by decide +kernel, rfl, rfl, rfl, Or.inl (qw_g 238 rfl rfl)⟩
set_option maxRecDepth 50000 in
theorem qRX5_17 : qfL RX5 17 5 2 0 false := ⟨RX5, TX5, 7, tyX5 2, qc_5, by decide, rfl, by decide +kernel, rfl, rfl, rfl, Or.inl (qw_g 240 rfl rfl)⟩
set_option maxRecDepth 50000 in
theorem qRX5_20 : qfL RX5 20 5 3 0 false := ⟨RX5, TX5, 7, tyX5 3, qc_5, by decide, rfl, by decide +kernel, rfl, rfl, rfl, Or.inl (qw_g 242 rfl rfl)⟩
set_option maxRecDepth 50000 in
theorem qRX5_23 : qfL RX5 23 5 4 0 false := ⟨RX5, TX5, 7, tyX5 4, qc_5, by decide, rfl, by decide +kernel, rfl, rfl, rfl, Or.inl (qw_g 244 rfl rfl)⟩
set_option maxRecDepth 50000 in
theorem qRX5_26 : qfL RX5 26 5 5 0 false := ⟨RX5, TX5, 7, tyX5 5, qc_5, by decide, rfl, by decide +kernel, rfl, rfl, rfl, Or.inl (qw_g 246 rfl rfl)⟩
set_option maxRecDepth 50000 in
theorem qRX5_29 : qfL RX5 29 5 6 1 false := ⟨RX5, TX5, 7, tyX5 6, qc_5, by decide, rfl, by decide +kernel, rfl, rfl, rfl, Or.inl (qw_g 248 rfl rfl)⟩
abbrev mX5_start : MI := (RX5, cX5_start, 3, none, yX5_start)
set_option maxRecDepth 50000 in
theorem fX5_start : qmf mX5_start 2 := ⟨qw_g 788 rfl rfl, qw_g 109 rfl rfl, by decide +kernel, by decide +kernel, by decide +kernel⟩
set_option maxRecDepth 50000 in
theorem iX5_start : Cond.instanceMethod yX5_start ∈ qw_good := qw_g 786 rfl rfl
set_option maxRecDepth 50000 in
theorem vX5_start : qmv mX5_start 5 := ⟨TX5, 7, rfl, by decide, iX5_start, qw_g 787 rfl rfl⟩
abbrev mX5_turn : MI := (RX5, cX5_turn, 6, none, yX5_turn)
set_option maxRecDepth 50000 in
theorem fX5_turn : qmf mX5_turn 1 := ⟨qw_g 792 rfl rfl, qw_g 109 rfl rfl, by decide +kernel, by decide +kernel, by decide +kernel⟩
set_option maxRecDepth 50000 in
theorem iX5_turn : Cond.instanceMethod yX5_turn ∈ qw_good := qw_g 790 rfl rfl
set_option maxRecDepth 50000 in
theorem vX5_turn : qmv mX5_turn 5 := ⟨TX5, 7, rfl, by decide, iX5_turn, qw_g 791 rfl rfl⟩
set_option maxRecDepth 50000 in
theorem kRX5_32 : Cond.constant RX5 32 (40002) ∈ qw_good := qw_g 793 rfl rfl
set_option maxRecDepth 50000 in
theorem qRX5_33 : qfL RX5 33 9 0 (10 + 14) true := ⟨RX10, TX10, 3, tyX10 0, qc_9, by decide, rfl, by decide +kernel, rfl, rfl, rfl, Or.inr ⟨"ForeverOffice", qw_n 216 rfl rfl⟩⟩
set_option maxRecDepth 50000 in
theorem qRX5_39 : qfL RX5 39 9 1 (10 + 14) true := ⟨RX10, TX10, 3, tyX10 1, qc_9, by decide, rfl, by decide +kernel, rfl, rfl, rfl, Or.inr ⟨"ForeverOffice", qw_n 219 rfl rfl⟩⟩
set_option maxRecDepth 50000 in
theorem lRX5_42 : Cond.methodLink RX5 42 yX10_after ∈ qw_good := qw_g 794 rfl rfl
set_option maxRecDepth 50000 in
theorem lRX5_46 : Cond.methodLink RX5 46 yX10_before ∈ qw_good := qw_g 795 rfl rfl
set_option maxRecDepth 50000 in
theorem lRX5_49 : Cond.methodLink RX5 49 yJ9_max_7cf53 ∈ qw_good := qw_g 799 rfl rfl
abbrev mX6_init : MI := (RX6, cX6_init, 1, none, yX6_init)
set_option maxRecDepth 50000 in
theorem fX6_init : qmf mX6_init 0 := ⟨qw_g 136 rfl rfl, qw_g 105 rfl rfl, by decide +kernel, by decide +kernel, by decide +kernel⟩
set_option maxRecDepth 50000 in
theorem iX6_init : Cond.instanceMethod yX6_init ∈ qw_good := qw_g 135 rfl rfl
set_option maxRecDepth 50000 in
theorem lRX6_3 : Cond.methodLink RX6 3 objectInit ∈ qw_good := qw_g 137 rfl rfl
set_option maxRecDepth 50000 in
theorem qRX6_9 : qfL RX6 9 6 0 (10 + 13) true := ⟨RX6, TX6, 2, tyX6 0, qc_6, by decide, rfl, by decide +kernel, rfl, rfl, rfl, Or.inl (qw_g 138 rfl rfl)⟩
set_option maxRecDepth 50000 in
theorem FRX6_9 : qfF RX6 9 6 0 (10 + 13) := ⟨TX6, 2, tyX6 0, qc_6, by decide, rfl, by decide +kernel, rfl, rfl, rfl, qw_g 138 rfl rfl⟩
set_option maxRecDepth 50000 in
theorem qRX6_15 : qfL RX6 15 6 1 0 false := ⟨RX6, TX6, 2, tyX6 1, qc_6, by decide, rfl, by decide +kernel, rfl, rfl, rfl, Or.inl (qw_g 139 rfl rfl)⟩
abbrev mX6_append : MI := (RX6, cX6_append, 3, none, yX6_append)
set_option maxRecDepth 50000 in
theorem fX6_append : qmf mX6_append 1 := ⟨qw_g 498 rfl rfl, qw_g 105 rfl rfl, by decide +kernel, by decide +kernel, by decide +kernel⟩
set_option maxRecDepth 50000 in
theorem iX6_append : Cond.instanceMethod yX6_append ∈ qw_good := qw_g 496 rfl rfl
set_option maxRecDepth 50000 in
theorem vX6_append : qmv mX6_append 6 := ⟨TX6, 2, rfl, by decide, iX6_append, qw_g 497 rfl rfl⟩
abbrev mX6_byteAt : MI := (RX6, cX6_byteAt, 2, (some .int), yX6_byteAt)
set_option maxRecDepth 50000 in
theorem fX6_byteAt : qmf mX6_byteAt 1 := ⟨qw_g 521 rfl rfl, qw_g 105 rfl rfl, by decide +kernel, by decide +kernel, by decide +kernel⟩
set_option maxRecDepth 50000 in
theorem iX6_byteAt : Cond.instanceMethod yX6_byteAt ∈ qw_good := qw_g 519 rfl rfl
set_option maxRecDepth 50000 in
theorem vX6_byteAt : qmv mX6_byteAt 6 := ⟨TX6, 2, rfl, by decide, iX6_byteAt, qw_g 520 rfl rfl⟩
abbrev mX7_init : MI := (RX7, cX7_init, 1, none, yX7_init)
set_option maxRecDepth 50000 in
theorem fX7_init : qmf mX7_init 0 := ⟨qw_g 152 rfl rfl, qw_g 106 rfl rfl, by decide +kernel, by decide +kernel, by decide +kernel⟩
set_option maxRecDepth 50000 in
theorem iX7_init : Cond.instanceMethod yX7_init ∈ qw_good := qw_g 151 rfl rfl
set_option maxRecDepth 50000 in
theorem lRX7_3 : Cond.methodLink RX7 3 objectInit ∈ qw_good := qw_g 153 rfl rfl
set_option maxRecDepth 50000 in
theorem qRX7_9 : qfL RX7 9 7 0 (10 + 14) true := ⟨RX7, TX7, 7, tyX7 0, qc_7, by decide, rfl, by decide +kernel, rfl, rfl, rfl, Or.inl (qw_g 154 rfl rfl)⟩
set_option maxRecDepth 50000 in
theorem FRX7_9 : qfF RX7 9 7 0 (10 + 14) := ⟨TX7, 7, tyX7 0, qc_7, by decide, rfl, by decide +kernel, rfl, rfl, rfl, qw_g 154 rfl rfl⟩
set_option maxRecDepth 50000 in
theorem qRX7_15 : qfL RX7 15 7 1 (10 + 14) true := ⟨RX7, TX7, 7, tyX7 1, qc_7, by decide, rfl, by decide +kernel, rfl, rfl, rfl, Or.inl (qw_g 155 rfl rfl)⟩
set_option maxRecDepth 50000 in
theorem FRX7_15 : qfF RX7 15 7 1 (10 + 14) := ⟨TX7, 7, tyX7 1, qc_7, by decide, rfl, by decide +kernel, rfl, rfl, rfl, qw_g 155 rfl rfl⟩
set_option maxRecDepth 50000 in
theorem qRX7_18 : qfL RX7 18 7 2 (10 + 14) true := ⟨RX7, TX7, 7, tyX7 2, qc_7, by decide, rfl, by decide +kernel, rfl, rfl, rfl, Or.inl (qw_g 156 rfl rfl)⟩
set_option maxRecDepth 50000 in
theorem FRX7_18 : qfF RX7 18 7 2 (10 + 14) := ⟨TX7, 7, tyX7 2, qc_7, by decide, rfl, by decide +kernel, rfl, rfl, rfl, qw_g 156 rfl rfl⟩
set_option maxRecDepth 50000 in
theorem qRX7_21 : qfL RX7 21 7 3 0 false := ⟨RX7, TX7, 7, tyX7 3, qc_7, by decide, rfl, by decide +kernel, rfl, rfl, rfl, Or.inl (qw_g 157 rfl rfl)⟩
set_option maxRecDepth 50000 in
theorem qRX7_25 : qfL RX7 25 7 4 0 false := ⟨RX7, TX7, 7, tyX7 4, qc_7, by decide, rfl, by decide +kernel, rfl, rfl, rfl, Or.inl (qw_g 158 rfl rfl)⟩
set_option maxRecDepth 50000 in
theorem qRX7_28 : qfL RX7 28 7 5 1 false := ⟨RX7, TX7, 7, tyX7 5, qc_7, by decide, rfl, by decide +kernel, rfl, rfl, rfl, Or.inl (qw_g 159 rfl rfl)⟩
set_option maxRecDepth 50000 in
theorem qRX7_32 : qfL RX7 32 7 6 0 false := ⟨RX7, TX7, 7, tyX7 6, qc_7, by decide, rfl, by decide +kernel, rfl, rfl, rfl, Or.inl (qw_g 160 rfl rfl)⟩
abbrev mX7_cut : MI := (RX7, cX7_cut, 6, none, yX7_cut)
set_option maxRecDepth 50000 in
theorem fX7_cut : qmf mX7_cut 2 := ⟨qw_g 514 rfl rfl, qw_g 106 rfl rfl, by decide +kernel, by decide +kernel, by decide +kernel⟩
set_option maxRecDepth 50000 in
theorem iX7_cut : Cond.instanceMethod yX7_cut ∈ qw_good := qw_g 512 rfl rfl
set_option maxRecDepth 50000 in
theorem vX7_cut : qmv mX7_cut 7 := ⟨TX7, 7, rfl, by decide, iX7_cut, qw_g 513 rfl rfl⟩
set_option maxRecDepth 50000 in
theorem qRX7_35 : qfL RX7 35 6 1 0 false := ⟨RX6, TX6, 2, tyX6 1, qc_6, by decide, rfl, by decide +kernel, rfl, rfl, rfl, Or.inr ⟨"ForeverOffice", qw_n 140 rfl rfl⟩⟩
set_option maxRecDepth 50000 in
theorem lRX7_40 : Cond.methodLink RX7 40 yJ9_min_7cf53 ∈ qw_good := qw_g 515 rfl rfl
set_option maxRecDepth 50000 in
theorem lRX7_46 : Cond.methodLink RX7 46 yX6_byteAt ∈ qw_good := qw_g 518 rfl rfl
set_option maxRecDepth 50000 in
theorem lRX7_50 : Cond.methodLink RX7 50 yX7_isLetter ∈ qw_good := qw_g 522 rfl rfl
set_option maxRecDepth 50000 in
theorem lRX7_54 : Cond.methodLink RX7 54 yX7_isDigit ∈ qw_good := qw_g 525 rfl rfl
set_option maxRecDepth 50000 in
theorem lRX7_57 : Cond.methodLink RX7 57 yX7_cutWordOrNumber ∈ qw_good := qw_g 528 rfl rfl
set_option maxRecDepth 50000 in
theorem lRX7_61 : Cond.methodLink RX7 61 yJ9_max_7cf53 ∈ qw_good := qw_g 539 rfl rfl
set_option maxRecDepth 50000 in
theorem lRX7_64 : Cond.methodLink RX7 64 yX7_isSingle ∈ qw_good := qw_g 542 rfl rfl
set_option maxRecDepth 50000 in
theorem lRX7_67 : Cond.methodLink RX7 67 yX7_add ∈ qw_good := qw_g 535 rfl rfl
abbrev mX7_cutWordOrNumber : MI := (RX7, cX7_cutWordOrNumber, 9, (some .int), yX7_cutWordOrNumber)
set_option maxRecDepth 50000 in
theorem fX7_cutWordOrNumber : qmf mX7_cutWordOrNumber 2 := ⟨qw_g 531 rfl rfl, qw_g 106 rfl rfl, by decide +kernel, by decide +kernel, by decide +kernel⟩
set_option maxRecDepth 50000 in
theorem iX7_cutWordOrNumber : Cond.instanceMethod yX7_cutWordOrNumber ∈ qw_good := qw_g 530 rfl rfl
set_option maxRecDepth 50000 in
theorem vX7_cutWordOrNumber : qmv mX7_cutWordOrNumber 7 := ⟨TX7, 7, rfl, by decide, iX7_cutWordOrNumber, qw_g 1 rfl rfl⟩
set_option maxRecDepth 50000 in
theorem lRX7_71 : Cond.methodLink RX7 71 yX9_withLetter ∈ qw_good := qw_g 532 rfl rfl
abbrev mX7_add : MI := (RX7, cX7_add, 4, none, yX7_add)
set_option maxRecDepth 50000 in
theorem fX7_add : qmf mX7_add 3 := ⟨qw_g 538 rfl rfl, qw_g 106 rfl rfl, by decide +kernel, by decide +kernel, by decide +kernel⟩
set_option maxRecDepth 50000 in
theorem iX7_add : Cond.instanceMethod yX7_add ∈ qw_good := qw_g 537 rfl rfl
set_option maxRecDepth 50000 in
theorem vX7_add : qmv mX7_add 7 := ⟨TX7, 7, rfl, by decide, iX7_add, qw_g 2 rfl rfl⟩
abbrev mX7_isLetter : MI := (RX7, cX7_isLetter, 1, (some .boolean), yX7_isLetter)
set_option maxRecDepth 50000 in
theorem fX7_isLetter : qmf mX7_isLetter 1 := ⟨qw_g 524 rfl rfl, qw_g 106 rfl rfl, by decide +kernel, by decide +kernel, by decide +kernel⟩
set_option maxRecDepth 50000 in
theorem sX7_isLetter : Cond.static yX7_isLetter ∈ qw_good := qw_g 523 rfl rfl
abbrev mX7_isDigit : MI := (RX7, cX7_isDigit, 1, (some .boolean), yX7_isDigit)
set_option maxRecDepth 50000 in
theorem fX7_isDigit : qmf mX7_isDigit 1 := ⟨qw_g 527 rfl rfl, qw_g 106 rfl rfl, by decide +kernel, by decide +kernel, by decide +kernel⟩
set_option maxRecDepth 50000 in
theorem sX7_isDigit : Cond.static yX7_isDigit ∈ qw_good := qw_g 526 rfl rfl
abbrev mX7_isSingle : MI := (RX7, cX7_isSingle, 1, (some .boolean), yX7_isSingle)
set_option maxRecDepth 50000 in
theorem fX7_isSingle : qmf mX7_isSingle 1 := ⟨qw_g 544 rfl rfl, qw_g 106 rfl rfl, by decide +kernel, by decide +kernel, by decide +kernel⟩
set_option maxRecDepth 50000 in
theorem sX7_isSingle : Cond.static yX7_isSingle ∈ qw_good := qw_g 543 rfl rfl
abbrev mX7_isEnd : MI := (RX7, cX7_isEnd, 1, (some .boolean), yX7_isEnd)
set_option maxRecDepth 50000 in
theorem fX7_isEnd : qmf mX7_isEnd 0 := ⟨qw_g 593 rfl rfl, qw_g 106 rfl rfl, by decide +kernel, by decide +kernel, by decide +kernel⟩
set_option maxRecDepth 50000 in
theorem iX7_isEnd : Cond.instanceMethod yX7_isEnd ∈ qw_good := qw_g 591 rfl rfl
set_option maxRecDepth 50000 in
theorem vX7_isEnd : qmv mX7_isEnd 7 := ⟨TX7, 7, rfl, by decide, iX7_isEnd, qw_g 592 rfl rfl⟩
abbrev mX7_isAnyWord : MI := (RX7, cX7_isAnyWord, 1, (some .boolean), yX7_isAnyWord)
set_option maxRecDepth 50000 in
theorem fX7_isAnyWord : qmf mX7_isAnyWord 0 := ⟨qw_g 634 rfl rfl, qw_g 106 rfl rfl, by decide +kernel, by decide +kernel, by decide +kernel⟩
set_option maxRecDepth 50000 in
theorem iX7_isAnyWord : Cond.instanceMethod yX7_isAnyWord ∈ qw_good := qw_g 632 rfl rfl
set_option maxRecDepth 50000 in
theorem vX7_isAnyWord : qmv mX7_isAnyWord 7 := ⟨TX7, 7, rfl, by decide, iX7_isAnyWord, qw_g 633 rfl rfl⟩
abbrev mX7_isNumber : MI := (RX7, cX7_isNumber, 1, (some .boolean), yX7_isNumber)
set_option maxRecDepth 50000 in
theorem fX7_isNumber : qmf mX7_isNumber 0 := ⟨qw_g 566 rfl rfl, qw_g 106 rfl rfl, by decide +kernel, by decide +kernel, by decide +kernel⟩
set_option maxRecDepth 50000 in
theorem iX7_isNumber : Cond.instanceMethod yX7_isNumber ∈ qw_good := qw_g 564 rfl rfl
set_option maxRecDepth 50000 in
theorem vX7_isNumber : qmv mX7_isNumber 7 := ⟨TX7, 7, rfl, by decide, iX7_isNumber, qw_g 565 rfl rfl⟩
abbrev mX7_isWord : MI := (RX7, cX7_isWord, 2, (some .boolean), yX7_isWord)
set_option maxRecDepth 50000 in
theorem fX7_isWord : qmf mX7_isWord 1 := ⟨qw_g 554 rfl rfl, qw_g 106 rfl rfl, by decide +kernel, by decide +kernel, by decide +kernel⟩
set_option maxRecDepth 50000 in
theorem iX7_isWord : Cond.instanceMethod yX7_isWord ∈ qw_good := qw_g 552 rfl rfl
set_option maxRecDepth 50000 in
theorem vX7_isWord : qmv mX7_isWord 7 := ⟨TX7, 7, rfl, by decide, iX7_isWord, qw_g 553 rfl rfl⟩
set_option maxRecDepth 50000 in
theorem wRX7_76 : Cond.fieldLink RX7 76 "ForeverOffice$Word" "code" "I" ∈ qw_good ∨ ∃ host, Cond.fieldLinkNest RX7 76 "ForeverOffice$Word" "code" "I" host ∈ qw_nest := Or.inr ⟨"ForeverOffice", qw_n 1858 rfl rfl⟩
abbrev mX7_isSign : MI := (RX7, cX7_isSign, 2, (some .boolean), yX7_isSign)
set_option maxRecDepth 50000 in
theorem fX7_isSign : qmf mX7_isSign 1 := ⟨qw_g 589 rfl rfl, qw_g 106 rfl rfl, by decide +kernel, by decide +kernel, by decide +kernel⟩
set_option maxRecDepth 50000 in
theorem iX7_isSign : Cond.instanceMethod yX7_isSign ∈ qw_good := qw_g 587 rfl rfl
set_option maxRecDepth 50000 in
theorem vX7_isSign : qmv mX7_isSign 7 := ⟨TX7, 7, rfl, by decide, iX7_isSign, qw_g 588 rfl rfl⟩
abbrev mX7_knownWord : MI := (RX7, cX7_knownWord, 2, (some (.object "ForeverOffice$Word")), yX7_knownWord)
set_option maxRecDepth 50000 in
theorem fX7_knownWord : qmf mX7_knownWord 0 := ⟨qw_g 607 rfl rfl, qw_g 106 rfl rfl, by decide +kernel, by decide +kernel, by decide +kernel⟩
set_option maxRecDepth 50000 in
theorem iX7_knownWord : Cond.instanceMethod yX7_knownWord ∈ qw_good := qw_g 605 rfl rfl
set_option maxRecDepth 50000 in
theorem vX7_knownWord : qmv mX7_knownWord 7 := ⟨TX7, 7, rfl, by decide, iX7_knownWord, qw_g 606 rfl rfl⟩
set_option maxRecDepth 50000 in
theorem gRX7_79 : ∃ host, Cond.fieldLinkNest RX7 79 "ForeverOffice$Word" "KNOWN" "[LForeverOffice$Word;" host ∈ qw_nest := ⟨"ForeverOffice", qw_n 608 rfl rfl⟩
abbrev mX7_content : MI := (RX7, cX7_content, 1, (some .int), yX7_content)
set_option maxRecDepth 50000 in
theorem fX7_content : qmf mX7_content 0 := ⟨qw_g 570 rfl rfl, qw_g 106 rfl rfl, by decide +kernel, by decide +kernel, by decide +kernel⟩
set_option maxRecDepth 50000 in
theorem iX7_content : Cond.instanceMethod yX7_content ∈ qw_good := qw_g 568 rfl rfl
set_option maxRecDepth 50000 in
theorem vX7_content : qmv mX7_content 7 := ⟨TX7, 7, rfl, by decide, iX7_content, qw_g 569 rfl rfl⟩
abbrev mX7_pass : MI := (RX7, cX7_pass, 1, none, yX7_pass)
set_option maxRecDepth 50000 in
theorem fX7_pass : qmf mX7_pass 0 := ⟨qw_g 562 rfl rfl, qw_g 106 rfl rfl, by decide +kernel, by decide +kernel, by decide +kernel⟩
set_option maxRecDepth 50000 in
theorem iX7_pass : Cond.instanceMethod yX7_pass ∈ qw_good := qw_g 560 rfl rfl
set_option maxRecDepth 50000 in
theorem vX7_pass : qmv mX7_pass 7 := ⟨TX7, 7, rfl, by decide, iX7_pass, qw_g 561 rfl rfl⟩
abbrev mX7_fail : MI := (RX7, cX7_fail, 2, (some .boolean), yX7_fail)
set_option maxRecDepth 50000 in
theorem fX7_fail : qmf mX7_fail 1 := ⟨qw_g 574 rfl rfl, qw_g 106 rfl rfl, by decide +kernel, by decide +kernel, by decide +kernel⟩
set_option maxRecDepth 50000 in
theorem iX7_fail : Cond.instanceMethod yX7_fail ∈ qw_good := qw_g 572 rfl rfl
set_option maxRecDepth 50000 in
theorem vX7_fail : qmv mX7_fail 7 := ⟨TX7, 7, rfl, by decide, iX7_fail, qw_g 573 rfl rfl⟩
abbrev mX7_takeWord : MI := (RX7, cX7_takeWord, 2, (some .boolean), yX7_takeWord)
set_option maxRecDepth 50000 in
theorem fX7_takeWord : qmf mX7_takeWord 1 := ⟨qw_g 652 rfl rfl, qw_g 106 rfl rfl, by decide +kernel, by decide +kernel, by decide +kernel⟩
set_option maxRecDepth 50000 in
theorem iX7_takeWord : Cond.instanceMethod yX7_takeWord ∈ qw_good := qw_g 650 rfl rfl
set_option maxRecDepth 50000 in
theorem vX7_takeWord : qmv mX7_takeWord 7 := ⟨TX7, 7, rfl, by decide, iX7_takeWord, qw_g 651 rfl rfl⟩
set_option maxRecDepth 50000 in
theorem lRX7_83 : Cond.methodLink RX7 83 yX7_isWord ∈ qw_good := qw_g 653 rfl rfl
set_option maxRecDepth 50000 in
theorem lRX7_87 : Cond.methodLink RX7 87 yX7_fail ∈ qw_good := qw_g 580 rfl rfl
set_option maxRecDepth 50000 in
theorem lRX7_90 : Cond.methodLink RX7 90 yX7_pass ∈ qw_good := qw_g 581 rfl rfl
abbrev mX7_takeSign : MI := (RX7, cX7_takeSign, 2, (some .boolean), yX7_takeSign)
set_option maxRecDepth 50000 in
theorem fX7_takeSign : qmf mX7_takeSign 1 := ⟨qw_g 585 rfl rfl, qw_g 106 rfl rfl, by decide +kernel, by decide +kernel, by decide +kernel⟩
set_option maxRecDepth 50000 in
theorem iX7_takeSign : Cond.instanceMethod yX7_takeSign ∈ qw_good := qw_g 583 rfl rfl
set_option maxRecDepth 50000 in
theorem vX7_takeSign : qmv mX7_takeSign 7 := ⟨TX7, 7, rfl, by decide, iX7_takeSign, qw_g 584 rfl rfl⟩
set_option maxRecDepth 50000 in
theorem lRX7_93 : Cond.methodLink RX7 93 yX7_isSign ∈ qw_good := qw_g 586 rfl rfl
abbrev mX7_takeNumber : MI := (RX7, cX7_takeNumber, 4, (some .int), yX7_takeNumber)
set_option maxRecDepth 50000 in
theorem fX7_takeNumber : qmf mX7_takeNumber 2 := ⟨qw_g 578 rfl rfl, qw_g 106 rfl rfl, by decide +kernel, by decide +kernel, by decide +kernel⟩
set_option maxRecDepth 50000 in
theorem iX7_takeNumber : Cond.instanceMethod yX7_takeNumber ∈ qw_good := qw_g 576 rfl rfl
set_option maxRecDepth 50000 in
theorem vX7_takeNumber : qmv mX7_takeNumber 7 := ⟨TX7, 7, rfl, by decide, iX7_takeNumber, qw_g 577 rfl rfl⟩
set_option maxRecDepth 50000 in
theorem lRX7_96 : Cond.methodLink RX7 96 yX7_isNumber ∈ qw_good := qw_g 579 rfl rfl
abbrev mX7_takeEnd : MI := (RX7, cX7_takeEnd, 1, (some .boolean), yX7_takeEnd)
set_option maxRecDepth 50000 in
theorem fX7_takeEnd : qmf mX7_takeEnd 0 := ⟨qw_g 675 rfl rfl, qw_g 106 rfl rfl, by decide +kernel, by decide +kernel, by decide +kernel⟩
set_option maxRecDepth 50000 in
theorem iX7_takeEnd : Cond.instanceMethod yX7_takeEnd ∈ qw_good := qw_g 673 rfl rfl
set_option maxRecDepth 50000 in
theorem vX7_takeEnd : qmv mX7_takeEnd 7 := ⟨TX7, 7, rfl, by decide, iX7_takeEnd, qw_g 674 rfl rfl⟩
set_option maxRecDepth 50000 in
theorem lRX7_100 : Cond.methodLink RX7 100 yX7_isEnd ∈ qw_good := qw_g 676 rfl rfl
abbrev mX7_faultAnswer : MI := (RX7, cX7_faultAnswer, 1, (some .int), yX7_faultAnswer)
set_option maxRecDepth 50000 in
theorem fX7_faultAnswer : qmf mX7_faultAnswer 0 := ⟨qw_g 680 rfl rfl, qw_g 106 rfl rfl, by decide +kernel, by decide +kernel, by decide +kernel⟩
set_option maxRecDepth 50000 in
theorem iX7_faultAnswer : Cond.instanceMethod yX7_faultAnswer ∈ qw_good := qw_g 678 rfl rfl
set_option maxRecDepth 50000 in
theorem vX7_faultAnswer : qmv mX7_faultAnswer 7 := ⟨TX7, 7, rfl, by decide, iX7_faultAnswer, qw_g 679 rfl rfl⟩
abbrev mX8_init : MI := (RX8, cX8_init, 1, none, yX8_init)
set_option maxRecDepth 50000 in
theorem fX8_init : qmf mX8_init 0 := ⟨qw_g 182 rfl rfl, qw_g 107 rfl rfl, by decide +kernel, by decide +kernel, by decide +kernel⟩
set_option maxRecDepth 50000 in
theorem iX8_init : Cond.instanceMethod yX8_init ∈ qw_good := qw_g 181 rfl rfl
set_option maxRecDepth 50000 in
theorem lRX8_3 : Cond.methodLink RX8 3 objectInit ∈ qw_good := qw_g 183 rfl rfl
set_option maxRecDepth 50000 in
theorem qRX8_9 : qfL RX8 9 8 0 (10 + 14) true := ⟨RX8, TX8, 7, tyX8 0, qc_8, by decide, rfl, by decide +kernel, rfl, rfl, rfl, Or.inl (qw_g 184 rfl rfl)⟩
set_option maxRecDepth 50000 in
theorem FRX8_9 : qfF RX8 9 8 0 (10 + 14) := ⟨TX8, 7, tyX8 0, qc_8, by decide, rfl, by decide +kernel, rfl, rfl, rfl, qw_g 184 rfl rfl⟩
set_option maxRecDepth 50000 in
theorem qRX8_15 : qfL RX8 15 8 1 (10 + 14) true := ⟨RX8, TX8, 7, tyX8 1, qc_8, by decide, rfl, by decide +kernel, rfl, rfl, rfl, Or.inl (qw_g 185 rfl rfl)⟩
set_option maxRecDepth 50000 in
theorem FRX8_15 : qfF RX8 15 8 1 (10 + 14) := ⟨TX8, 7, tyX8 1, qc_8, by decide, rfl, by decide +kernel, rfl, rfl, rfl, qw_g 185 rfl rfl⟩
set_option maxRecDepth 50000 in
theorem qRX8_18 : qfL RX8 18 8 2 (10 + 14) true := ⟨RX8, TX8, 7, tyX8 2, qc_8, by decide, rfl, by decide +kernel, rfl, rfl, rfl, Or.inl (qw_g 187 rfl rfl)⟩
set_option maxRecDepth 50000 in
theorem FRX8_18 : qfF RX8 18 8 2 (10 + 14) := ⟨TX8, 7, tyX8 2, qc_8, by decide, rfl, by decide +kernel, rfl, rfl, rfl, qw_g 187 rfl rfl⟩
set_option maxRecDepth 50000 in
theorem qRX8_21 : qfL RX8 21 8 3 (10 + 14) true := ⟨RX8, TX8, 7, tyX8 3, qc_8, by decide, rfl, by decide +kernel, rfl, rfl, rfl, Or.inl (qw_g 188 rfl rfl)⟩
set_option maxRecDepth 50000 in
theorem FRX8_21 : qfF RX8 21 8 3 (10 + 14) := ⟨TX8, 7, tyX8 3, qc_8, by decide, rfl, by decide +kernel, rfl, rfl, rfl, qw_g 188 rfl rfl⟩
set_option maxRecDepth 50000 in
theorem qRX8_24 : qfL RX8 24 8 4 (10 + 14) true := ⟨RX8, TX8, 7, tyX8 4, qc_8, by decide, rfl, by decide +kernel, rfl, rfl, rfl, Or.inl (qw_g 189 rfl rfl)⟩
set_option maxRecDepth 50000 in
theorem FRX8_24 : qfF RX8 24 8 4 (10 + 14) := ⟨TX8, 7, tyX8 4, qc_8, by decide, rfl, by decide +kernel, rfl, rfl, rfl, qw_g 189 rfl rfl⟩
set_option maxRecDepth 50000 in
theorem qRX8_29 : qfL RX8 29 8 5 0 false := ⟨RX8, TX8, 7, tyX8 5, qc_8, by decide, rfl, by decide +kernel, rfl, rfl, rfl, Or.inl (qw_g 190 rfl rfl)⟩
set_option maxRecDepth 50000 in
theorem qRX8_33 : qfL RX8 33 8 6 0 false := ⟨RX8, TX8, 7, tyX8 6, qc_8, by decide, rfl, by decide +kernel, rfl, rfl, rfl, Or.inl (qw_g 192 rfl rfl)⟩
abbrev mX8_tell : MI := (RX8, cX8_tell, 5, none, yX8_tell)
set_option maxRecDepth 50000 in
theorem fX8_tell : qmf mX8_tell 1 := ⟨qw_g 684 rfl rfl, qw_g 107 rfl rfl, by decide +kernel, by decide +kernel, by decide +kernel⟩
set_option maxRecDepth 50000 in
theorem iX8_tell : Cond.instanceMethod yX8_tell ∈ qw_good := qw_g 682 rfl rfl
set_option maxRecDepth 50000 in
theorem vX8_tell : qmv mX8_tell 8 := ⟨TX8, 7, rfl, by decide, iX8_tell, qw_g 683 rfl rfl⟩
set_option maxRecDepth 50000 in
theorem qRX8_36 : qfL RX8 36 1 2 0 false := ⟨RX1, TX1, 4, tyX1 2, qc_1, by decide, rfl, by decide +kernel, rfl, rfl, rfl, Or.inr ⟨"ForeverOffice", qw_n 373 rfl rfl⟩⟩
set_option maxRecDepth 50000 in
theorem qRX8_37 : qfL RX8 37 1 3 0 false := ⟨RX1, TX1, 4, tyX1 3, qc_1, by decide, rfl, by decide +kernel, rfl, rfl, rfl, Or.inr ⟨"ForeverOffice", qw_n 376 rfl rfl⟩⟩
set_option maxRecDepth 50000 in
theorem lRX8_38 : Cond.methodLink RX8 38 yX8_clear ∈ qw_good := qw_g 685 rfl rfl
set_option maxRecDepth 50000 in
theorem qRX8_41 : qfL RX8 41 1 1 0 false := ⟨RX1, TX1, 4, tyX1 1, qc_1, by decide, rfl, by decide +kernel, rfl, rfl, rfl, Or.inr ⟨"ForeverOffice", qw_n 370 rfl rfl⟩⟩
set_option maxRecDepth 50000 in
theorem qRX8_44 : qfL RX8 44 1 0 (10 + 18) true := ⟨RX1, TX1, 4, tyX1 0, qc_1, by decide, rfl, by decide +kernel, rfl, rfl, rfl, Or.inr ⟨"ForeverOffice", qw_n 367 rfl rfl⟩⟩
set_option maxRecDepth 50000 in
theorem lRX8_48 : Cond.methodLink RX8 48 yX8_addStep ∈ qw_good := qw_g 689 rfl rfl
set_option maxRecDepth 50000 in
theorem lRX8_52 : Cond.methodLink RX8 52 yX8_addPlace ∈ qw_good := qw_g 742 rfl rfl
abbrev mX8_clear : MI := (RX8, cX8_clear, 2, none, yX8_clear)
set_option maxRecDepth 50000 in
theorem fX8_clear : qmf mX8_clear 0 := ⟨qw_g 688 rfl rfl, qw_g 107 rfl rfl, by decide +kernel, by decide +kernel, by decide +kernel⟩
set_option maxRecDepth 50000 in
theorem iX8_clear : Cond.instanceMethod yX8_clear ∈ qw_good := qw_g 687 rfl rfl
set_option maxRecDepth 50000 in
theorem vX8_clear : qmv mX8_clear 8 := ⟨TX8, 7, rfl, by decide, iX8_clear, qw_g 12 rfl rfl⟩
abbrev mX8_addStep : MI := (RX8, cX8_addStep, 5, none, yX8_addStep)
set_option maxRecDepth 50000 in
theorem fX8_addStep : qmf mX8_addStep 2 := ⟨qw_g 692 rfl rfl, qw_g 107 rfl rfl, by decide +kernel, by decide +kernel, by decide +kernel⟩
set_option maxRecDepth 50000 in
theorem iX8_addStep : Cond.instanceMethod yX8_addStep ∈ qw_good := qw_g 691 rfl rfl
set_option maxRecDepth 50000 in
theorem vX8_addStep : qmv mX8_addStep 8 := ⟨TX8, 7, rfl, by decide, iX8_addStep, qw_g 13 rfl rfl⟩
set_option maxRecDepth 50000 in
theorem lRX8_55 : Cond.methodLink RX8 55 yX4_givesIn ∈ qw_good := qw_g 693 rfl rfl
set_option maxRecDepth 50000 in
theorem lRX8_61 : Cond.methodLink RX8 61 yJ9_abs_0f7a4 ∈ qw_good := qw_g 736 rfl rfl
set_option maxRecDepth 50000 in
theorem lRX8_67 : Cond.methodLink RX8 67 yX8_addValue ∈ qw_good := qw_g 737 rfl rfl
set_option maxRecDepth 50000 in
theorem qRX8_71 : qfL RX8 71 4 0 0 false := ⟨RX4, TX4, 10, tyX4 0, qc_4, by decide, rfl, by decide +kernel, rfl, rfl, rfl, Or.inr ⟨"ForeverOffice", qw_n 323 rfl rfl⟩⟩
set_option maxRecDepth 50000 in
theorem lRX8_74 : Cond.methodLink RX8 74 yX4_law ∈ qw_good := qw_g 741 rfl rfl
abbrev mX8_addPlace : MI := (RX8, cX8_addPlace, 4, none, yX8_addPlace)
set_option maxRecDepth 50000 in
theorem fX8_addPlace : qmf mX8_addPlace 2 := ⟨qw_g 745 rfl rfl, qw_g 107 rfl rfl, by decide +kernel, by decide +kernel, by decide +kernel⟩
set_option maxRecDepth 50000 in
theorem iX8_addPlace : Cond.instanceMethod yX8_addPlace ∈ qw_good := qw_g 744 rfl rfl
set_option maxRecDepth 50000 in
theorem vX8_addPlace : qmv mX8_addPlace 8 := ⟨TX8, 7, rfl, by decide, iX8_addPlace, qw_g 17 rfl rfl⟩
set_option maxRecDepth 50000 in
theorem lRX8_78 : Cond.methodLink RX8 78 yX4_placeAt ∈ qw_good := qw_g 746 rfl rfl
set_option maxRecDepth 50000 in
theorem lRX8_82 : Cond.methodLink RX8 82 yX4_isWithin ∈ qw_good := qw_g 747 rfl rfl
set_option maxRecDepth 50000 in
theorem lRX8_86 : Cond.methodLink RX8 86 yX4_highOf ∈ qw_good := qw_g 748 rfl rfl
set_option maxRecDepth 50000 in
theorem qRX8_89 : qfL RX8 89 4 3 0 false := ⟨RX4, TX4, 10, tyX4 3, qc_4, by decide, rfl, by decide +kernel, rfl, rfl, rfl, Or.inr ⟨"ForeverOffice", qw_n 331 rfl rfl⟩⟩
set_option maxRecDepth 50000 in
theorem lRX8_92 : Cond.methodLink RX8 92 yX4_armAt ∈ qw_good := qw_g 749 rfl rfl
abbrev mX8_addValue : MI := (RX8, cX8_addValue, 4, none, yX8_addValue)
set_option maxRecDepth 50000 in
theorem fX8_addValue : qmf mX8_addValue 3 := ⟨qw_g 740 rfl rfl, qw_g 107 rfl rfl, by decide +kernel, by decide +kernel, by decide +kernel⟩
set_option maxRecDepth 50000 in
theorem iX8_addValue : Cond.instanceMethod yX8_addValue ∈ qw_good := qw_g 739 rfl rfl
set_option maxRecDepth 50000 in
theorem vX8_addValue : qmv mX8_addValue 8 := ⟨TX8, 7, rfl, by decide, iX8_addValue, qw_g 16 rfl rfl⟩
abbrev mX8_valueAt : MI := (RX8, cX8_valueAt, 3, (some .int), yX8_valueAt)
set_option maxRecDepth 50000 in
theorem fX8_valueAt : qmf mX8_valueAt 2 := ⟨qw_g 888 rfl rfl, qw_g 107 rfl rfl, by decide +kernel, by decide +kernel, by decide +kernel⟩
set_option maxRecDepth 50000 in
theorem iX8_valueAt : Cond.instanceMethod yX8_valueAt ∈ qw_good := qw_g 886 rfl rfl
set_option maxRecDepth 50000 in
theorem vX8_valueAt : qmv mX8_valueAt 8 := ⟨TX8, 7, rfl, by decide, iX8_valueAt, qw_g 887 rfl rfl⟩
abbrev mX8_givenWith : MI := (RX8, cX8_givenWith, 5, (some .int), yX8_givenWith)
set_option maxRecDepth 50000 in
theorem fX8_givenWith : qmf mX8_givenWith 2 := ⟨qw_g 780 rfl rfl, qw_g 107 rfl rfl, by decide +kernel, by decide +kernel, by decide +kernel⟩
set_option maxRecDepth 50000 in
theorem iX8_givenWith : Cond.instanceMethod yX8_givenWith ∈ qw_good := qw_g 778 rfl rfl
set_option maxRecDepth 50000 in
theorem vX8_givenWith : qmv mX8_givenWith 8 := ⟨TX8, 7, rfl, by decide, iX8_givenWith, qw_g 779 rfl rfl⟩
abbrev mX8_rubWith : MI := (RX8, cX8_rubWith, 2, (some .int), yX8_rubWith)
set_option maxRecDepth 50000 in
theorem fX8_rubWith : qmf mX8_rubWith 1 := ⟨qw_g 776 rfl rfl, qw_g 107 rfl rfl, by decide +kernel, by decide +kernel, by decide +kernel⟩
set_option maxRecDepth 50000 in
theorem iX8_rubWith : Cond.instanceMethod yX8_rubWith ∈ qw_good := qw_g 774 rfl rfl
set_option maxRecDepth 50000 in
theorem vX8_rubWith : qmv mX8_rubWith 8 := ⟨TX8, 7, rfl, by decide, iX8_rubWith, qw_g 775 rfl rfl⟩
abbrev mX8_wholeWith : MI := (RX8, cX8_wholeWith, 4, (some .int), yX8_wholeWith)
set_option maxRecDepth 50000 in
theorem fX8_wholeWith : qmf mX8_wholeWith 1 := ⟨qw_g 907 rfl rfl, qw_g 107 rfl rfl, by decide +kernel, by decide +kernel, by decide +kernel⟩
set_option maxRecDepth 50000 in
theorem iX8_wholeWith : Cond.instanceMethod yX8_wholeWith ∈ qw_good := qw_g 905 rfl rfl
set_option maxRecDepth 50000 in
theorem vX8_wholeWith : qmv mX8_wholeWith 8 := ⟨TX8, 7, rfl, by decide, iX8_wholeWith, qw_g 906 rfl rfl⟩
set_option maxRecDepth 50000 in
theorem lRX8_95 : Cond.methodLink RX8 95 yX8_rubWith ∈ qw_good := qw_g 908 rfl rfl
set_option maxRecDepth 50000 in
theorem lRX8_98 : Cond.methodLink RX8 98 yX8_givenWith ∈ qw_good := qw_g 909 rfl rfl
abbrev mX9_withLetter : MI := (RX9, cX9_withLetter, 2, (some .int), yX9_withLetter)
set_option maxRecDepth 50000 in
theorem fX9_withLetter : qmf mX9_withLetter 2 := ⟨qw_g 534 rfl rfl, qw_g 118 rfl rfl, by decide +kernel, by decide +kernel, by decide +kernel⟩
set_option maxRecDepth 50000 in
theorem sX9_withLetter : Cond.static yX9_withLetter ∈ qw_good := qw_g 533 rfl rfl
abbrev mX10_init : MI := (RX10, cX10_init, 1, none, yX10_init)
set_option maxRecDepth 50000 in
theorem fX10_init : qmf mX10_init 0 := ⟨qw_g 212 rfl rfl, qw_g 108 rfl rfl, by decide +kernel, by decide +kernel, by decide +kernel⟩
set_option maxRecDepth 50000 in
theorem iX10_init : Cond.instanceMethod yX10_init ∈ qw_good := qw_g 211 rfl rfl
set_option maxRecDepth 50000 in
theorem lRX10_3 : Cond.methodLink RX10 3 objectInit ∈ qw_good := qw_g 213 rfl rfl
set_option maxRecDepth 50000 in
theorem qRX10_9 : qfL RX10 9 9 0 (10 + 14) true := ⟨RX10, TX10, 3, tyX10 0, qc_9, by decide, rfl, by decide +kernel, rfl, rfl, rfl, Or.inl (qw_g 214 rfl rfl)⟩
set_option maxRecDepth 50000 in
theorem FRX10_9 : qfF RX10 9 9 0 (10 + 14) := ⟨TX10, 3, tyX10 0, qc_9, by decide, rfl, by decide +kernel, rfl, rfl, rfl, qw_g 214 rfl rfl⟩
set_option maxRecDepth 50000 in
theorem qRX10_15 : qfL RX10 15 9 1 (10 + 14) true := ⟨RX10, TX10, 3, tyX10 1, qc_9, by decide, rfl, by decide +kernel, rfl, rfl, rfl, Or.inl (qw_g 218 rfl rfl)⟩
set_option maxRecDepth 50000 in
theorem FRX10_15 : qfF RX10 15 9 1 (10 + 14) := ⟨TX10, 3, tyX10 1, qc_9, by decide, rfl, by decide +kernel, rfl, rfl, rfl, qw_g 218 rfl rfl⟩
set_option maxRecDepth 50000 in
theorem qRX10_18 : qfL RX10 18 9 2 0 false := ⟨RX10, TX10, 3, tyX10 2, qc_9, by decide, rfl, by decide +kernel, rfl, rfl, rfl, Or.inl (qw_g 221 rfl rfl)⟩
abbrev mX10_prepare : MI := (RX10, cX10_prepare, 6, none, yX10_prepare)
set_option maxRecDepth 50000 in
theorem fX10_prepare : qmf mX10_prepare 2 := ⟨qw_g 772 rfl rfl, qw_g 108 rfl rfl, by decide +kernel, by decide +kernel, by decide +kernel⟩
set_option maxRecDepth 50000 in
theorem iX10_prepare : Cond.instanceMethod yX10_prepare ∈ qw_good := qw_g 770 rfl rfl
set_option maxRecDepth 50000 in
theorem vX10_prepare : qmv mX10_prepare 9 := ⟨TX10, 3, rfl, by decide, iX10_prepare, qw_g 771 rfl rfl⟩
set_option maxRecDepth 50000 in
theorem qRX10_22 : qfL RX10 22 8 5 0 false := ⟨RX8, TX8, 7, tyX8 5, qc_8, by decide, rfl, by decide +kernel, rfl, rfl, rfl, Or.inr ⟨"ForeverOffice", qw_n 191 rfl rfl⟩⟩
set_option maxRecDepth 50000 in
theorem lRX10_25 : Cond.methodLink RX10 25 yX8_rubWith ∈ qw_good := qw_g 773 rfl rfl
set_option maxRecDepth 50000 in
theorem lRX10_29 : Cond.methodLink RX10 29 yX8_givenWith ∈ qw_good := qw_g 777 rfl rfl
set_option maxRecDepth 50000 in
theorem lRX10_33 : Cond.methodLink RX10 33 yX10_after ∈ qw_good := qw_g 781 rfl rfl
set_option maxRecDepth 50000 in
theorem qRX10_36 : qfL RX10 36 8 1 (10 + 14) true := ⟨RX8, TX8, 7, tyX8 1, qc_8, by decide, rfl, by decide +kernel, rfl, rfl, rfl, Or.inr ⟨"ForeverOffice", qw_n 186 rfl rfl⟩⟩
abbrev mX10_after : MI := (RX10, cX10_after, 2, (some .int), yX10_after)
set_option maxRecDepth 50000 in
theorem fX10_after : qmf mX10_after 1 := ⟨qw_g 784 rfl rfl, qw_g 108 rfl rfl, by decide +kernel, by decide +kernel, by decide +kernel⟩
set_option maxRecDepth 50000 in
theorem iX10_after : Cond.instanceMethod yX10_after ∈ qw_good := qw_g 782 rfl rfl
set_option maxRecDepth 50000 in
theorem vX10_after : qmv mX10_after 9 := ⟨TX10, 3, rfl, by decide, iX10_after, qw_g 783 rfl rfl⟩
abbrev mX10_before : MI := (RX10, cX10_before, 2, (some .int), yX10_before)
set_option maxRecDepth 50000 in
theorem fX10_before : qmf mX10_before 1 := ⟨qw_g 798 rfl rfl, qw_g 108 rfl rfl, by decide +kernel, by decide +kernel, by decide +kernel⟩
set_option maxRecDepth 50000 in
theorem iX10_before : Cond.instanceMethod yX10_before ∈ qw_good := qw_g 796 rfl rfl
set_option maxRecDepth 50000 in
theorem vX10_before : qmv mX10_before 9 := ⟨TX10, 3, rfl, by decide, iX10_before, qw_g 797 rfl rfl⟩
abbrev mX10_leastFeeding : MI := (RX10, cX10_leastFeeding, 10, (some .int), yX10_leastFeeding)
set_option maxRecDepth 50000 in
theorem fX10_leastFeeding : qmf mX10_leastFeeding 4 := ⟨qw_g 1032 rfl rfl, qw_g 108 rfl rfl, by decide +kernel, by decide +kernel, by decide +kernel⟩
set_option maxRecDepth 50000 in
theorem iX10_leastFeeding : Cond.instanceMethod yX10_leastFeeding ∈ qw_good := qw_g 1030 rfl rfl
set_option maxRecDepth 50000 in
theorem vX10_leastFeeding : qmv mX10_leastFeeding 9 := ⟨TX10, 3, rfl, by decide, iX10_leastFeeding, qw_g 1031 rfl rfl⟩
set_option maxRecDepth 50000 in
theorem lRX10_39 : Cond.methodLink RX10 39 yX10_ceilingOf ∈ qw_good := qw_g 1033 rfl rfl
set_option maxRecDepth 50000 in
theorem lRX10_42 : Cond.methodLink RX10 42 yJ9_max_7cf53 ∈ qw_good := qw_g 1037 rfl rfl
abbrev mX10_ceilingOf : MI := (RX10, cX10_ceilingOf, 2, (some .int), yX10_ceilingOf)
set_option maxRecDepth 50000 in
theorem fX10_ceilingOf : qmf mX10_ceilingOf 2 := ⟨qw_g 1035 rfl rfl, qw_g 108 rfl rfl, by decide +kernel, by decide +kernel, by decide +kernel⟩
set_option maxRecDepth 50000 in
theorem sX10_ceilingOf : Cond.static yX10_ceilingOf ∈ qw_good := qw_g 1034 rfl rfl
set_option maxRecDepth 50000 in
theorem lRX10_47 : Cond.methodLink RX10 47 yJ9_floorDiv_7cf53 ∈ qw_good := qw_g 1036 rfl rfl
abbrev mX11_init : MI := (RX11, cX11_init, 1, none, yX11_init)
set_option maxRecDepth 50000 in
theorem fX11_init : qmf mX11_init 0 := ⟨qw_g 128 rfl rfl, qw_g 104 rfl rfl, by decide +kernel, by decide +kernel, by decide +kernel⟩
set_option maxRecDepth 50000 in
theorem iX11_init : Cond.instanceMethod yX11_init ∈ qw_good := qw_g 127 rfl rfl
set_option maxRecDepth 50000 in
theorem lRX11_1 : Cond.methodLink RX11 1 objectInit ∈ qw_good := qw_g 129 rfl rfl
set_option maxRecDepth 50000 in
theorem cRX11_7 : Cond.classLink RX11 7 "ForeverOffice$Tape" ∈ qw_good := qw_g 132 rfl rfl
set_option maxRecDepth 50000 in
theorem wk_in_ForeverOffice_Tape : Cond.instantiable "ForeverOffice$Tape" 2 ∈ qw_good := qw_g 133 rfl rfl
set_option maxRecDepth 50000 in
theorem wk_it_ForeverOffice_Tape : Cond.initialized "ForeverOffice$Tape" ∈ qw_good := qw_g 105 rfl rfl
set_option maxRecDepth 50000 in
theorem lRX11_9 : Cond.methodLink RX11 9 yX6_init ∈ qw_good ∨ ∃ host, Cond.methodLinkNest RX11 9 yX6_init host ∈ qw_nest := Or.inr ⟨"ForeverOffice", qw_n 134 rfl rfl⟩
set_option maxRecDepth 50000 in
theorem qRX11_10 : qfL RX11 10 10 0 (10 + 6) true := ⟨RX11, TX11, 18, tyX11 0, qc_10, by decide, rfl, by decide +kernel, rfl, rfl, rfl, Or.inl (qw_g 436 rfl rfl)⟩
set_option maxRecDepth 50000 in
theorem FRX11_10 : qfF RX11 10 10 0 (10 + 6) := ⟨TX11, 18, tyX11 0, qc_10, by decide, rfl, by decide +kernel, rfl, rfl, rfl, qw_g 436 rfl rfl⟩
set_option maxRecDepth 50000 in
theorem cRX11_16 : Cond.classLink RX11 16 "ForeverOffice$Tokens" ∈ qw_good := qw_g 148 rfl rfl
set_option maxRecDepth 50000 in
theorem wk_in_ForeverOffice_Tokens : Cond.instantiable "ForeverOffice$Tokens" 7 ∈ qw_good := qw_g 149 rfl rfl
set_option maxRecDepth 50000 in
theorem wk_it_ForeverOffice_Tokens : Cond.initialized "ForeverOffice$Tokens" ∈ qw_good := qw_g 106 rfl rfl
set_option maxRecDepth 50000 in
theorem lRX11_18 : Cond.methodLink RX11 18 yX7_init ∈ qw_good ∨ ∃ host, Cond.methodLinkNest RX11 18 yX7_init host ∈ qw_nest := Or.inr ⟨"ForeverOffice", qw_n 150 rfl rfl⟩
set_option maxRecDepth 50000 in
theorem qRX11_19 : qfL RX11 19 10 1 (10 + 7) true := ⟨RX11, TX11, 18, tyX11 1, qc_10, by decide, rfl, by decide +kernel, rfl, rfl, rfl, Or.inl (qw_g 437 rfl rfl)⟩
set_option maxRecDepth 50000 in
theorem FRX11_19 : qfF RX11 19 10 1 (10 + 7) := ⟨TX11, 18, tyX11 1, qc_10, by decide, rfl, by decide +kernel, rfl, rfl, rfl, qw_g 437 rfl rfl⟩
set_option maxRecDepth 50000 in
theorem cRX11_23 : Cond.classLink RX11 23 "ForeverOffice$Totals" ∈ qw_good := qw_g 178 rfl rfl
set_option maxRecDepth 50000 in
theorem wk_in_ForeverOffice_Totals : Cond.instantiable "ForeverOffice$Totals" 7 ∈ qw_good := qw_g 179 rfl rfl
set_option maxRecDepth 50000 in
theorem wk_it_ForeverOffice_Totals : Cond.initialized "ForeverOffice$Totals" ∈ qw_good := qw_g 107 rfl rfl
set_option maxRecDepth 50000 in
theorem lRX11_25 : Cond.methodLink RX11 25 yX8_init ∈ qw_good ∨ ∃ host, Cond.methodLinkNest RX11 25 yX8_init host ∈ qw_nest := Or.inr ⟨"ForeverOffice", qw_n 180 rfl rfl⟩
set_option maxRecDepth 50000 in
theorem qRX11_26 : qfL RX11 26 10 2 (10 + 8) true := ⟨RX11, TX11, 18, tyX11 2, qc_10, by decide, rfl, by decide +kernel, rfl, rfl, rfl, Or.inl (qw_g 438 rfl rfl)⟩
set_option maxRecDepth 50000 in
theorem FRX11_26 : qfF RX11 26 10 2 (10 + 8) := ⟨TX11, 18, tyX11 2, qc_10, by decide, rfl, by decide +kernel, rfl, rfl, rfl, qw_g 438 rfl rfl⟩
set_option maxRecDepth 50000 in
theorem cRX11_30 : Cond.classLink RX11 30 "ForeverOffice$World" ∈ qw_good := qw_g 208 rfl rfl
set_option maxRecDepth 50000 in
theorem wk_in_ForeverOffice_World : Cond.instantiable "ForeverOffice$World" 3 ∈ qw_good := qw_g 209 rfl rfl
set_option maxRecDepth 50000 in
theorem wk_it_ForeverOffice_World : Cond.initialized "ForeverOffice$World" ∈ qw_good := qw_g 108 rfl rfl
set_option maxRecDepth 50000 in
theorem lRX11_32 : Cond.methodLink RX11 32 yX10_init ∈ qw_good ∨ ∃ host, Cond.methodLinkNest RX11 32 yX10_init host ∈ qw_nest := Or.inr ⟨"ForeverOffice", qw_n 210 rfl rfl⟩
set_option maxRecDepth 50000 in
theorem qRX11_33 : qfL RX11 33 10 3 (10 + 9) true := ⟨RX11, TX11, 18, tyX11 3, qc_10, by decide, rfl, by decide +kernel, rfl, rfl, rfl, Or.inl (qw_g 439 rfl rfl)⟩
set_option maxRecDepth 50000 in
theorem FRX11_33 : qfF RX11 33 10 3 (10 + 9) := ⟨TX11, 18, tyX11 3, qc_10, by decide, rfl, by decide +kernel, rfl, rfl, rfl, qw_g 439 rfl rfl⟩
set_option maxRecDepth 50000 in
theorem cRX11_37 : Cond.classLink RX11 37 "ForeverOffice$Run" ∈ qw_good := qw_g 230 rfl rfl
set_option maxRecDepth 50000 in
theorem wk_in_ForeverOffice_Run : Cond.instantiable "ForeverOffice$Run" 7 ∈ qw_good := qw_g 231 rfl rfl
set_option maxRecDepth 50000 in
theorem wk_it_ForeverOffice_Run : Cond.initialized "ForeverOffice$Run" ∈ qw_good := qw_g 109 rfl rfl
set_option maxRecDepth 50000 in
theorem lRX11_39 : Cond.methodLink RX11 39 yX5_init ∈ qw_good ∨ ∃ host, Cond.methodLinkNest RX11 39 yX5_init host ∈ qw_nest := Or.inr ⟨"ForeverOffice", qw_n 232 rfl rfl⟩
set_option maxRecDepth 50000 in
theorem qRX11_40 : qfL RX11 40 10 4 (10 + 5) true := ⟨RX11, TX11, 18, tyX11 4, qc_10, by decide, rfl, by decide +kernel, rfl, rfl, rfl, Or.inl (qw_g 440 rfl rfl)⟩
set_option maxRecDepth 50000 in
theorem FRX11_40 : qfF RX11 40 10 4 (10 + 5) := ⟨TX11, 18, tyX11 4, qc_10, by decide, rfl, by decide +kernel, rfl, rfl, rfl, qw_g 440 rfl rfl⟩
set_option maxRecDepth 50000 in
theorem qRX11_44 : qfL RX11 44 10 5 (10 + 5) true := ⟨RX11, TX11, 18, tyX11 5, qc_10, by decide, rfl, by decide +kernel, rfl, rfl, rfl, Or.inl (qw_g 441 rfl rfl)⟩
set_option maxRecDepth 50000 in
theorem FRX11_44 : qfF RX11 44 10 5 (10 + 5) := ⟨TX11, 18, tyX11 5, qc_10, by decide, rfl, by decide +kernel, rfl, rfl, rfl, qw_g 441 rfl rfl⟩
set_option maxRecDepth 50000 in
theorem cRX11_47 : Cond.classLink RX11 47 "ForeverOffice$Finds" ∈ qw_good := qw_g 265 rfl rfl
set_option maxRecDepth 50000 in
theorem wk_in_ForeverOffice_Finds : Cond.instantiable "ForeverOffice$Finds" 10 ∈ qw_good := qw_g 266 rfl rfl
set_option maxRecDepth 50000 in
theorem wk_it_ForeverOffice_Finds : Cond.initialized "ForeverOffice$Finds" ∈ qw_good := qw_g 110 rfl rfl
set_option maxRecDepth 50000 in
theorem lRX11_49 : Cond.methodLink RX11 49 yX2_init ∈ qw_good ∨ ∃ host, Cond.methodLinkNest RX11 49 yX2_init host ∈ qw_nest := Or.inr ⟨"ForeverOffice", qw_n 267 rfl rfl⟩
set_option maxRecDepth 50000 in
theorem qRX11_50 : qfL RX11 50 10 6 (10 + 2) true := ⟨RX11, TX11, 18, tyX11 6, qc_10, by decide, rfl, by decide +kernel, rfl, rfl, rfl, Or.inl (qw_g 442 rfl rfl)⟩
set_option maxRecDepth 50000 in
theorem FRX11_50 : qfF RX11 50 10 6 (10 + 2) := ⟨TX11, 18, tyX11 6, qc_10, by decide, rfl, by decide +kernel, rfl, rfl, rfl, qw_g 442 rfl rfl⟩
set_option maxRecDepth 50000 in
theorem cRX11_54 : Cond.classLink RX11 54 "ForeverOffice$Drawing" ∈ qw_good := qw_g 308 rfl rfl
set_option maxRecDepth 50000 in
theorem qRX11_56 : qfL RX11 56 10 7 (10 + 17) true := ⟨RX11, TX11, 18, tyX11 7, qc_10, by decide, rfl, by decide +kernel, rfl, rfl, rfl, Or.inl (qw_g 443 rfl rfl)⟩
set_option maxRecDepth 50000 in
theorem FRX11_56 : qfF RX11 56 10 7 (10 + 17) := ⟨TX11, 18, tyX11 7, qc_10, by decide, rfl, by decide +kernel, rfl, rfl, rfl, qw_g 443 rfl rfl⟩
set_option maxRecDepth 50000 in
theorem qRX11_60 : qfL RX11 60 10 8 (10 + 14) true := ⟨RX11, TX11, 18, tyX11 8, qc_10, by decide, rfl, by decide +kernel, rfl, rfl, rfl, Or.inl (qw_g 444 rfl rfl)⟩
set_option maxRecDepth 50000 in
theorem FRX11_60 : qfF RX11 60 10 8 (10 + 14) := ⟨TX11, 18, tyX11 8, qc_10, by decide, rfl, by decide +kernel, rfl, rfl, rfl, qw_g 444 rfl rfl⟩
set_option maxRecDepth 50000 in
theorem qRX11_66 : qfL RX11 66 10 9 (10 + 14) true := ⟨RX11, TX11, 18, tyX11 9, qc_10, by decide, rfl, by decide +kernel, rfl, rfl, rfl, Or.inl (qw_g 445 rfl rfl)⟩
set_option maxRecDepth 50000 in
theorem FRX11_66 : qfF RX11 66 10 9 (10 + 14) := ⟨TX11, 18, tyX11 9, qc_10, by decide, rfl, by decide +kernel, rfl, rfl, rfl, qw_g 445 rfl rfl⟩
set_option maxRecDepth 50000 in
theorem wk_in_ForeverOffice_Drawing : Cond.instantiable "ForeverOffice$Drawing" 4 ∈ qw_good := qw_g 310 rfl rfl
set_option maxRecDepth 50000 in
theorem wk_it_ForeverOffice_Drawing : Cond.initialized "ForeverOffice$Drawing" ∈ qw_good := qw_g 111 rfl rfl
set_option maxRecDepth 50000 in
theorem lRX11_69 : Cond.methodLink RX11 69 yX1_init ∈ qw_good := qw_g 311 rfl rfl
set_option maxRecDepth 50000 in
theorem qRX11_70 : qfL RX11 70 10 10 (10 + 1) false := ⟨RX11, TX11, 18, tyX11 10, qc_10, by decide, rfl, by decide +kernel, rfl, rfl, rfl, Or.inl (qw_g 446 rfl rfl)⟩
set_option maxRecDepth 50000 in
theorem qRX11_74 : qfL RX11 74 10 11 (10 + 1) false := ⟨RX11, TX11, 18, tyX11 11, qc_10, by decide, rfl, by decide +kernel, rfl, rfl, rfl, Or.inl (qw_g 447 rfl rfl)⟩
set_option maxRecDepth 50000 in
theorem cRX11_77 : Cond.classLink RX11 77 "ForeverOffice$Claim" ∈ qw_good := qw_g 387 rfl rfl
set_option maxRecDepth 50000 in
theorem wk_in_ForeverOffice_Claim : Cond.instantiable "ForeverOffice$Claim" 7 ∈ qw_good := qw_g 388 rfl rfl
set_option maxRecDepth 50000 in
theorem wk_it_ForeverOffice_Claim : Cond.initialized "ForeverOffice$Claim" ∈ qw_good := qw_g 113 rfl rfl
set_option maxRecDepth 50000 in
theorem lRX11_79 : Cond.methodLink RX11 79 yX0_init ∈ qw_good ∨ ∃ host, Cond.methodLinkNest RX11 79 yX0_init host ∈ qw_nest := Or.inr ⟨"ForeverOffice", qw_n 389 rfl rfl⟩
set_option maxRecDepth 50000 in
theorem qRX11_80 : qfL RX11 80 10 12 (10 + 0) false := ⟨RX11, TX11, 18, tyX11 12, qc_10, by decide, rfl, by decide +kernel, rfl, rfl, rfl, Or.inl (qw_g 448 rfl rfl)⟩
set_option maxRecDepth 50000 in
theorem qRX11_84 : qfL RX11 84 10 13 (10 + 0) false := ⟨RX11, TX11, 18, tyX11 13, qc_10, by decide, rfl, by decide +kernel, rfl, rfl, rfl, Or.inl (qw_g 449 rfl rfl)⟩
set_option maxRecDepth 50000 in
theorem cRX11_64 : Cond.classLink RX11 64 "ForeverOffice$Inventor" ∈ qw_good := qw_g 418 rfl rfl
set_option maxRecDepth 50000 in
theorem wk_in_ForeverOffice_Inventor : Cond.instantiable "ForeverOffice$Inventor" 3 ∈ qw_good := qw_g 419 rfl rfl
set_option maxRecDepth 50000 in
theorem wk_it_ForeverOffice_Inventor : Cond.initialized "ForeverOffice$Inventor" ∈ qw_good := qw_g 114 rfl rfl
set_option maxRecDepth 50000 in
theorem lRX11_87 : Cond.methodLink RX11 87 yX3_init ∈ qw_good := qw_g 420 rfl rfl
set_option maxRecDepth 50000 in
theorem qRX11_88 : qfL RX11 88 10 14 (10 + 3) false := ⟨RX11, TX11, 18, tyX11 14, qc_10, by decide, rfl, by decide +kernel, rfl, rfl, rfl, Or.inl (qw_g 450 rfl rfl)⟩
set_option maxRecDepth 50000 in
theorem qRX11_92 : qfL RX11 92 10 15 (10 + 3) false := ⟨RX11, TX11, 18, tyX11 15, qc_10, by decide, rfl, by decide +kernel, rfl, rfl, rfl, Or.inl (qw_g 451 rfl rfl)⟩
set_option maxRecDepth 50000 in
theorem qRX11_95 : qfL RX11 95 10 16 0 false := ⟨RX11, TX11, 18, tyX11 16, qc_10, by decide, rfl, by decide +kernel, rfl, rfl, rfl, Or.inl (qw_g 452 rfl rfl)⟩
set_option maxRecDepth 50000 in
theorem qRX11_99 : qfL RX11 99 10 17 0 false := ⟨RX11, TX11, 18, tyX11 17, qc_10, by decide, rfl, by decide +kernel, rfl, rfl, rfl, Or.inl (qw_g 453 rfl rfl)⟩
abbrev mX11_feed : MI := (RX11, cX11_feed, 6, (some .int), yX11_feed)
set_option maxRecDepth 50000 in
theorem fX11_feed : qmf mX11_feed 5 := ⟨qw_g 494 rfl rfl, qw_g 104 rfl rfl, by decide +kernel, by decide +kernel, by decide +kernel⟩
set_option maxRecDepth 50000 in
theorem iX11_feed : Cond.instanceMethod yX11_feed ∈ qw_good := qw_g 492 rfl rfl
set_option maxRecDepth 50000 in
theorem vX11_feed : qmv mX11_feed 10 := ⟨TX11, 18, rfl, by decide, iX11_feed, qw_g 493 rfl rfl⟩
set_option maxRecDepth 50000 in
theorem qRX11_102 : qfL RX11 102 6 1 0 false := ⟨RX6, TX6, 2, tyX6 1, qc_6, by decide, rfl, by decide +kernel, rfl, rfl, rfl, Or.inr ⟨"ForeverOffice", qw_n 141 rfl rfl⟩⟩
set_option maxRecDepth 50000 in
theorem lRX11_105 : Cond.methodLink RX11 105 yX6_append ∈ qw_good := qw_g 495 rfl rfl
abbrev mX11_end : MI := (RX11, cX11_end, 2, (some .boolean), yX11_end)
set_option maxRecDepth 50000 in
theorem fX11_end : qmf mX11_end 1 := ⟨qw_g 502 rfl rfl, qw_g 104 rfl rfl, by decide +kernel, by decide +kernel, by decide +kernel⟩
set_option maxRecDepth 50000 in
theorem iX11_end : Cond.instanceMethod yX11_end ∈ qw_good := qw_g 500 rfl rfl
set_option maxRecDepth 50000 in
theorem vX11_end : qmv mX11_end 10 := ⟨TX11, 18, rfl, by decide, iX11_end, qw_g 501 rfl rfl⟩
abbrev mX11_drawing : MI := (RX11, cX11_drawing, 2, (some .int), yX11_drawing)
set_option maxRecDepth 50000 in
theorem fX11_drawing : qmf mX11_drawing 0 := ⟨qw_g 506 rfl rfl, qw_g 104 rfl rfl, by decide +kernel, by decide +kernel, by decide +kernel⟩
set_option maxRecDepth 50000 in
theorem iX11_drawing : Cond.instanceMethod yX11_drawing ∈ qw_good := qw_g 504 rfl rfl
set_option maxRecDepth 50000 in
theorem vX11_drawing : qmv mX11_drawing 10 := ⟨TX11, 18, rfl, by decide, iX11_drawing, qw_g 505 rfl rfl⟩
set_option maxRecDepth 50000 in
theorem lRX11_109 : Cond.methodLink RX11 109 yX11_cutTape ∈ qw_good := qw_g 507 rfl rfl
set_option maxRecDepth 50000 in
theorem lRX11_112 : Cond.methodLink RX11 112 yX1_readFrom ∈ qw_good := qw_g 545 rfl rfl
set_option maxRecDepth 50000 in
theorem lRX11_116 : Cond.methodLink RX11 116 yX7_faultAnswer ∈ qw_good := qw_g 677 rfl rfl
set_option maxRecDepth 50000 in
theorem lRX11_120 : Cond.methodLink RX11 120 yX8_tell ∈ qw_good := qw_g 681 rfl rfl
set_option maxRecDepth 50000 in
theorem qRX11_124 : qfL RX11 124 1 1 0 false := ⟨RX1, TX1, 4, tyX1 1, qc_1, by decide, rfl, by decide +kernel, rfl, rfl, rfl, Or.inr ⟨"ForeverOffice", qw_n 371 rfl rfl⟩⟩
abbrev mX11_fault : MI := (RX11, cX11_fault, 1, (some .int), yX11_fault)
set_option maxRecDepth 50000 in
theorem fX11_fault : qmf mX11_fault 0 := ⟨qw_g 753 rfl rfl, qw_g 104 rfl rfl, by decide +kernel, by decide +kernel, by decide +kernel⟩
set_option maxRecDepth 50000 in
theorem iX11_fault : Cond.instanceMethod yX11_fault ∈ qw_good := qw_g 751 rfl rfl
set_option maxRecDepth 50000 in
theorem vX11_fault : qmv mX11_fault 10 := ⟨TX11, 18, rfl, by decide, iX11_fault, qw_g 752 rfl rfl⟩
set_option maxRecDepth 50000 in
theorem qRX11_127 : qfL RX11 127 7 6 0 false := ⟨RX7, TX7, 7, tyX7 6, qc_7, by decide, rfl, by decide +kernel, rfl, rfl, rfl, Or.inr ⟨"ForeverOffice", qw_n 161 rfl rfl⟩⟩
abbrev mX11_place : MI := (RX11, cX11_place, 3, (some .int), yX11_place)
set_option maxRecDepth 50000 in
theorem fX11_place : qmf mX11_place 2 := ⟨qw_g 1142 rfl rfl, qw_g 104 rfl rfl, by decide +kernel, by decide +kernel, by decide +kernel⟩
set_option maxRecDepth 50000 in
theorem iX11_place : Cond.instanceMethod yX11_place ∈ qw_good := qw_g 1140 rfl rfl
set_option maxRecDepth 50000 in
theorem vX11_place : qmv mX11_place 10 := ⟨TX11, 18, rfl, by decide, iX11_place, qw_g 1141 rfl rfl⟩
set_option maxRecDepth 50000 in
theorem lRX11_130 : Cond.methodLink RX11 130 yX11_isPart ∈ qw_good := qw_g 1143 rfl rfl
set_option maxRecDepth 50000 in
theorem lRX11_134 : Cond.methodLink RX11 134 yX11_isPlace ∈ qw_good := qw_g 758 rfl rfl
set_option maxRecDepth 50000 in
theorem cRX11_137 : Cond.classLink RX11 137 "java/util/NoSuchElementException" ∈ qw_good := qw_g 1147 rfl rfl
set_option maxRecDepth 50000 in
theorem wk_in_java_util_NoSuchElementException : Cond.instantiable "java/util/NoSuchElementException" 6 ∈ qw_good := qw_g 1148 rfl rfl
set_option maxRecDepth 50000 in
theorem wk_it_java_util_NoSuchElementException : Cond.initialized "java/util/NoSuchElementException" ∈ qw_good := qw_g 122 rfl rfl
set_option maxRecDepth 50000 in
theorem qRX11_144 : qfL RX11 144 1 0 (10 + 18) true := ⟨RX1, TX1, 4, tyX1 0, qc_1, by decide, rfl, by decide +kernel, rfl, rfl, rfl, Or.inr ⟨"ForeverOffice", qw_n 368 rfl rfl⟩⟩
set_option maxRecDepth 50000 in
theorem qRX11_148 : qfL RX11 148 1 2 0 false := ⟨RX1, TX1, 4, tyX1 2, qc_1, by decide, rfl, by decide +kernel, rfl, rfl, rfl, Or.inr ⟨"ForeverOffice", qw_n 374 rfl rfl⟩⟩
set_option maxRecDepth 50000 in
theorem lRX11_151 : Cond.methodLink RX11 151 yX4_placeAt ∈ qw_good := qw_g 1212 rfl rfl
abbrev mX11_energy : MI := (RX11, cX11_energy, 3, (some .int), yX11_energy)
set_option maxRecDepth 50000 in
theorem fX11_energy : qmf mX11_energy 2 := ⟨qw_g 1219 rfl rfl, qw_g 104 rfl rfl, by decide +kernel, by decide +kernel, by decide +kernel⟩
set_option maxRecDepth 50000 in
theorem iX11_energy : Cond.instanceMethod yX11_energy ∈ qw_good := qw_g 1217 rfl rfl
set_option maxRecDepth 50000 in
theorem vX11_energy : qmv mX11_energy 10 := ⟨TX11, 18, rfl, by decide, iX11_energy, qw_g 1218 rfl rfl⟩
set_option maxRecDepth 50000 in
theorem lRX11_159 : Cond.methodLink RX11 159 yX4_energyAt ∈ qw_good := qw_g 1221 rfl rfl
abbrev mX11_gives : MI := (RX11, cX11_gives, 4, (some .int), yX11_gives)
set_option maxRecDepth 50000 in
theorem fX11_gives : qmf mX11_gives 3 := ⟨qw_g 1228 rfl rfl, qw_g 104 rfl rfl, by decide +kernel, by decide +kernel, by decide +kernel⟩
set_option maxRecDepth 50000 in
theorem iX11_gives : Cond.instanceMethod yX11_gives ∈ qw_good := qw_g 1226 rfl rfl
set_option maxRecDepth 50000 in
theorem vX11_gives : qmv mX11_gives 10 := ⟨TX11, 18, rfl, by decide, iX11_gives, qw_g 1227 rfl rfl⟩
set_option maxRecDepth 50000 in
theorem lRX11_162 : Cond.methodLink RX11 162 yX11_isLawSet ∈ qw_good := qw_g 766 rfl rfl
set_option maxRecDepth 50000 in
theorem lRX11_167 : Cond.methodLink RX11 167 yX4_givesIn ∈ qw_good := qw_g 1230 rfl rfl
abbrev mX11_sum : MI := (RX11, cX11_sum, 3, (some .int), yX11_sum)
set_option maxRecDepth 50000 in
theorem fX11_sum : qmf mX11_sum 2 := ⟨qw_g 1237 rfl rfl, qw_g 104 rfl rfl, by decide +kernel, by decide +kernel, by decide +kernel⟩
set_option maxRecDepth 50000 in
theorem iX11_sum : Cond.instanceMethod yX11_sum ∈ qw_good := qw_g 1235 rfl rfl
set_option maxRecDepth 50000 in
theorem vX11_sum : qmv mX11_sum 10 := ⟨TX11, 18, rfl, by decide, iX11_sum, qw_g 1236 rfl rfl⟩
set_option maxRecDepth 50000 in
theorem lRX11_173 : Cond.methodLink RX11 173 yX8_wholeWith ∈ qw_good := qw_g 904 rfl rfl
set_option maxRecDepth 50000 in
theorem lRX11_177 : Cond.methodLink RX11 177 yX4_sumWith ∈ qw_good := qw_g 927 rfl rfl
abbrev mX11_run : MI := (RX11, cX11_run, 4, (some .int), yX11_run)
set_option maxRecDepth 50000 in
theorem fX11_run : qmf mX11_run 3 := ⟨qw_g 757 rfl rfl, qw_g 104 rfl rfl, by decide +kernel, by decide +kernel, by decide +kernel⟩
set_option maxRecDepth 50000 in
theorem iX11_run : Cond.instanceMethod yX11_run ∈ qw_good := qw_g 755 rfl rfl
set_option maxRecDepth 50000 in
theorem vX11_run : qmv mX11_run 10 := ⟨TX11, 18, rfl, by decide, iX11_run, qw_g 756 rfl rfl⟩
set_option maxRecDepth 50000 in
theorem lRX11_180 : Cond.methodLink RX11 180 yX11_isPush ∈ qw_good := qw_g 762 rfl rfl
set_option maxRecDepth 50000 in
theorem lRX11_183 : Cond.methodLink RX11 183 yX10_prepare ∈ qw_good := qw_g 769 rfl rfl
set_option maxRecDepth 50000 in
theorem lRX11_187 : Cond.methodLink RX11 187 yX5_start ∈ qw_good := qw_g 785 rfl rfl
set_option maxRecDepth 50000 in
theorem lRX11_191 : Cond.methodLink RX11 191 yX5_turn ∈ qw_good := qw_g 789 rfl rfl
set_option maxRecDepth 50000 in
theorem qRX11_195 : qfL RX11 195 5 3 0 false := ⟨RX5, TX5, 7, tyX5 3, qc_5, by decide, rfl, by decide +kernel, rfl, rfl, rfl, Or.inr ⟨"ForeverOffice", qw_n 243 rfl rfl⟩⟩
abbrev mX11_ran : MI := (RX11, cX11_ran, 2, (some .int), yX11_ran)
set_option maxRecDepth 50000 in
theorem fX11_ran : qmf mX11_ran 1 := ⟨qw_g 803 rfl rfl, qw_g 104 rfl rfl, by decide +kernel, by decide +kernel, by decide +kernel⟩
set_option maxRecDepth 50000 in
theorem iX11_ran : Cond.instanceMethod yX11_ran ∈ qw_good := qw_g 801 rfl rfl
set_option maxRecDepth 50000 in
theorem vX11_ran : qmv mX11_ran 10 := ⟨TX11, 18, rfl, by decide, iX11_ran, qw_g 802 rfl rfl⟩
set_option maxRecDepth 50000 in
theorem qRX11_198 : qfL RX11 198 5 0 1 false := ⟨RX5, TX5, 7, tyX5 0, qc_5, by decide, rfl, by decide +kernel, rfl, rfl, rfl, Or.inr ⟨"ForeverOffice", qw_n 237 rfl rfl⟩⟩
set_option maxRecDepth 50000 in
theorem qRX11_202 : qfL RX11 202 5 1 0 false := ⟨RX5, TX5, 7, tyX5 1, qc_5, by decide, rfl, by decide +kernel, rfl, rfl, rfl, Or.inr ⟨"ForeverOffice", qw_n 239 rfl rfl⟩⟩
set_option maxRecDepth 50000 in
theorem qRX11_205 : qfL RX11 205 5 2 0 false := ⟨RX5, TX5, 7, tyX5 2, qc_5, by decide, rfl, by decide +kernel, rfl, rfl, rfl, Or.inr ⟨"ForeverOffice", qw_n 241 rfl rfl⟩⟩
set_option maxRecDepth 50000 in
theorem qRX11_208 : qfL RX11 208 5 4 0 false := ⟨RX5, TX5, 7, tyX5 4, qc_5, by decide, rfl, by decide +kernel, rfl, rfl, rfl, Or.inr ⟨"ForeverOffice", qw_n 245 rfl rfl⟩⟩
set_option maxRecDepth 50000 in
theorem qRX11_211 : qfL RX11 211 5 5 0 false := ⟨RX5, TX5, 7, tyX5 5, qc_5, by decide, rfl, by decide +kernel, rfl, rfl, rfl, Or.inr ⟨"ForeverOffice", qw_n 247 rfl rfl⟩⟩
set_option maxRecDepth 50000 in
theorem qRX11_214 : qfL RX11 214 5 6 1 false := ⟨RX5, TX5, 7, tyX5 6, qc_5, by decide, rfl, by decide +kernel, rfl, rfl, rfl, Or.inr ⟨"ForeverOffice", qw_n 249 rfl rfl⟩⟩
abbrev mX11_stands : MI := (RX11, cX11_stands, 3, (some .int), yX11_stands)
set_option maxRecDepth 50000 in
theorem fX11_stands : qmf mX11_stands 1 := ⟨qw_g 807 rfl rfl, qw_g 104 rfl rfl, by decide +kernel, by decide +kernel, by decide +kernel⟩
set_option maxRecDepth 50000 in
theorem iX11_stands : Cond.instanceMethod yX11_stands ∈ qw_good := qw_g 805 rfl rfl
set_option maxRecDepth 50000 in
theorem vX11_stands : qmv mX11_stands 10 := ⟨TX11, 18, rfl, by decide, iX11_stands, qw_g 806 rfl rfl⟩
set_option maxRecDepth 50000 in
theorem qRX11_217 : qfL RX11 217 9 0 (10 + 14) true := ⟨RX10, TX10, 3, tyX10 0, qc_9, by decide, rfl, by decide +kernel, rfl, rfl, rfl, Or.inr ⟨"ForeverOffice", qw_n 217 rfl rfl⟩⟩
set_option maxRecDepth 50000 in
theorem qRX11_220 : qfL RX11 220 9 1 (10 + 14) true := ⟨RX10, TX10, 3, tyX10 1, qc_9, by decide, rfl, by decide +kernel, rfl, rfl, rfl, Or.inr ⟨"ForeverOffice", qw_n 220 rfl rfl⟩⟩
abbrev mX11_stand : MI := (RX11, cX11_stand, 2, (some .int), yX11_stand)
set_option maxRecDepth 50000 in
theorem fX11_stand : qmf mX11_stand 1 := ⟨qw_g 811 rfl rfl, qw_g 104 rfl rfl, by decide +kernel, by decide +kernel, by decide +kernel⟩
set_option maxRecDepth 50000 in
theorem iX11_stand : Cond.instanceMethod yX11_stand ∈ qw_good := qw_g 809 rfl rfl
set_option maxRecDepth 50000 in
theorem vX11_stand : qmv mX11_stand 10 := ⟨TX11, 18, rfl, by decide, iX11_stand, qw_g 810 rfl rfl⟩
abbrev mX11_claim : MI := (RX11, cX11_claim, 2, (some .int), yX11_claim)
set_option maxRecDepth 50000 in
theorem fX11_claim : qmf mX11_claim 0 := ⟨qw_g 815 rfl rfl, qw_g 104 rfl rfl, by decide +kernel, by decide +kernel, by decide +kernel⟩
set_option maxRecDepth 50000 in
theorem iX11_claim : Cond.instanceMethod yX11_claim ∈ qw_good := qw_g 813 rfl rfl
set_option maxRecDepth 50000 in
theorem vX11_claim : qmv mX11_claim 10 := ⟨TX11, 18, rfl, by decide, iX11_claim, qw_g 814 rfl rfl⟩
set_option maxRecDepth 50000 in
theorem lRX11_223 : Cond.methodLink RX11 223 yX0_readFrom ∈ qw_good := qw_g 816 rfl rfl
set_option maxRecDepth 50000 in
theorem qRX11_224 : qfL RX11 224 0 6 0 false := ⟨RX0, TX0, 7, tyX0 6, qc_0, by decide, rfl, by decide +kernel, rfl, rfl, rfl, Or.inr ⟨"ForeverOffice", qw_n 401 rfl rfl⟩⟩
abbrev mX11_holds : MI := (RX11, cX11_holds, 1, (some .int), yX11_holds)
set_option maxRecDepth 50000 in
theorem fX11_holds : qmf mX11_holds 0 := ⟨qw_g 873 rfl rfl, qw_g 104 rfl rfl, by decide +kernel, by decide +kernel, by decide +kernel⟩
set_option maxRecDepth 50000 in
theorem iX11_holds : Cond.instanceMethod yX11_holds ∈ qw_good := qw_g 871 rfl rfl
set_option maxRecDepth 50000 in
theorem vX11_holds : qmv mX11_holds 10 := ⟨TX11, 18, rfl, by decide, iX11_holds, qw_g 872 rfl rfl⟩
set_option maxRecDepth 50000 in
theorem qRX11_227 : qfL RX11 227 0 4 0 false := ⟨RX0, TX0, 7, tyX0 4, qc_0, by decide, rfl, by decide +kernel, rfl, rfl, rfl, Or.inr ⟨"ForeverOffice", qw_n 398 rfl rfl⟩⟩
set_option maxRecDepth 50000 in
theorem lRX11_230 : Cond.methodLink RX11 230 yX11_firstAtWhichClaimIs ∈ qw_good := qw_g 874 rfl rfl
set_option maxRecDepth 50000 in
theorem lRX11_234 : Cond.methodLink RX11 234 yX0_isSoAt ∈ qw_good := qw_g 878 rfl rfl
abbrev mX11_where : MI := (RX11, cX11_where, 1, (some .int), yX11_where)
set_option maxRecDepth 50000 in
theorem fX11_where : qmf mX11_where 0 := ⟨qw_g 895 rfl rfl, qw_g 104 rfl rfl, by decide +kernel, by decide +kernel, by decide +kernel⟩
set_option maxRecDepth 50000 in
theorem iX11_where : Cond.instanceMethod yX11_where ∈ qw_good := qw_g 893 rfl rfl
set_option maxRecDepth 50000 in
theorem vX11_where : qmv mX11_where 10 := ⟨TX11, 18, rfl, by decide, iX11_where, qw_g 894 rfl rfl⟩
abbrev mX11_value : MI := (RX11, cX11_value, 3, (some .int), yX11_value)
set_option maxRecDepth 50000 in
theorem fX11_value : qmf mX11_value 2 := ⟨qw_g 1245 rfl rfl, qw_g 104 rfl rfl, by decide +kernel, by decide +kernel, by decide +kernel⟩
set_option maxRecDepth 50000 in
theorem iX11_value : Cond.instanceMethod yX11_value ∈ qw_good := qw_g 1243 rfl rfl
set_option maxRecDepth 50000 in
theorem vX11_value : qmv mX11_value 10 := ⟨TX11, 18, rfl, by decide, iX11_value, qw_g 1244 rfl rfl⟩
set_option maxRecDepth 50000 in
theorem lRX11_240 : Cond.methodLink RX11 240 yX8_valueAt ∈ qw_good := qw_g 1077 rfl rfl
abbrev mX11_goes : MI := (RX11, cX11_goes, 2, (some .int), yX11_goes)
set_option maxRecDepth 50000 in
theorem fX11_goes : qmf mX11_goes 1 := ⟨qw_g 899 rfl rfl, qw_g 104 rfl rfl, by decide +kernel, by decide +kernel, by decide +kernel⟩
set_option maxRecDepth 50000 in
theorem iX11_goes : Cond.instanceMethod yX11_goes ∈ qw_good := qw_g 897 rfl rfl
set_option maxRecDepth 50000 in
theorem vX11_goes : qmv mX11_goes 10 := ⟨TX11, 18, rfl, by decide, iX11_goes, qw_g 898 rfl rfl⟩
set_option maxRecDepth 50000 in
theorem lRX11_243 : Cond.methodLink RX11 243 yX11_goers ∈ qw_good := qw_g 900 rfl rfl
set_option maxRecDepth 50000 in
theorem lRX11_246 : Cond.methodLink RX11 246 yJ6_bitCount_0f7a4 ∈ qw_good := qw_g 910 rfl rfl
abbrev mX11_least : MI := (RX11, cX11_least, 5, (some .int), yX11_least)
set_option maxRecDepth 50000 in
theorem fX11_least : qmf mX11_least 1 := ⟨qw_g 919 rfl rfl, qw_g 104 rfl rfl, by decide +kernel, by decide +kernel, by decide +kernel⟩
set_option maxRecDepth 50000 in
theorem iX11_least : Cond.instanceMethod yX11_least ∈ qw_good := qw_g 917 rfl rfl
set_option maxRecDepth 50000 in
theorem vX11_least : qmv mX11_least 10 := ⟨TX11, 18, rfl, by decide, iX11_least, qw_g 918 rfl rfl⟩
set_option maxRecDepth 50000 in
theorem lRX11_251 : Cond.methodLink RX11 251 yX11_isLeastOf ∈ qw_good := qw_g 920 rfl rfl
abbrev mX11_needs : MI := (RX11, cX11_needs, 5, (some .int), yX11_needs)
set_option maxRecDepth 50000 in
theorem fX11_needs : qmf mX11_needs 1 := ⟨qw_g 926 rfl rfl, qw_g 104 rfl rfl, by decide +kernel, by decide +kernel, by decide +kernel⟩
set_option maxRecDepth 50000 in
theorem iX11_needs : Cond.instanceMethod yX11_needs ∈ qw_good := qw_g 924 rfl rfl
set_option maxRecDepth 50000 in
theorem vX11_needs : qmv mX11_needs 10 := ⟨TX11, 18, rfl, by decide, iX11_needs, qw_g 925 rfl rfl⟩
abbrev mX11_hidden : MI := (RX11, cX11_hidden, 5, (some .int), yX11_hidden)
set_option maxRecDepth 50000 in
theorem fX11_hidden : qmf mX11_hidden 2 := ⟨qw_g 935 rfl rfl, qw_g 104 rfl rfl, by decide +kernel, by decide +kernel, by decide +kernel⟩
set_option maxRecDepth 50000 in
theorem iX11_hidden : Cond.instanceMethod yX11_hidden ∈ qw_good := qw_g 933 rfl rfl
set_option maxRecDepth 50000 in
theorem vX11_hidden : qmv mX11_hidden 10 := ⟨TX11, 18, rfl, by decide, iX11_hidden, qw_g 934 rfl rfl⟩
set_option maxRecDepth 50000 in
theorem lRX11_255 : Cond.methodLink RX11 255 yX2_show ∈ qw_good := qw_g 936 rfl rfl
set_option maxRecDepth 50000 in
theorem lRX11_259 : Cond.methodLink RX11 259 yX2_comesWithout ∈ qw_good := qw_g 942 rfl rfl
set_option maxRecDepth 50000 in
theorem lRX11_263 : Cond.methodLink RX11 263 yX2_search ∈ qw_good := qw_g 947 rfl rfl
set_option maxRecDepth 50000 in
theorem qRX11_267 : qfL RX11 267 2 5 0 false := ⟨RX2, TX2, 10, tyX2 5, qc_2, by decide, rfl, by decide +kernel, rfl, rfl, rfl, Or.inr ⟨"ForeverOffice", qw_n 280 rfl rfl⟩⟩
abbrev mX11_hiddenAt : MI := (RX11, cX11_hiddenAt, 3, (some .int), yX11_hiddenAt)
set_option maxRecDepth 50000 in
theorem fX11_hiddenAt : qmf mX11_hiddenAt 2 := ⟨qw_g 966 rfl rfl, qw_g 104 rfl rfl, by decide +kernel, by decide +kernel, by decide +kernel⟩
set_option maxRecDepth 50000 in
theorem iX11_hiddenAt : Cond.instanceMethod yX11_hiddenAt ∈ qw_good := qw_g 964 rfl rfl
set_option maxRecDepth 50000 in
theorem vX11_hiddenAt : qmv mX11_hiddenAt 10 := ⟨TX11, 18, rfl, by decide, iX11_hiddenAt, qw_g 965 rfl rfl⟩
set_option maxRecDepth 50000 in
theorem lRX11_270 : Cond.methodLink RX11 270 yJ9_min_7cf53 ∈ qw_good := qw_g 967 rfl rfl
set_option maxRecDepth 50000 in
theorem qRX11_275 : qfL RX11 275 2 1 (10 + 14) true := ⟨RX2, TX2, 10, tyX2 1, qc_2, by decide, rfl, by decide +kernel, rfl, rfl, rfl, Or.inr ⟨"ForeverOffice", qw_n 273 rfl rfl⟩⟩
set_option maxRecDepth 50000 in
theorem qRX11_277 : qfL RX11 277 2 2 (10 + 14) true := ⟨RX2, TX2, 10, tyX2 2, qc_2, by decide, rfl, by decide +kernel, rfl, rfl, rfl, Or.inr ⟨"ForeverOffice", qw_n 275 rfl rfl⟩⟩
abbrev mX11_looks : MI := (RX11, cX11_looks, 3, (some .int), yX11_looks)
set_option maxRecDepth 50000 in
theorem fX11_looks : qmf mX11_looks 0 := ⟨qw_g 971 rfl rfl, qw_g 104 rfl rfl, by decide +kernel, by decide +kernel, by decide +kernel⟩
set_option maxRecDepth 50000 in
theorem iX11_looks : Cond.instanceMethod yX11_looks ∈ qw_good := qw_g 969 rfl rfl
set_option maxRecDepth 50000 in
theorem vX11_looks : qmv mX11_looks 10 := ⟨TX11, 18, rfl, by decide, iX11_looks, qw_g 970 rfl rfl⟩
set_option maxRecDepth 50000 in
theorem qRX11_280 : qfL RX11 280 2 4 1 false := ⟨RX2, TX2, 10, tyX2 4, qc_2, by decide, rfl, by decide +kernel, rfl, rfl, rfl, Or.inr ⟨"ForeverOffice", qw_n 278 rfl rfl⟩⟩
set_option maxRecDepth 50000 in
theorem lRX11_283 : Cond.methodLink RX11 283 yX2_readLooks ∈ qw_good := qw_g 972 rfl rfl
set_option maxRecDepth 50000 in
theorem lRX11_286 : Cond.methodLink RX11 286 yX2_fewestLooks ∈ qw_good := qw_g 976 rfl rfl
abbrev mX11_lookSet : MI := (RX11, cX11_lookSet, 1, (some .int), yX11_lookSet)
set_option maxRecDepth 50000 in
theorem fX11_lookSet : qmf mX11_lookSet 0 := ⟨qw_g 989 rfl rfl, qw_g 104 rfl rfl, by decide +kernel, by decide +kernel, by decide +kernel⟩
set_option maxRecDepth 50000 in
theorem iX11_lookSet : Cond.instanceMethod yX11_lookSet ∈ qw_good := qw_g 987 rfl rfl
set_option maxRecDepth 50000 in
theorem vX11_lookSet : qmv mX11_lookSet 10 := ⟨TX11, 18, rfl, by decide, iX11_lookSet, qw_g 988 rfl rfl⟩
set_option maxRecDepth 50000 in
theorem qRX11_289 : qfL RX11 289 2 9 0 false := ⟨RX2, TX2, 10, tyX2 9, qc_2, by decide, rfl, by decide +kernel, rfl, rfl, rfl, Or.inr ⟨"ForeverOffice", qw_n 285 rfl rfl⟩⟩
abbrev mX11_keep : MI := (RX11, cX11_keep, 2, (some .boolean), yX11_keep)
set_option maxRecDepth 50000 in
theorem fX11_keep : qmf mX11_keep 1 := ⟨qw_g 993 rfl rfl, qw_g 104 rfl rfl, by decide +kernel, by decide +kernel, by decide +kernel⟩
set_option maxRecDepth 50000 in
theorem iX11_keep : Cond.instanceMethod yX11_keep ∈ qw_good := qw_g 991 rfl rfl
set_option maxRecDepth 50000 in
theorem vX11_keep : qmv mX11_keep 10 := ⟨TX11, 18, rfl, by decide, iX11_keep, qw_g 992 rfl rfl⟩
set_option maxRecDepth 50000 in
theorem lRX11_292 : Cond.methodLink RX11 292 yX1_copyFrom ∈ qw_good := qw_g 994 rfl rfl
abbrev mX11_same : MI := (RX11, cX11_same, 2, (some .int), yX11_same)
set_option maxRecDepth 50000 in
theorem fX11_same : qmf mX11_same 1 := ⟨qw_g 1005 rfl rfl, qw_g 104 rfl rfl, by decide +kernel, by decide +kernel, by decide +kernel⟩
set_option maxRecDepth 50000 in
theorem iX11_same : Cond.instanceMethod yX11_same ∈ qw_good := qw_g 1003 rfl rfl
set_option maxRecDepth 50000 in
theorem vX11_same : qmv mX11_same 10 := ⟨TX11, 18, rfl, by decide, iX11_same, qw_g 1004 rfl rfl⟩
set_option maxRecDepth 50000 in
theorem lRX11_295 : Cond.methodLink RX11 295 yX1_turnTo ∈ qw_good := qw_g 1006 rfl rfl
abbrev mX11_feeding : MI := (RX11, cX11_feeding, 6, (some .int), yX11_feeding)
set_option maxRecDepth 50000 in
theorem fX11_feeding : qmf mX11_feeding 4 := ⟨qw_g 1028 rfl rfl, qw_g 104 rfl rfl, by decide +kernel, by decide +kernel, by decide +kernel⟩
set_option maxRecDepth 50000 in
theorem iX11_feeding : Cond.instanceMethod yX11_feeding ∈ qw_good := qw_g 1026 rfl rfl
set_option maxRecDepth 50000 in
theorem vX11_feeding : qmv mX11_feeding 10 := ⟨TX11, 18, rfl, by decide, iX11_feeding, qw_g 1027 rfl rfl⟩
set_option maxRecDepth 50000 in
theorem lRX11_299 : Cond.methodLink RX11 299 yX10_leastFeeding ∈ qw_good := qw_g 1029 rfl rfl
abbrev mX11_inventor : MI := (RX11, cX11_inventor, 2, (some .int), yX11_inventor)
set_option maxRecDepth 50000 in
theorem fX11_inventor : qmf mX11_inventor 0 := ⟨qw_g 1041 rfl rfl, qw_g 104 rfl rfl, by decide +kernel, by decide +kernel, by decide +kernel⟩
set_option maxRecDepth 50000 in
theorem iX11_inventor : Cond.instanceMethod yX11_inventor ∈ qw_good := qw_g 1039 rfl rfl
set_option maxRecDepth 50000 in
theorem vX11_inventor : qmv mX11_inventor 10 := ⟨TX11, 18, rfl, by decide, iX11_inventor, qw_g 1040 rfl rfl⟩
set_option maxRecDepth 50000 in
theorem lRX11_303 : Cond.methodLink RX11 303 yX3_readFrom ∈ qw_good := qw_g 1042 rfl rfl
set_option maxRecDepth 50000 in
theorem qRX11_304 : qfL RX11 304 3 2 0 false := ⟨RX3, TX3, 3, tyX3 2, qc_3, by decide, rfl, by decide +kernel, rfl, rfl, rfl, Or.inr ⟨"ForeverOffice", qw_n 428 rfl rfl⟩⟩
abbrev mX11_right : MI := (RX11, cX11_right, 2, (some .int), yX11_right)
set_option maxRecDepth 50000 in
theorem fX11_right : qmf mX11_right 1 := ⟨qw_g 1068 rfl rfl, qw_g 104 rfl rfl, by decide +kernel, by decide +kernel, by decide +kernel⟩
set_option maxRecDepth 50000 in
theorem iX11_right : Cond.instanceMethod yX11_right ∈ qw_good := qw_g 1066 rfl rfl
set_option maxRecDepth 50000 in
theorem vX11_right : qmv mX11_right 10 := ⟨TX11, 18, rfl, by decide, iX11_right, qw_g 1067 rfl rfl⟩
set_option maxRecDepth 50000 in
theorem lRX11_307 : Cond.methodLink RX11 307 yX11_isRight ∈ qw_good := qw_g 1069 rfl rfl
abbrev mX11_answer : MI := (RX11, cX11_answer, 3, (some .int), yX11_answer)
set_option maxRecDepth 50000 in
theorem fX11_answer : qmf mX11_answer 0 := ⟨qw_g 1101 rfl rfl, qw_g 104 rfl rfl, by decide +kernel, by decide +kernel, by decide +kernel⟩
set_option maxRecDepth 50000 in
theorem iX11_answer : Cond.instanceMethod yX11_answer ∈ qw_good := qw_g 1099 rfl rfl
set_option maxRecDepth 50000 in
theorem vX11_answer : qmv mX11_answer 10 := ⟨TX11, 18, rfl, by decide, iX11_answer, qw_g 1100 rfl rfl⟩
set_option maxRecDepth 50000 in
theorem lRX11_310 : Cond.methodLink RX11 310 yX3_measure ∈ qw_good := qw_g 1102 rfl rfl
set_option maxRecDepth 50000 in
theorem qRX11_313 : qfL RX11 313 3 1 (10 + 14) true := ⟨RX3, TX3, 3, tyX3 1, qc_3, by decide, rfl, by decide +kernel, rfl, rfl, rfl, Or.inr ⟨"ForeverOffice", qw_n 426 rfl rfl⟩⟩
set_option maxRecDepth 50000 in
theorem lRX11_316 : Cond.methodLink RX11 316 yX3_tellShortest ∈ qw_good := qw_g 1115 rfl rfl
abbrev mX11_answerAt : MI := (RX11, cX11_answerAt, 2, (some .int), yX11_answerAt)
set_option maxRecDepth 50000 in
theorem fX11_answerAt : qmf mX11_answerAt 1 := ⟨qw_g 1126 rfl rfl, qw_g 104 rfl rfl, by decide +kernel, by decide +kernel, by decide +kernel⟩
set_option maxRecDepth 50000 in
theorem iX11_answerAt : Cond.instanceMethod yX11_answerAt ∈ qw_good := qw_g 1124 rfl rfl
set_option maxRecDepth 50000 in
theorem vX11_answerAt : qmv mX11_answerAt 10 := ⟨TX11, 18, rfl, by decide, iX11_answerAt, qw_g 1125 rfl rfl⟩
abbrev mX11_count : MI := (RX11, cX11_count, 2, (some .int), yX11_count)
set_option maxRecDepth 50000 in
theorem fX11_count : qmf mX11_count 1 := ⟨qw_g 1130 rfl rfl, qw_g 104 rfl rfl, by decide +kernel, by decide +kernel, by decide +kernel⟩
set_option maxRecDepth 50000 in
theorem iX11_count : Cond.instanceMethod yX11_count ∈ qw_good := qw_g 1128 rfl rfl
set_option maxRecDepth 50000 in
theorem vX11_count : qmv mX11_count 10 := ⟨TX11, 18, rfl, by decide, iX11_count, qw_g 1129 rfl rfl⟩
set_option maxRecDepth 50000 in
theorem qRX11_320 : qfL RX11 320 1 3 0 false := ⟨RX1, TX1, 4, tyX1 3, qc_1, by decide, rfl, by decide +kernel, rfl, rfl, rfl, Or.inr ⟨"ForeverOffice", qw_n 377 rfl rfl⟩⟩
set_option maxRecDepth 50000 in
theorem lRX11_323 : Cond.methodLink RX11 323 yX11_keptDrawings ∈ qw_good := qw_g 1131 rfl rfl
abbrev mX11_isPart : MI := (RX11, cX11_isPart, 2, (some .boolean), yX11_isPart)
set_option maxRecDepth 50000 in
theorem fX11_isPart : qmf mX11_isPart 1 := ⟨qw_g 1146 rfl rfl, qw_g 104 rfl rfl, by decide +kernel, by decide +kernel, by decide +kernel⟩
set_option maxRecDepth 50000 in
theorem iX11_isPart : Cond.instanceMethod yX11_isPart ∈ qw_good := qw_g 1145 rfl rfl
set_option maxRecDepth 50000 in
theorem vX11_isPart : qmv mX11_isPart 10 := ⟨TX11, 18, rfl, by decide, iX11_isPart, qw_g 42 rfl rfl⟩
abbrev mX11_isPlace : MI := (RX11, cX11_isPlace, 2, (some .boolean), yX11_isPlace)
set_option maxRecDepth 50000 in
theorem fX11_isPlace : qmf mX11_isPlace 1 := ⟨qw_g 761 rfl rfl, qw_g 104 rfl rfl, by decide +kernel, by decide +kernel, by decide +kernel⟩
set_option maxRecDepth 50000 in
theorem iX11_isPlace : Cond.instanceMethod yX11_isPlace ∈ qw_good := qw_g 760 rfl rfl
set_option maxRecDepth 50000 in
theorem vX11_isPlace : qmv mX11_isPlace 10 := ⟨TX11, 18, rfl, by decide, iX11_isPlace, qw_g 18 rfl rfl⟩
abbrev mX11_isLawSet : MI := (RX11, cX11_isLawSet, 1, (some .boolean), yX11_isLawSet)
set_option maxRecDepth 50000 in
theorem fX11_isLawSet : qmf mX11_isLawSet 1 := ⟨qw_g 768 rfl rfl, qw_g 104 rfl rfl, by decide +kernel, by decide +kernel, by decide +kernel⟩
set_option maxRecDepth 50000 in
theorem sX11_isLawSet : Cond.static yX11_isLawSet ∈ qw_good := qw_g 767 rfl rfl
abbrev mX11_isPush : MI := (RX11, cX11_isPush, 1, (some .boolean), yX11_isPush)
set_option maxRecDepth 50000 in
theorem fX11_isPush : qmf mX11_isPush 1 := ⟨qw_g 764 rfl rfl, qw_g 104 rfl rfl, by decide +kernel, by decide +kernel, by decide +kernel⟩
set_option maxRecDepth 50000 in
theorem sX11_isPush : Cond.static yX11_isPush ∈ qw_good := qw_g 763 rfl rfl
set_option maxRecDepth 50000 in
theorem kRX11_326 : Cond.constant RX11 326 (100000) ∈ qw_good := qw_g 765 rfl rfl
abbrev mX11_cutTape : MI := (RX11, cX11_cutTape, 2, none, yX11_cutTape)
set_option maxRecDepth 50000 in
theorem fX11_cutTape : qmf mX11_cutTape 1 := ⟨qw_g 510 rfl rfl, qw_g 104 rfl rfl, by decide +kernel, by decide +kernel, by decide +kernel⟩
set_option maxRecDepth 50000 in
theorem iX11_cutTape : Cond.instanceMethod yX11_cutTape ∈ qw_good := qw_g 509 rfl rfl
set_option maxRecDepth 50000 in
theorem vX11_cutTape : qmv mX11_cutTape 10 := ⟨TX11, 18, rfl, by decide, iX11_cutTape, qw_g 0 rfl rfl⟩
set_option maxRecDepth 50000 in
theorem lRX11_327 : Cond.methodLink RX11 327 yX7_cut ∈ qw_good := qw_g 511 rfl rfl
abbrev mX11_keptDrawings : MI := (RX11, cX11_keptDrawings, 3, (some .int), yX11_keptDrawings)
set_option maxRecDepth 50000 in
theorem fX11_keptDrawings : qmf mX11_keptDrawings 0 := ⟨qw_g 1134 rfl rfl, qw_g 104 rfl rfl, by decide +kernel, by decide +kernel, by decide +kernel⟩
set_option maxRecDepth 50000 in
theorem iX11_keptDrawings : Cond.instanceMethod yX11_keptDrawings ∈ qw_good := qw_g 1133 rfl rfl
set_option maxRecDepth 50000 in
theorem vX11_keptDrawings : qmv mX11_keptDrawings 10 := ⟨TX11, 18, rfl, by decide, iX11_keptDrawings, qw_g 41 rfl rfl⟩
abbrev mX11_firstAtWhichClaimIs : MI := (RX11, cX11_firstAtWhichClaimIs, 3, (some .int), yX11_firstAtWhichClaimIs)
set_option maxRecDepth 50000 in
theorem fX11_firstAtWhichClaimIs : qmf mX11_firstAtWhichClaimIs 1 := ⟨qw_g 877 rfl rfl, qw_g 104 rfl rfl, by decide +kernel, by decide +kernel, by decide +kernel⟩
set_option maxRecDepth 50000 in
theorem iX11_firstAtWhichClaimIs : Cond.instanceMethod yX11_firstAtWhichClaimIs ∈ qw_good := qw_g 876 rfl rfl
set_option maxRecDepth 50000 in
theorem vX11_firstAtWhichClaimIs : qmv mX11_firstAtWhichClaimIs 10 := ⟨TX11, 18, rfl, by decide, iX11_firstAtWhichClaimIs, qw_g 24 rfl rfl⟩
abbrev mX11_goers : MI := (RX11, cX11_goers, 3, (some .int), yX11_goers)
set_option maxRecDepth 50000 in
theorem fX11_goers : qmf mX11_goers 0 := ⟨qw_g 903 rfl rfl, qw_g 104 rfl rfl, by decide +kernel, by decide +kernel, by decide +kernel⟩
set_option maxRecDepth 50000 in
theorem iX11_goers : Cond.instanceMethod yX11_goers ∈ qw_good := qw_g 902 rfl rfl
set_option maxRecDepth 50000 in
theorem vX11_goers : qmv mX11_goers 10 := ⟨TX11, 18, rfl, by decide, iX11_goers, qw_g 25 rfl rfl⟩
abbrev mX11_isLeastOf : MI := (RX11, cX11_isLeastOf, 3, (some .boolean), yX11_isLeastOf)
set_option maxRecDepth 50000 in
theorem fX11_isLeastOf : qmf mX11_isLeastOf 2 := ⟨qw_g 922 rfl rfl, qw_g 104 rfl rfl, by decide +kernel, by decide +kernel, by decide +kernel⟩
set_option maxRecDepth 50000 in
theorem sX11_isLeastOf : Cond.static yX11_isLeastOf ∈ qw_good := qw_g 921 rfl rfl
abbrev mX11_isRight : MI := (RX11, cX11_isRight, 3, (some .boolean), yX11_isRight)
set_option maxRecDepth 50000 in
theorem fX11_isRight : qmf mX11_isRight 1 := ⟨qw_g 1072 rfl rfl, qw_g 104 rfl rfl, by decide +kernel, by decide +kernel, by decide +kernel⟩
set_option maxRecDepth 50000 in
theorem iX11_isRight : Cond.instanceMethod yX11_isRight ∈ qw_good := qw_g 1071 rfl rfl
set_option maxRecDepth 50000 in
theorem vX11_isRight : qmv mX11_isRight 10 := ⟨TX11, 18, rfl, by decide, iX11_isRight, qw_g 32 rfl rfl⟩
set_option maxRecDepth 50000 in
theorem lRX11_330 : Cond.methodLink RX11 330 yX11_isLeftFullerSomewhere ∈ qw_good := qw_g 1073 rfl rfl
set_option maxRecDepth 50000 in
theorem lRX11_334 : Cond.methodLink RX11 334 yX11_areUnfedSumsZero ∈ qw_good := qw_g 1078 rfl rfl
set_option maxRecDepth 50000 in
theorem lRX11_337 : Cond.methodLink RX11 337 yX11_takesAtSomeDoor ∈ qw_good := qw_g 1082 rfl rfl
set_option maxRecDepth 50000 in
theorem lRX11_340 : Cond.methodLink RX11 340 yX11_modelRests ∈ qw_good := qw_g 1090 rfl rfl
set_option maxRecDepth 50000 in
theorem lRX11_343 : Cond.methodLink RX11 343 yX11_hasFedPart ∈ qw_good := qw_g 1094 rfl rfl
abbrev mX11_isLeftFullerSomewhere : MI := (RX11, cX11_isLeftFullerSomewhere, 2, (some .boolean), yX11_isLeftFullerSomewhere)
set_option maxRecDepth 50000 in
theorem fX11_isLeftFullerSomewhere : qmf mX11_isLeftFullerSomewhere 0 := ⟨qw_g 1076 rfl rfl, qw_g 104 rfl rfl, by decide +kernel, by decide +kernel, by decide +kernel⟩
set_option maxRecDepth 50000 in
theorem iX11_isLeftFullerSomewhere : Cond.instanceMethod yX11_isLeftFullerSomewhere ∈ qw_good := qw_g 1075 rfl rfl
set_option maxRecDepth 50000 in
theorem vX11_isLeftFullerSomewhere : qmv mX11_isLeftFullerSomewhere 10 := ⟨TX11, 18, rfl, by decide, iX11_isLeftFullerSomewhere, qw_g 33 rfl rfl⟩
abbrev mX11_areUnfedSumsZero : MI := (RX11, cX11_areUnfedSumsZero, 3, (some .boolean), yX11_areUnfedSumsZero)
set_option maxRecDepth 50000 in
theorem fX11_areUnfedSumsZero : qmf mX11_areUnfedSumsZero 0 := ⟨qw_g 1081 rfl rfl, qw_g 104 rfl rfl, by decide +kernel, by decide +kernel, by decide +kernel⟩
set_option maxRecDepth 50000 in
theorem iX11_areUnfedSumsZero : Cond.instanceMethod yX11_areUnfedSumsZero ∈ qw_good := qw_g 1080 rfl rfl
set_option maxRecDepth 50000 in
theorem vX11_areUnfedSumsZero : qmv mX11_areUnfedSumsZero 10 := ⟨TX11, 18, rfl, by decide, iX11_areUnfedSumsZero, qw_g 34 rfl rfl⟩
set_option maxRecDepth 50000 in
theorem qRX11_346 : qfL RX11 346 4 0 0 false := ⟨RX4, TX4, 10, tyX4 0, qc_4, by decide, rfl, by decide +kernel, rfl, rfl, rfl, Or.inr ⟨"ForeverOffice", qw_n 325 rfl rfl⟩⟩
abbrev mX11_takesAtSomeDoor : MI := (RX11, cX11_takesAtSomeDoor, 3, (some .boolean), yX11_takesAtSomeDoor)
set_option maxRecDepth 50000 in
theorem fX11_takesAtSomeDoor : qmf mX11_takesAtSomeDoor 0 := ⟨qw_g 1085 rfl rfl, qw_g 104 rfl rfl, by decide +kernel, by decide +kernel, by decide +kernel⟩
set_option maxRecDepth 50000 in
theorem iX11_takesAtSomeDoor : Cond.instanceMethod yX11_takesAtSomeDoor ∈ qw_good := qw_g 1084 rfl rfl
set_option maxRecDepth 50000 in
theorem vX11_takesAtSomeDoor : qmv mX11_takesAtSomeDoor 10 := ⟨TX11, 18, rfl, by decide, iX11_takesAtSomeDoor, qw_g 35 rfl rfl⟩
set_option maxRecDepth 50000 in
theorem lRX11_347 : Cond.methodLink RX11 347 yX4_takesWhereLawCounts ∈ qw_good := qw_g 1086 rfl rfl
abbrev mX11_modelRests : MI := (RX11, cX11_modelRests, 1, (some .boolean), yX11_modelRests)
set_option maxRecDepth 50000 in
theorem fX11_modelRests : qmf mX11_modelRests 0 := ⟨qw_g 1093 rfl rfl, qw_g 104 rfl rfl, by decide +kernel, by decide +kernel, by decide +kernel⟩
set_option maxRecDepth 50000 in
theorem iX11_modelRests : Cond.instanceMethod yX11_modelRests ∈ qw_good := qw_g 1092 rfl rfl
set_option maxRecDepth 50000 in
theorem vX11_modelRests : qmv mX11_modelRests 10 := ⟨TX11, 18, rfl, by decide, iX11_modelRests, qw_g 36 rfl rfl⟩
abbrev mX11_hasFedPart : MI := (RX11, cX11_hasFedPart, 2, (some .boolean), yX11_hasFedPart)
set_option maxRecDepth 50000 in
theorem fX11_hasFedPart : qmf mX11_hasFedPart 0 := ⟨qw_g 1097 rfl rfl, qw_g 104 rfl rfl, by decide +kernel, by decide +kernel, by decide +kernel⟩
set_option maxRecDepth 50000 in
theorem iX11_hasFedPart : Cond.instanceMethod yX11_hasFedPart ∈ qw_good := qw_g 1096 rfl rfl
set_option maxRecDepth 50000 in
theorem vX11_hasFedPart : qmv mX11_hasFedPart 10 := ⟨TX11, 18, rfl, by decide, iX11_hasFedPart, qw_g 37 rfl rfl⟩
abbrev mX12_init : MI := (RX12, cX12_init, 1, none, yX12_init)
set_option maxRecDepth 50000 in
theorem fX12_init : qmf mX12_init 0 := ⟨qw_g 1251 rfl rfl, qw_g 115 rfl rfl, by decide +kernel, by decide +kernel, by decide +kernel⟩
set_option maxRecDepth 50000 in
theorem iX12_init : Cond.instanceMethod yX12_init ∈ qw_good := qw_g 1250 rfl rfl
set_option maxRecDepth 50000 in
theorem lRX12_1 : Cond.methodLink RX12 1 objectInit ∈ qw_good := qw_g 1252 rfl rfl
set_option maxRecDepth 50000 in
theorem qRX12_7 : qfL RX12 7 11 1 (10 + 14) true := ⟨RX12, TX12, 62, tyX12 1, qc_11, by decide, rfl, by decide +kernel, rfl, rfl, rfl, Or.inl (qw_g 1254 rfl rfl)⟩
set_option maxRecDepth 50000 in
theorem FRX12_7 : qfF RX12 7 11 1 (10 + 14) := ⟨TX12, 62, tyX12 1, qc_11, by decide, rfl, by decide +kernel, rfl, rfl, rfl, qw_g 1254 rfl rfl⟩
set_option maxRecDepth 50000 in
theorem qRX12_13 : qfL RX12 13 11 14 (10 + 14) true := ⟨RX12, TX12, 62, tyX12 14, qc_11, by decide, rfl, by decide +kernel, rfl, rfl, rfl, Or.inl (qw_g 1267 rfl rfl)⟩
set_option maxRecDepth 50000 in
theorem FRX12_13 : qfF RX12 13 11 14 (10 + 14) := ⟨TX12, 62, tyX12 14, qc_11, by decide, rfl, by decide +kernel, rfl, rfl, rfl, qw_g 1267 rfl rfl⟩
set_option maxRecDepth 50000 in
theorem qRX12_16 : qfL RX12 16 11 15 (10 + 14) true := ⟨RX12, TX12, 62, tyX12 15, qc_11, by decide, rfl, by decide +kernel, rfl, rfl, rfl, Or.inl (qw_g 1268 rfl rfl)⟩
set_option maxRecDepth 50000 in
theorem FRX12_16 : qfF RX12 16 11 15 (10 + 14) := ⟨TX12, 62, tyX12 15, qc_11, by decide, rfl, by decide +kernel, rfl, rfl, rfl, qw_g 1268 rfl rfl⟩
set_option maxRecDepth 50000 in
theorem qRX12_19 : qfL RX12 19 11 16 (10 + 14) true := ⟨RX12, TX12, 62, tyX12 16, qc_11, by decide, rfl, by decide +kernel, rfl, rfl, rfl, Or.inl (qw_g 1269 rfl rfl)⟩
set_option maxRecDepth 50000 in
theorem FRX12_19 : qfF RX12 19 11 16 (10 + 14) := ⟨TX12, 62, tyX12 16, qc_11, by decide, rfl, by decide +kernel, rfl, rfl, rfl, qw_g 1269 rfl rfl⟩
set_option maxRecDepth 50000 in
theorem qRX12_22 : qfL RX12 22 11 17 (10 + 14) true := ⟨RX12, TX12, 62, tyX12 17, qc_11, by decide, rfl, by decide +kernel, rfl, rfl, rfl, Or.inl (qw_g 1270 rfl rfl)⟩
set_option maxRecDepth 50000 in
theorem FRX12_22 : qfF RX12 22 11 17 (10 + 14) := ⟨TX12, 62, tyX12 17, qc_11, by decide, rfl, by decide +kernel, rfl, rfl, rfl, qw_g 1270 rfl rfl⟩
set_option maxRecDepth 50000 in
theorem qRX12_25 : qfL RX12 25 11 18 (10 + 15) true := ⟨RX12, TX12, 62, tyX12 18, qc_11, by decide, rfl, by decide +kernel, rfl, rfl, rfl, Or.inl (qw_g 1271 rfl rfl)⟩
set_option maxRecDepth 50000 in
theorem FRX12_25 : qfF RX12 25 11 18 (10 + 15) := ⟨TX12, 62, tyX12 18, qc_11, by decide, rfl, by decide +kernel, rfl, rfl, rfl, qw_g 1271 rfl rfl⟩
set_option maxRecDepth 50000 in
theorem qRX12_29 : qfL RX12 29 11 19 (10 + 16) true := ⟨RX12, TX12, 62, tyX12 19, qc_11, by decide, rfl, by decide +kernel, rfl, rfl, rfl, Or.inl (qw_g 1272 rfl rfl)⟩
set_option maxRecDepth 50000 in
theorem FRX12_29 : qfF RX12 29 11 19 (10 + 16) := ⟨TX12, 62, tyX12 19, qc_11, by decide, rfl, by decide +kernel, rfl, rfl, rfl, qw_g 1272 rfl rfl⟩
set_option maxRecDepth 50000 in
theorem qRX12_33 : qfL RX12 33 11 21 (10 + 14) true := ⟨RX12, TX12, 62, tyX12 21, qc_11, by decide, rfl, by decide +kernel, rfl, rfl, rfl, Or.inl (qw_g 1274 rfl rfl)⟩
set_option maxRecDepth 50000 in
theorem FRX12_33 : qfF RX12 33 11 21 (10 + 14) := ⟨TX12, 62, tyX12 21, qc_11, by decide, rfl, by decide +kernel, rfl, rfl, rfl, qw_g 1274 rfl rfl⟩
set_option maxRecDepth 50000 in
theorem qRX12_36 : qfL RX12 36 11 22 (10 + 14) true := ⟨RX12, TX12, 62, tyX12 22, qc_11, by decide, rfl, by decide +kernel, rfl, rfl, rfl, Or.inl (qw_g 1275 rfl rfl)⟩
set_option maxRecDepth 50000 in
theorem FRX12_36 : qfF RX12 36 11 22 (10 + 14) := ⟨TX12, 62, tyX12 22, qc_11, by decide, rfl, by decide +kernel, rfl, rfl, rfl, qw_g 1275 rfl rfl⟩
set_option maxRecDepth 50000 in
theorem qRX12_39 : qfL RX12 39 11 35 (10 + 14) true := ⟨RX12, TX12, 62, tyX12 35, qc_11, by decide, rfl, by decide +kernel, rfl, rfl, rfl, Or.inl (qw_g 1288 rfl rfl)⟩
set_option maxRecDepth 50000 in
theorem FRX12_39 : qfF RX12 39 11 35 (10 + 14) := ⟨TX12, 62, tyX12 35, qc_11, by decide, rfl, by decide +kernel, rfl, rfl, rfl, qw_g 1288 rfl rfl⟩
set_option maxRecDepth 50000 in
theorem qRX12_42 : qfL RX12 42 11 37 (10 + 14) true := ⟨RX12, TX12, 62, tyX12 37, qc_11, by decide, rfl, by decide +kernel, rfl, rfl, rfl, Or.inl (qw_g 1290 rfl rfl)⟩
set_option maxRecDepth 50000 in
theorem FRX12_42 : qfF RX12 42 11 37 (10 + 14) := ⟨TX12, 62, tyX12 37, qc_11, by decide, rfl, by decide +kernel, rfl, rfl, rfl, qw_g 1290 rfl rfl⟩
set_option maxRecDepth 50000 in
theorem qRX12_45 : qfL RX12 45 11 38 (10 + 14) true := ⟨RX12, TX12, 62, tyX12 38, qc_11, by decide, rfl, by decide +kernel, rfl, rfl, rfl, Or.inl (qw_g 1291 rfl rfl)⟩
set_option maxRecDepth 50000 in
theorem FRX12_45 : qfF RX12 45 11 38 (10 + 14) := ⟨TX12, 62, tyX12 38, qc_11, by decide, rfl, by decide +kernel, rfl, rfl, rfl, qw_g 1291 rfl rfl⟩
set_option maxRecDepth 50000 in
theorem qRX12_48 : qfL RX12 48 11 39 (10 + 14) true := ⟨RX12, TX12, 62, tyX12 39, qc_11, by decide, rfl, by decide +kernel, rfl, rfl, rfl, Or.inl (qw_g 1292 rfl rfl)⟩
set_option maxRecDepth 50000 in
theorem FRX12_48 : qfF RX12 48 11 39 (10 + 14) := ⟨TX12, 62, tyX12 39, qc_11, by decide, rfl, by decide +kernel, rfl, rfl, rfl, qw_g 1292 rfl rfl⟩
set_option maxRecDepth 50000 in
theorem qRX12_51 : qfL RX12 51 11 40 (10 + 14) true := ⟨RX12, TX12, 62, tyX12 40, qc_11, by decide, rfl, by decide +kernel, rfl, rfl, rfl, Or.inl (qw_g 1293 rfl rfl)⟩
set_option maxRecDepth 50000 in
theorem FRX12_51 : qfF RX12 51 11 40 (10 + 14) := ⟨TX12, 62, tyX12 40, qc_11, by decide, rfl, by decide +kernel, rfl, rfl, rfl, qw_g 1293 rfl rfl⟩
set_option maxRecDepth 50000 in
theorem qRX12_54 : qfL RX12 54 11 48 (10 + 14) true := ⟨RX12, TX12, 62, tyX12 48, qc_11, by decide, rfl, by decide +kernel, rfl, rfl, rfl, Or.inl (qw_g 1301 rfl rfl)⟩
set_option maxRecDepth 50000 in
theorem FRX12_54 : qfF RX12 54 11 48 (10 + 14) := ⟨TX12, 62, tyX12 48, qc_11, by decide, rfl, by decide +kernel, rfl, rfl, rfl, qw_g 1301 rfl rfl⟩
set_option maxRecDepth 50000 in
theorem qRX12_57 : qfL RX12 57 11 49 (10 + 14) true := ⟨RX12, TX12, 62, tyX12 49, qc_11, by decide, rfl, by decide +kernel, rfl, rfl, rfl, Or.inl (qw_g 1302 rfl rfl)⟩
set_option maxRecDepth 50000 in
theorem FRX12_57 : qfF RX12 57 11 49 (10 + 14) := ⟨TX12, 62, tyX12 49, qc_11, by decide, rfl, by decide +kernel, rfl, rfl, rfl, qw_g 1302 rfl rfl⟩
set_option maxRecDepth 50000 in
theorem qRX12_60 : qfL RX12 60 11 50 (10 + 14) true := ⟨RX12, TX12, 62, tyX12 50, qc_11, by decide, rfl, by decide +kernel, rfl, rfl, rfl, Or.inl (qw_g 1303 rfl rfl)⟩
set_option maxRecDepth 50000 in
theorem FRX12_60 : qfF RX12 60 11 50 (10 + 14) := ⟨TX12, 62, tyX12 50, qc_11, by decide, rfl, by decide +kernel, rfl, rfl, rfl, qw_g 1303 rfl rfl⟩
set_option maxRecDepth 50000 in
theorem qRX12_63 : qfL RX12 63 11 55 (10 + 15) true := ⟨RX12, TX12, 62, tyX12 55, qc_11, by decide, rfl, by decide +kernel, rfl, rfl, rfl, Or.inl (qw_g 1308 rfl rfl)⟩
set_option maxRecDepth 50000 in
theorem FRX12_63 : qfF RX12 63 11 55 (10 + 15) := ⟨TX12, 62, tyX12 55, qc_11, by decide, rfl, by decide +kernel, rfl, rfl, rfl, qw_g 1308 rfl rfl⟩
set_option maxRecDepth 50000 in
theorem qRX12_66 : qfL RX12 66 11 57 (10 + 14) true := ⟨RX12, TX12, 62, tyX12 57, qc_11, by decide, rfl, by decide +kernel, rfl, rfl, rfl, Or.inl (qw_g 1310 rfl rfl)⟩
set_option maxRecDepth 50000 in
theorem FRX12_66 : qfF RX12 66 11 57 (10 + 14) := ⟨TX12, 62, tyX12 57, qc_11, by decide, rfl, by decide +kernel, rfl, rfl, rfl, qw_g 1310 rfl rfl⟩
set_option maxRecDepth 50000 in
theorem qRX12_69 : qfL RX12 69 11 59 (10 + 14) true := ⟨RX12, TX12, 62, tyX12 59, qc_11, by decide, rfl, by decide +kernel, rfl, rfl, rfl, Or.inl (qw_g 1312 rfl rfl)⟩
set_option maxRecDepth 50000 in
theorem FRX12_69 : qfF RX12 69 11 59 (10 + 14) := ⟨TX12, 62, tyX12 59, qc_11, by decide, rfl, by decide +kernel, rfl, rfl, rfl, qw_g 1312 rfl rfl⟩
set_option maxRecDepth 50000 in
theorem qRX12_72 : qfL RX12 72 11 60 (10 + 14) true := ⟨RX12, TX12, 62, tyX12 60, qc_11, by decide, rfl, by decide +kernel, rfl, rfl, rfl, Or.inl (qw_g 1313 rfl rfl)⟩
set_option maxRecDepth 50000 in
theorem FRX12_72 : qfF RX12 72 11 60 (10 + 14) := ⟨TX12, 62, tyX12 60, qc_11, by decide, rfl, by decide +kernel, rfl, rfl, rfl, qw_g 1313 rfl rfl⟩
abbrev mX12_thrown : MI := (RX12, cX12_thrown, 1, (some .int), yX12_thrown)
set_option maxRecDepth 50000 in
theorem fX12_thrown : qmf mX12_thrown 0 := ⟨qw_g 1443 rfl rfl, qw_g 115 rfl rfl, by decide +kernel, by decide +kernel, by decide +kernel⟩
set_option maxRecDepth 50000 in
theorem iX12_thrown : Cond.instanceMethod yX12_thrown ∈ qw_good := qw_g 1441 rfl rfl
set_option maxRecDepth 50000 in
theorem vX12_thrown : qmv mX12_thrown 11 := ⟨TX12, 62, rfl, by decide, iX12_thrown, qw_g 1442 rfl rfl⟩
set_option maxRecDepth 50000 in
theorem qRX12_75 : qfL RX12 75 11 0 0 false := ⟨RX12, TX12, 62, tyX12 0, qc_11, by decide, rfl, by decide +kernel, rfl, rfl, rfl, Or.inl (qw_g 1253 rfl rfl)⟩
abbrev mX12_refuse : MI := (RX12, cX12_refuse, 1, (some .int), yX12_refuse)
set_option maxRecDepth 50000 in
theorem fX12_refuse : qmf mX12_refuse 0 := ⟨qw_g 1600 rfl rfl, qw_g 115 rfl rfl, by decide +kernel, by decide +kernel, by decide +kernel⟩
set_option maxRecDepth 50000 in
theorem iX12_refuse : Cond.instanceMethod yX12_refuse ∈ qw_good := qw_g 1599 rfl rfl
set_option maxRecDepth 50000 in
theorem vX12_refuse : qmv mX12_refuse 11 := ⟨TX12, 62, rfl, by decide, iX12_refuse, qw_g 70 rfl rfl⟩
abbrev mX12_come : MI := (RX12, cX12_come, 3, none, yX12_come)
set_option maxRecDepth 50000 in
theorem fX12_come : qmf mX12_come 1 := ⟨qw_g 1451 rfl rfl, qw_g 115 rfl rfl, by decide +kernel, by decide +kernel, by decide +kernel⟩
set_option maxRecDepth 50000 in
theorem iX12_come : Cond.instanceMethod yX12_come ∈ qw_good := qw_g 1450 rfl rfl
set_option maxRecDepth 50000 in
theorem vX12_come : qmv mX12_come 11 := ⟨TX12, 62, rfl, by decide, iX12_come, qw_g 44 rfl rfl⟩
set_option maxRecDepth 50000 in
theorem qRX12_79 : qfL RX12 79 11 2 0 false := ⟨RX12, TX12, 62, tyX12 2, qc_11, by decide, rfl, by decide +kernel, rfl, rfl, rfl, Or.inl (qw_g 1255 rfl rfl)⟩
abbrev mX12_feed : MI := (RX12, cX12_feed, 6, (some .int), yX12_feed)
set_option maxRecDepth 50000 in
theorem fX12_feed : qmf mX12_feed 5 := ⟨qw_g 1447 rfl rfl, qw_g 115 rfl rfl, by decide +kernel, by decide +kernel, by decide +kernel⟩
set_option maxRecDepth 50000 in
theorem iX12_feed : Cond.instanceMethod yX12_feed ∈ qw_good := qw_g 1445 rfl rfl
set_option maxRecDepth 50000 in
theorem vX12_feed : qmv mX12_feed 11 := ⟨TX12, 62, rfl, by decide, iX12_feed, qw_g 1446 rfl rfl⟩
set_option maxRecDepth 50000 in
theorem lRX12_82 : Cond.methodLink RX12 82 yX12_come ∈ qw_good := qw_g 1448 rfl rfl
abbrev mX12_end : MI := (RX12, cX12_end, 2, (some .boolean), yX12_end)
set_option maxRecDepth 50000 in
theorem fX12_end : qmf mX12_end 1 := ⟨qw_g 1455 rfl rfl, qw_g 115 rfl rfl, by decide +kernel, by decide +kernel, by decide +kernel⟩
set_option maxRecDepth 50000 in
theorem iX12_end : Cond.instanceMethod yX12_end ∈ qw_good := qw_g 1453 rfl rfl
set_option maxRecDepth 50000 in
theorem vX12_end : qmv mX12_end 11 := ⟨TX12, 62, rfl, by decide, iX12_end, qw_g 1454 rfl rfl⟩
abbrev mX12_take : MI := (RX12, cX12_take, 2, (some .int), yX12_take)
set_option maxRecDepth 50000 in
theorem fX12_take : qmf mX12_take 0 := ⟨qw_g 1467 rfl rfl, qw_g 115 rfl rfl, by decide +kernel, by decide +kernel, by decide +kernel⟩
set_option maxRecDepth 50000 in
theorem iX12_take : Cond.instanceMethod yX12_take ∈ qw_good := qw_g 1466 rfl rfl
set_option maxRecDepth 50000 in
theorem vX12_take : qmv mX12_take 11 := ⟨TX12, 62, rfl, by decide, iX12_take, qw_g 46 rfl rfl⟩
abbrev mX12_isIn : MI := (RX12, cX12_isIn, 3, (some .boolean), yX12_isIn)
set_option maxRecDepth 50000 in
theorem fX12_isIn : qmf mX12_isIn 3 := ⟨qw_g 1505 rfl rfl, qw_g 115 rfl rfl, by decide +kernel, by decide +kernel, by decide +kernel⟩
set_option maxRecDepth 50000 in
theorem sX12_isIn : Cond.static yX12_isIn ∈ qw_good := qw_g 1504 rfl rfl
abbrev mX12_byteAt : MI := (RX12, cX12_byteAt, 2, (some .int), yX12_byteAt)
set_option maxRecDepth 50000 in
theorem fX12_byteAt : qmf mX12_byteAt 1 := ⟨qw_g 1481 rfl rfl, qw_g 115 rfl rfl, by decide +kernel, by decide +kernel, by decide +kernel⟩
set_option maxRecDepth 50000 in
theorem iX12_byteAt : Cond.instanceMethod yX12_byteAt ∈ qw_good := qw_g 1480 rfl rfl
set_option maxRecDepth 50000 in
theorem vX12_byteAt : qmv mX12_byteAt 11 := ⟨TX12, 62, rfl, by decide, iX12_byteAt, qw_g 48 rfl rfl⟩
set_option maxRecDepth 50000 in
theorem qRX12_86 : qfL RX12 86 11 3 0 false := ⟨RX12, TX12, 62, tyX12 3, qc_11, by decide, rfl, by decide +kernel, rfl, rfl, rfl, Or.inl (qw_g 1256 rfl rfl)⟩
abbrev mX12_isDigit : MI := (RX12, cX12_isDigit, 1, (some .boolean), yX12_isDigit)
set_option maxRecDepth 50000 in
theorem fX12_isDigit : qmf mX12_isDigit 1 := ⟨qw_g 1477 rfl rfl, qw_g 115 rfl rfl, by decide +kernel, by decide +kernel, by decide +kernel⟩
set_option maxRecDepth 50000 in
theorem sX12_isDigit : Cond.static yX12_isDigit ∈ qw_good := qw_g 1476 rfl rfl
abbrev mX12_isLetter : MI := (RX12, cX12_isLetter, 1, (some .boolean), yX12_isLetter)
set_option maxRecDepth 50000 in
theorem fX12_isLetter : qmf mX12_isLetter 1 := ⟨qw_g 1474 rfl rfl, qw_g 115 rfl rfl, by decide +kernel, by decide +kernel, by decide +kernel⟩
set_option maxRecDepth 50000 in
theorem sX12_isLetter : Cond.static yX12_isLetter ∈ qw_good := qw_g 1473 rfl rfl
abbrev mX12_go : MI := (RX12, cX12_go, 5, none, yX12_go)
set_option maxRecDepth 50000 in
theorem fX12_go : qmf mX12_go 0 := ⟨qw_g 1471 rfl rfl, qw_g 115 rfl rfl, by decide +kernel, by decide +kernel, by decide +kernel⟩
set_option maxRecDepth 50000 in
theorem iX12_go : Cond.instanceMethod yX12_go ∈ qw_good := qw_g 1470 rfl rfl
set_option maxRecDepth 50000 in
theorem vX12_go : qmv mX12_go 11 := ⟨TX12, 62, rfl, by decide, iX12_go, qw_g 47 rfl rfl⟩
set_option maxRecDepth 50000 in
theorem qRX12_89 : qfL RX12 89 11 5 0 false := ⟨RX12, TX12, 62, tyX12 5, qc_11, by decide, rfl, by decide +kernel, rfl, rfl, rfl, Or.inl (qw_g 1258 rfl rfl)⟩
set_option maxRecDepth 50000 in
theorem qRX12_92 : qfL RX12 92 11 6 0 false := ⟨RX12, TX12, 62, tyX12 6, qc_11, by decide, rfl, by decide +kernel, rfl, rfl, rfl, Or.inl (qw_g 1259 rfl rfl)⟩
set_option maxRecDepth 50000 in
theorem qRX12_95 : qfL RX12 95 11 4 0 false := ⟨RX12, TX12, 62, tyX12 4, qc_11, by decide, rfl, by decide +kernel, rfl, rfl, rfl, Or.inl (qw_g 1257 rfl rfl)⟩
set_option maxRecDepth 50000 in
theorem qRX12_98 : qfL RX12 98 11 7 0 false := ⟨RX12, TX12, 62, tyX12 7, qc_11, by decide, rfl, by decide +kernel, rfl, rfl, rfl, Or.inl (qw_g 1260 rfl rfl)⟩
set_option maxRecDepth 50000 in
theorem lRX12_101 : Cond.methodLink RX12 101 yX12_isLetter ∈ qw_good := qw_g 1472 rfl rfl
set_option maxRecDepth 50000 in
theorem lRX12_105 : Cond.methodLink RX12 105 yX12_isDigit ∈ qw_good := qw_g 1475 rfl rfl
set_option maxRecDepth 50000 in
theorem qRX12_108 : qfL RX12 108 11 9 0 false := ⟨RX12, TX12, 62, tyX12 9, qc_11, by decide, rfl, by decide +kernel, rfl, rfl, rfl, Or.inl (qw_g 1262 rfl rfl)⟩
set_option maxRecDepth 50000 in
theorem qRX12_111 : qfL RX12 111 11 12 2 false := ⟨RX12, TX12, 62, tyX12 12, qc_11, by decide, rfl, by decide +kernel, rfl, rfl, rfl, Or.inl (qw_g 1265 rfl rfl)⟩
set_option maxRecDepth 50000 in
theorem qRX12_115 : qfL RX12 115 11 8 0 false := ⟨RX12, TX12, 62, tyX12 8, qc_11, by decide, rfl, by decide +kernel, rfl, rfl, rfl, Or.inl (qw_g 1261 rfl rfl)⟩
set_option maxRecDepth 50000 in
theorem lRX12_118 : Cond.methodLink RX12 118 yX12_byteAt ∈ qw_good := qw_g 1478 rfl rfl
set_option maxRecDepth 50000 in
theorem kRX12_122 : Cond.constantLong RX12 122 (27) ∈ qw_good := qw_g 1482 rfl rfl
set_option maxRecDepth 50000 in
theorem kRX12_124 : Cond.constantLong RX12 124 (96) ∈ qw_good := qw_g 1483 rfl rfl
abbrev mX12_spelt : MI := (RX12, cX12_spelt, 7, (some .long), yX12_spelt)
set_option maxRecDepth 50000 in
theorem fX12_spelt : qmf mX12_spelt 5 := ⟨qw_g 1490 rfl rfl, qw_g 115 rfl rfl, by decide +kernel, by decide +kernel, by decide +kernel⟩
set_option maxRecDepth 50000 in
theorem sX12_spelt : Cond.static yX12_spelt ∈ qw_good := qw_g 1489 rfl rfl
abbrev mX12_six : MI := (RX12, cX12_six, 6, (some .long), yX12_six)
set_option maxRecDepth 50000 in
theorem fX12_six : qmf mX12_six 6 := ⟨qw_g 1528 rfl rfl, qw_g 115 rfl rfl, by decide +kernel, by decide +kernel, by decide +kernel⟩
set_option maxRecDepth 50000 in
theorem sX12_six : Cond.static yX12_six ∈ qw_good := qw_g 1527 rfl rfl
set_option maxRecDepth 50000 in
theorem lRX12_126 : Cond.methodLink RX12 126 yX12_spelt ∈ qw_good := qw_g 1488 rfl rfl
abbrev mX12_isKey : MI := (RX12, cX12_isKey, 3, (some .boolean), yX12_isKey)
set_option maxRecDepth 50000 in
theorem fX12_isKey : qmf mX12_isKey 1 := ⟨qw_g 1494 rfl rfl, qw_g 115 rfl rfl, by decide +kernel, by decide +kernel, by decide +kernel⟩
set_option maxRecDepth 50000 in
theorem iX12_isKey : Cond.instanceMethod yX12_isKey ∈ qw_good := qw_g 1493 rfl rfl
set_option maxRecDepth 50000 in
theorem vX12_isKey : qmv mX12_isKey 11 := ⟨TX12, 62, rfl, by decide, iX12_isKey, qw_g 50 rfl rfl⟩
abbrev mX12_isSign : MI := (RX12, cX12_isSign, 2, (some .boolean), yX12_isSign)
set_option maxRecDepth 50000 in
theorem fX12_isSign : qmf mX12_isSign 1 := ⟨qw_g 1513 rfl rfl, qw_g 115 rfl rfl, by decide +kernel, by decide +kernel, by decide +kernel⟩
set_option maxRecDepth 50000 in
theorem iX12_isSign : Cond.instanceMethod yX12_isSign ∈ qw_good := qw_g 1512 rfl rfl
set_option maxRecDepth 50000 in
theorem vX12_isSign : qmv mX12_isSign 11 := ⟨TX12, 62, rfl, by decide, iX12_isSign, qw_g 54 rfl rfl⟩
abbrev mX12_bad : MI := (RX12, cX12_bad, 2, (some .boolean), yX12_bad)
set_option maxRecDepth 50000 in
theorem fX12_bad : qmf mX12_bad 1 := ⟨qw_g 1498 rfl rfl, qw_g 115 rfl rfl, by decide +kernel, by decide +kernel, by decide +kernel⟩
set_option maxRecDepth 50000 in
theorem iX12_bad : Cond.instanceMethod yX12_bad ∈ qw_good := qw_g 1497 rfl rfl
set_option maxRecDepth 50000 in
theorem vX12_bad : qmv mX12_bad 11 := ⟨TX12, 62, rfl, by decide, iX12_bad, qw_g 51 rfl rfl⟩
set_option maxRecDepth 50000 in
theorem qRX12_130 : qfL RX12 130 11 10 0 false := ⟨RX12, TX12, 62, tyX12 10, qc_11, by decide, rfl, by decide +kernel, rfl, rfl, rfl, Or.inl (qw_g 1263 rfl rfl)⟩
set_option maxRecDepth 50000 in
theorem qRX12_133 : qfL RX12 133 11 11 0 false := ⟨RX12, TX12, 62, tyX12 11, qc_11, by decide, rfl, by decide +kernel, rfl, rfl, rfl, Or.inl (qw_g 1264 rfl rfl)⟩
abbrev mX12_readNumber : MI := (RX12, cX12_readNumber, 3, (some .boolean), yX12_readNumber)
set_option maxRecDepth 50000 in
theorem fX12_readNumber : qmf mX12_readNumber 2 := ⟨qw_g 1502 rfl rfl, qw_g 115 rfl rfl, by decide +kernel, by decide +kernel, by decide +kernel⟩
set_option maxRecDepth 50000 in
theorem iX12_readNumber : Cond.instanceMethod yX12_readNumber ∈ qw_good := qw_g 1501 rfl rfl
set_option maxRecDepth 50000 in
theorem vX12_readNumber : qmv mX12_readNumber 11 := ⟨TX12, 62, rfl, by decide, iX12_readNumber, qw_g 52 rfl rfl⟩
set_option maxRecDepth 50000 in
theorem lRX12_136 : Cond.methodLink RX12 136 yX12_bad ∈ qw_good := qw_g 1495 rfl rfl
set_option maxRecDepth 50000 in
theorem lRX12_139 : Cond.methodLink RX12 139 yX12_isIn ∈ qw_good := qw_g 1503 rfl rfl
set_option maxRecDepth 50000 in
theorem qRX12_143 : qfL RX12 143 11 13 0 false := ⟨RX12, TX12, 62, tyX12 13, qc_11, by decide, rfl, by decide +kernel, rfl, rfl, rfl, Or.inl (qw_g 1266 rfl rfl)⟩
set_option maxRecDepth 50000 in
theorem lRX12_146 : Cond.methodLink RX12 146 yX12_go ∈ qw_good := qw_g 1468 rfl rfl
abbrev mX12_readKey : MI := (RX12, cX12_readKey, 3, (some .boolean), yX12_readKey)
set_option maxRecDepth 50000 in
theorem fX12_readKey : qmf mX12_readKey 1 := ⟨qw_g 1564 rfl rfl, qw_g 115 rfl rfl, by decide +kernel, by decide +kernel, by decide +kernel⟩
set_option maxRecDepth 50000 in
theorem iX12_readKey : Cond.instanceMethod yX12_readKey ∈ qw_good := qw_g 1563 rfl rfl
set_option maxRecDepth 50000 in
theorem vX12_readKey : qmv mX12_readKey 11 := ⟨TX12, 62, rfl, by decide, iX12_readKey, qw_g 63 rfl rfl⟩
set_option maxRecDepth 50000 in
theorem lRX12_149 : Cond.methodLink RX12 149 yX12_isKey ∈ qw_good := qw_g 1491 rfl rfl
abbrev mX12_readEnd : MI := (RX12, cX12_readEnd, 1, (some .boolean), yX12_readEnd)
set_option maxRecDepth 50000 in
theorem fX12_readEnd : qmf mX12_readEnd 0 := ⟨qw_g 1509 rfl rfl, qw_g 115 rfl rfl, by decide +kernel, by decide +kernel, by decide +kernel⟩
set_option maxRecDepth 50000 in
theorem iX12_readEnd : Cond.instanceMethod yX12_readEnd ∈ qw_good := qw_g 1508 rfl rfl
set_option maxRecDepth 50000 in
theorem vX12_readEnd : qmv mX12_readEnd 11 := ⟨TX12, 62, rfl, by decide, iX12_readEnd, qw_g 53 rfl rfl⟩
set_option maxRecDepth 50000 in
theorem lRX12_153 : Cond.methodLink RX12 153 yX12_isSign ∈ qw_good := qw_g 1510 rfl rfl
abbrev mX12_readTo : MI := (RX12, cX12_readTo, 1, (some .boolean), yX12_readTo)
set_option maxRecDepth 50000 in
theorem fX12_readTo : qmf mX12_readTo 0 := ⟨qw_g 1576 rfl rfl, qw_g 115 rfl rfl, by decide +kernel, by decide +kernel, by decide +kernel⟩
set_option maxRecDepth 50000 in
theorem iX12_readTo : Cond.instanceMethod yX12_readTo ∈ qw_good := qw_g 1575 rfl rfl
set_option maxRecDepth 50000 in
theorem vX12_readTo : qmv mX12_readTo 11 := ⟨TX12, 62, rfl, by decide, iX12_readTo, qw_g 66 rfl rfl⟩
set_option maxRecDepth 50000 in
theorem lRX12_156 : Cond.methodLink RX12 156 yX12_readKey ∈ qw_good := qw_g 1561 rfl rfl
abbrev mX12_readFrom : MI := (RX12, cX12_readFrom, 1, (some .boolean), yX12_readFrom)
set_option maxRecDepth 50000 in
theorem fX12_readFrom : qmf mX12_readFrom 0 := ⟨qw_g 1568 rfl rfl, qw_g 115 rfl rfl, by decide +kernel, by decide +kernel, by decide +kernel⟩
set_option maxRecDepth 50000 in
theorem iX12_readFrom : Cond.instanceMethod yX12_readFrom ∈ qw_good := qw_g 1567 rfl rfl
set_option maxRecDepth 50000 in
theorem vX12_readFrom : qmv mX12_readFrom 11 := ⟨TX12, 62, rfl, by decide, iX12_readFrom, qw_g 64 rfl rfl⟩
abbrev mX12_isTurn : MI := (RX12, cX12_isTurn, 1, (some .boolean), yX12_isTurn)
set_option maxRecDepth 50000 in
theorem fX12_isTurn : qmf mX12_isTurn 0 := ⟨qw_g 1487 rfl rfl, qw_g 115 rfl rfl, by decide +kernel, by decide +kernel, by decide +kernel⟩
set_option maxRecDepth 50000 in
theorem iX12_isTurn : Cond.instanceMethod yX12_isTurn ∈ qw_good := qw_g 1486 rfl rfl
set_option maxRecDepth 50000 in
theorem vX12_isTurn : qmv mX12_isTurn 11 := ⟨TX12, 62, rfl, by decide, iX12_isTurn, qw_g 49 rfl rfl⟩
abbrev mX12_isRub : MI := (RX12, cX12_isRub, 1, (some .boolean), yX12_isRub)
set_option maxRecDepth 50000 in
theorem fX12_isRub : qmf mX12_isRub 0 := ⟨qw_g 1521 rfl rfl, qw_g 115 rfl rfl, by decide +kernel, by decide +kernel, by decide +kernel⟩
set_option maxRecDepth 50000 in
theorem iX12_isRub : Cond.instanceMethod yX12_isRub ∈ qw_good := qw_g 1520 rfl rfl
set_option maxRecDepth 50000 in
theorem vX12_isRub : qmv mX12_isRub 11 := ⟨TX12, 62, rfl, by decide, iX12_isRub, qw_g 56 rfl rfl⟩
abbrev mX12_isOut : MI := (RX12, cX12_isOut, 1, (some .boolean), yX12_isOut)
set_option maxRecDepth 50000 in
theorem fX12_isOut : qmf mX12_isOut 0 := ⟨qw_g 1546 rfl rfl, qw_g 115 rfl rfl, by decide +kernel, by decide +kernel, by decide +kernel⟩
set_option maxRecDepth 50000 in
theorem iX12_isOut : Cond.instanceMethod yX12_isOut ∈ qw_good := qw_g 1545 rfl rfl
set_option maxRecDepth 50000 in
theorem vX12_isOut : qmv mX12_isOut 11 := ⟨TX12, 62, rfl, by decide, iX12_isOut, qw_g 60 rfl rfl⟩
abbrev mX12_isShut : MI := (RX12, cX12_isShut, 1, (some .boolean), yX12_isShut)
set_option maxRecDepth 50000 in
theorem fX12_isShut : qmf mX12_isShut 0 := ⟨qw_g 1550 rfl rfl, qw_g 115 rfl rfl, by decide +kernel, by decide +kernel, by decide +kernel⟩
set_option maxRecDepth 50000 in
theorem iX12_isShut : Cond.instanceMethod yX12_isShut ∈ qw_good := qw_g 1549 rfl rfl
set_option maxRecDepth 50000 in
theorem vX12_isShut : qmv mX12_isShut 11 := ⟨TX12, 62, rfl, by decide, iX12_isShut, qw_g 61 rfl rfl⟩
abbrev mX12_arm : MI := (RX12, cX12_arm, 0, (some .long), yX12_arm)
set_option maxRecDepth 50000 in
theorem fX12_arm : qmf mX12_arm 0 := ⟨qw_g 1553 rfl rfl, qw_g 115 rfl rfl, by decide +kernel, by decide +kernel, by decide +kernel⟩
set_option maxRecDepth 50000 in
theorem sX12_arm : Cond.static yX12_arm ∈ qw_good := qw_g 1552 rfl rfl
abbrev mX12_at : MI := (RX12, cX12_at, 0, (some .long), yX12_at)
set_option maxRecDepth 50000 in
theorem fX12_at : qmf mX12_at 0 := ⟨qw_g 1556 rfl rfl, qw_g 115 rfl rfl, by decide +kernel, by decide +kernel, by decide +kernel⟩
set_option maxRecDepth 50000 in
theorem sX12_at : Cond.static yX12_at ∈ qw_good := qw_g 1555 rfl rfl
abbrev mX12_fed : MI := (RX12, cX12_fed, 0, (some .long), yX12_fed)
set_option maxRecDepth 50000 in
theorem fX12_fed : qmf mX12_fed 0 := ⟨qw_g 1531 rfl rfl, qw_g 115 rfl rfl, by decide +kernel, by decide +kernel, by decide +kernel⟩
set_option maxRecDepth 50000 in
theorem sX12_fed : Cond.static yX12_fed ∈ qw_good := qw_g 1530 rfl rfl
abbrev mX12_partAtHand : MI := (RX12, cX12_partAtHand, 1, (some .int), yX12_partAtHand)
set_option maxRecDepth 50000 in
theorem fX12_partAtHand : qmf mX12_partAtHand 0 := ⟨qw_g 1525 rfl rfl, qw_g 115 rfl rfl, by decide +kernel, by decide +kernel, by decide +kernel⟩
set_option maxRecDepth 50000 in
theorem iX12_partAtHand : Cond.instanceMethod yX12_partAtHand ∈ qw_good := qw_g 1524 rfl rfl
set_option maxRecDepth 50000 in
theorem vX12_partAtHand : qmv mX12_partAtHand 11 := ⟨TX12, 62, rfl, by decide, iX12_partAtHand, qw_g 57 rfl rfl⟩
set_option maxRecDepth 50000 in
theorem lRX12_159 : Cond.methodLink RX12 159 yX12_six ∈ qw_good := qw_g 1526 rfl rfl
set_option maxRecDepth 50000 in
theorem lRX12_163 : Cond.methodLink RX12 163 yX12_fed ∈ qw_good := qw_g 1529 rfl rfl
abbrev mX12_isName : MI := (RX12, cX12_isName, 1, (some .boolean), yX12_isName)
set_option maxRecDepth 50000 in
theorem fX12_isName : qmf mX12_isName 0 := ⟨qw_g 1542 rfl rfl, qw_g 115 rfl rfl, by decide +kernel, by decide +kernel, by decide +kernel⟩
set_option maxRecDepth 50000 in
theorem iX12_isName : Cond.instanceMethod yX12_isName ∈ qw_good := qw_g 1541 rfl rfl
set_option maxRecDepth 50000 in
theorem vX12_isName : qmv mX12_isName 11 := ⟨TX12, 62, rfl, by decide, iX12_isName, qw_g 59 rfl rfl⟩
set_option maxRecDepth 50000 in
theorem lRX12_167 : Cond.methodLink RX12 167 yX12_partAtHand ∈ qw_good := qw_g 1522 rfl rfl
set_option maxRecDepth 50000 in
theorem lRX12_171 : Cond.methodLink RX12 171 yX12_isTurn ∈ qw_good := qw_g 1484 rfl rfl
set_option maxRecDepth 50000 in
theorem lRX12_175 : Cond.methodLink RX12 175 yX12_isRub ∈ qw_good := qw_g 1518 rfl rfl
set_option maxRecDepth 50000 in
theorem lRX12_178 : Cond.methodLink RX12 178 yX12_isOut ∈ qw_good := qw_g 1543 rfl rfl
set_option maxRecDepth 50000 in
theorem lRX12_181 : Cond.methodLink RX12 181 yX12_isShut ∈ qw_good := qw_g 1547 rfl rfl
set_option maxRecDepth 50000 in
theorem lRX12_184 : Cond.methodLink RX12 184 yX12_arm ∈ qw_good := qw_g 1551 rfl rfl
set_option maxRecDepth 50000 in
theorem lRX12_187 : Cond.methodLink RX12 187 yX12_at ∈ qw_good := qw_g 1554 rfl rfl
abbrev mX12_lay : MI := (RX12, cX12_lay, 1, none, yX12_lay)
set_option maxRecDepth 50000 in
theorem fX12_lay : qmf mX12_lay 0 := ⟨qw_g 1463 rfl rfl, qw_g 115 rfl rfl, by decide +kernel, by decide +kernel, by decide +kernel⟩
set_option maxRecDepth 50000 in
theorem iX12_lay : Cond.instanceMethod yX12_lay ∈ qw_good := qw_g 1462 rfl rfl
set_option maxRecDepth 50000 in
theorem vX12_lay : qmv mX12_lay 11 := ⟨TX12, 62, rfl, by decide, iX12_lay, qw_g 45 rfl rfl⟩
set_option maxRecDepth 50000 in
theorem qRX12_190 : qfL RX12 190 11 20 1 false := ⟨RX12, TX12, 62, tyX12 20, qc_11, by decide, rfl, by decide +kernel, rfl, rfl, rfl, Or.inl (qw_g 1273 rfl rfl)⟩
abbrev mX12_slot : MI := (RX12, cX12_slot, 2, (some .int), yX12_slot)
set_option maxRecDepth 50000 in
theorem fX12_slot : qmf mX12_slot 2 := ⟨qw_g 1538 rfl rfl, qw_g 115 rfl rfl, by decide +kernel, by decide +kernel, by decide +kernel⟩
set_option maxRecDepth 50000 in
theorem sX12_slot : Cond.static yX12_slot ∈ qw_good := qw_g 1537 rfl rfl
abbrev mX12_readPart : MI := (RX12, cX12_readPart, 6, (some .boolean), yX12_readPart)
set_option maxRecDepth 50000 in
theorem fX12_readPart : qmf mX12_readPart 1 := ⟨qw_g 1535 rfl rfl, qw_g 115 rfl rfl, by decide +kernel, by decide +kernel, by decide +kernel⟩
set_option maxRecDepth 50000 in
theorem iX12_readPart : Cond.instanceMethod yX12_readPart ∈ qw_good := qw_g 1534 rfl rfl
set_option maxRecDepth 50000 in
theorem vX12_readPart : qmv mX12_readPart 11 := ⟨TX12, 62, rfl, by decide, iX12_readPart, qw_g 58 rfl rfl⟩
set_option maxRecDepth 50000 in
theorem lRX12_194 : Cond.methodLink RX12 194 yX12_slot ∈ qw_good := qw_g 1536 rfl rfl
set_option maxRecDepth 50000 in
theorem lRX12_198 : Cond.methodLink RX12 198 yX12_isName ∈ qw_good := qw_g 1539 rfl rfl
set_option maxRecDepth 50000 in
theorem lRX12_201 : Cond.methodLink RX12 201 yX12_readNumber ∈ qw_good := qw_g 1499 rfl rfl
set_option maxRecDepth 50000 in
theorem lRX12_205 : Cond.methodLink RX12 205 yX12_readWeight ∈ qw_good := qw_g 1557 rfl rfl
set_option maxRecDepth 50000 in
theorem lRX12_208 : Cond.methodLink RX12 208 yX12_readFrom ∈ qw_good := qw_g 1565 rfl rfl
set_option maxRecDepth 50000 in
theorem lRX12_211 : Cond.methodLink RX12 211 yX12_readSpan ∈ qw_good := qw_g 1569 rfl rfl
abbrev mX12_readWeight : MI := (RX12, cX12_readWeight, 3, (some .boolean), yX12_readWeight)
set_option maxRecDepth 50000 in
theorem fX12_readWeight : qmf mX12_readWeight 2 := ⟨qw_g 1560 rfl rfl, qw_g 115 rfl rfl, by decide +kernel, by decide +kernel, by decide +kernel⟩
set_option maxRecDepth 50000 in
theorem iX12_readWeight : Cond.instanceMethod yX12_readWeight ∈ qw_good := qw_g 1559 rfl rfl
set_option maxRecDepth 50000 in
theorem vX12_readWeight : qmv mX12_readWeight 11 := ⟨TX12, 62, rfl, by decide, iX12_readWeight, qw_g 62 rfl rfl⟩
abbrev mX12_readSpan : MI := (RX12, cX12_readSpan, 3, (some .boolean), yX12_readSpan)
set_option maxRecDepth 50000 in
theorem fX12_readSpan : qmf mX12_readSpan 2 := ⟨qw_g 1572 rfl rfl, qw_g 115 rfl rfl, by decide +kernel, by decide +kernel, by decide +kernel⟩
set_option maxRecDepth 50000 in
theorem iX12_readSpan : Cond.instanceMethod yX12_readSpan ∈ qw_good := qw_g 1571 rfl rfl
set_option maxRecDepth 50000 in
theorem vX12_readSpan : qmv mX12_readSpan 11 := ⟨TX12, 62, rfl, by decide, iX12_readSpan, qw_g 65 rfl rfl⟩
set_option maxRecDepth 50000 in
theorem lRX12_214 : Cond.methodLink RX12 214 yX12_readTo ∈ qw_good := qw_g 1573 rfl rfl
abbrev mX12_drawing : MI := (RX12, cX12_drawing, 1, (some .int), yX12_drawing)
set_option maxRecDepth 50000 in
theorem fX12_drawing : qmf mX12_drawing 0 := ⟨qw_g 1459 rfl rfl, qw_g 115 rfl rfl, by decide +kernel, by decide +kernel, by decide +kernel⟩
set_option maxRecDepth 50000 in
theorem iX12_drawing : Cond.instanceMethod yX12_drawing ∈ qw_good := qw_g 1457 rfl rfl
set_option maxRecDepth 50000 in
theorem vX12_drawing : qmv mX12_drawing 11 := ⟨TX12, 62, rfl, by decide, iX12_drawing, qw_g 1458 rfl rfl⟩
set_option maxRecDepth 50000 in
theorem lRX12_217 : Cond.methodLink RX12 217 yX12_lay ∈ qw_good := qw_g 1460 rfl rfl
set_option maxRecDepth 50000 in
theorem lRX12_220 : Cond.methodLink RX12 220 yX12_take ∈ qw_good := qw_g 1464 rfl rfl
set_option maxRecDepth 50000 in
theorem lRX12_223 : Cond.methodLink RX12 223 yX12_readEnd ∈ qw_good := qw_g 1506 rfl rfl
set_option maxRecDepth 50000 in
theorem lRX12_226 : Cond.methodLink RX12 226 yX12_readLine ∈ qw_good := qw_g 1514 rfl rfl
set_option maxRecDepth 50000 in
theorem lRX12_229 : Cond.methodLink RX12 229 yX12_copy ∈ qw_good := qw_g 1577 rfl rfl
abbrev mX12_readLine : MI := (RX12, cX12_readLine, 2, (some .boolean), yX12_readLine)
set_option maxRecDepth 50000 in
theorem fX12_readLine : qmf mX12_readLine 0 := ⟨qw_g 1517 rfl rfl, qw_g 115 rfl rfl, by decide +kernel, by decide +kernel, by decide +kernel⟩
set_option maxRecDepth 50000 in
theorem iX12_readLine : Cond.instanceMethod yX12_readLine ∈ qw_good := qw_g 1516 rfl rfl
set_option maxRecDepth 50000 in
theorem vX12_readLine : qmv mX12_readLine 11 := ⟨TX12, 62, rfl, by decide, iX12_readLine, qw_g 55 rfl rfl⟩
set_option maxRecDepth 50000 in
theorem lRX12_233 : Cond.methodLink RX12 233 yX12_readPart ∈ qw_good := qw_g 1532 rfl rfl
abbrev mX12_copy : MI := (RX12, cX12_copy, 4, none, yX12_copy)
set_option maxRecDepth 50000 in
theorem fX12_copy : qmf mX12_copy 2 := ⟨qw_g 1580 rfl rfl, qw_g 115 rfl rfl, by decide +kernel, by decide +kernel, by decide +kernel⟩
set_option maxRecDepth 50000 in
theorem iX12_copy : Cond.instanceMethod yX12_copy ∈ qw_good := qw_g 1579 rfl rfl
set_option maxRecDepth 50000 in
theorem vX12_copy : qmv mX12_copy 11 := ⟨TX12, 62, rfl, by decide, iX12_copy, qw_g 67 rfl rfl⟩
abbrev mX12_fault : MI := (RX12, cX12_fault, 1, (some .int), yX12_fault)
set_option maxRecDepth 50000 in
theorem fX12_fault : qmf mX12_fault 0 := ⟨qw_g 1584 rfl rfl, qw_g 115 rfl rfl, by decide +kernel, by decide +kernel, by decide +kernel⟩
set_option maxRecDepth 50000 in
theorem iX12_fault : Cond.instanceMethod yX12_fault ∈ qw_good := qw_g 1582 rfl rfl
set_option maxRecDepth 50000 in
theorem vX12_fault : qmv mX12_fault 11 := ⟨TX12, 62, rfl, by decide, iX12_fault, qw_g 1583 rfl rfl⟩
abbrev mX12_round : MI := (RX12, cX12_round, 2, (some .int), yX12_round)
set_option maxRecDepth 50000 in
theorem fX12_round : qmf mX12_round 1 := ⟨qw_g 1608 rfl rfl, qw_g 115 rfl rfl, by decide +kernel, by decide +kernel, by decide +kernel⟩
set_option maxRecDepth 50000 in
theorem iX12_round : Cond.instanceMethod yX12_round ∈ qw_good := qw_g 1607 rfl rfl
set_option maxRecDepth 50000 in
theorem vX12_round : qmv mX12_round 11 := ⟨TX12, 62, rfl, by decide, iX12_round, qw_g 72 rfl rfl⟩
abbrev mX12_high : MI := (RX12, cX12_high, 2, (some .int), yX12_high)
set_option maxRecDepth 50000 in
theorem fX12_high : qmf mX12_high 1 := ⟨qw_g 1632 rfl rfl, qw_g 115 rfl rfl, by decide +kernel, by decide +kernel, by decide +kernel⟩
set_option maxRecDepth 50000 in
theorem iX12_high : Cond.instanceMethod yX12_high ∈ qw_good := qw_g 1631 rfl rfl
set_option maxRecDepth 50000 in
theorem vX12_high : qmv mX12_high 11 := ⟨TX12, 62, rfl, by decide, iX12_high, qw_g 77 rfl rfl⟩
abbrev mX12_isWithin : MI := (RX12, cX12_isWithin, 4, (some .boolean), yX12_isWithin)
set_option maxRecDepth 50000 in
theorem fX12_isWithin : qmf mX12_isWithin 3 := ⟨qw_g 1628 rfl rfl, qw_g 115 rfl rfl, by decide +kernel, by decide +kernel, by decide +kernel⟩
set_option maxRecDepth 50000 in
theorem iX12_isWithin : Cond.instanceMethod yX12_isWithin ∈ qw_good := qw_g 1627 rfl rfl
set_option maxRecDepth 50000 in
theorem vX12_isWithin : qmv mX12_isWithin 11 := ⟨TX12, 62, rfl, by decide, iX12_isWithin, qw_g 76 rfl rfl⟩
abbrev mX12_isWithin_ : MI := (RX12, cX12_isWithin_, 4, (some .boolean), yX12_isWithin_)
set_option maxRecDepth 50000 in
theorem fX12_isWithin_ : qmf mX12_isWithin_ 2 := ⟨qw_g 1624 rfl rfl, qw_g 115 rfl rfl, by decide +kernel, by decide +kernel, by decide +kernel⟩
set_option maxRecDepth 50000 in
theorem iX12_isWithin_ : Cond.instanceMethod yX12_isWithin_ ∈ qw_good := qw_g 1623 rfl rfl
set_option maxRecDepth 50000 in
theorem vX12_isWithin_ : qmv mX12_isWithin_ 11 := ⟨TX12, 62, rfl, by decide, iX12_isWithin_, qw_g 75 rfl rfl⟩
set_option maxRecDepth 50000 in
theorem lRX12_236 : Cond.methodLink RX12 236 yX12_isWithin ∈ qw_good := qw_g 1625 rfl rfl
abbrev mX12_placeOf : MI := (RX12, cX12_placeOf, 3, (some .int), yX12_placeOf)
set_option maxRecDepth 50000 in
theorem fX12_placeOf : qmf mX12_placeOf 2 := ⟨qw_g 1604 rfl rfl, qw_g 115 rfl rfl, by decide +kernel, by decide +kernel, by decide +kernel⟩
set_option maxRecDepth 50000 in
theorem iX12_placeOf : Cond.instanceMethod yX12_placeOf ∈ qw_good := qw_g 1603 rfl rfl
set_option maxRecDepth 50000 in
theorem vX12_placeOf : qmv mX12_placeOf 11 := ⟨TX12, 62, rfl, by decide, iX12_placeOf, qw_g 71 rfl rfl⟩
set_option maxRecDepth 50000 in
theorem lRX12_239 : Cond.methodLink RX12 239 yX12_round ∈ qw_good := qw_g 1605 rfl rfl
abbrev mX12_armOf : MI := (RX12, cX12_armOf, 4, (some .int), yX12_armOf)
set_option maxRecDepth 50000 in
theorem fX12_armOf : qmf mX12_armOf 2 := ⟨qw_g 1620 rfl rfl, qw_g 115 rfl rfl, by decide +kernel, by decide +kernel, by decide +kernel⟩
set_option maxRecDepth 50000 in
theorem iX12_armOf : Cond.instanceMethod yX12_armOf ∈ qw_good := qw_g 1619 rfl rfl
set_option maxRecDepth 50000 in
theorem vX12_armOf : qmv mX12_armOf 11 := ⟨TX12, 62, rfl, by decide, iX12_armOf, qw_g 74 rfl rfl⟩
set_option maxRecDepth 50000 in
theorem lRX12_242 : Cond.methodLink RX12 242 yX12_isWithin_ ∈ qw_good := qw_g 1621 rfl rfl
abbrev mX12_energyOf : MI := (RX12, cX12_energyOf, 6, (some .int), yX12_energyOf)
set_option maxRecDepth 50000 in
theorem fX12_energyOf : qmf mX12_energyOf 2 := ⟨qw_g 1616 rfl rfl, qw_g 115 rfl rfl, by decide +kernel, by decide +kernel, by decide +kernel⟩
set_option maxRecDepth 50000 in
theorem iX12_energyOf : Cond.instanceMethod yX12_energyOf ∈ qw_good := qw_g 1615 rfl rfl
set_option maxRecDepth 50000 in
theorem vX12_energyOf : qmv mX12_energyOf 11 := ⟨TX12, 62, rfl, by decide, iX12_energyOf, qw_g 73 rfl rfl⟩
set_option maxRecDepth 50000 in
theorem lRX12_244 : Cond.methodLink RX12 244 yX12_armOf ∈ qw_good := qw_g 1617 rfl rfl
set_option maxRecDepth 50000 in
theorem lRX12_247 : Cond.methodLink RX12 247 yX12_high ∈ qw_good := qw_g 1629 rfl rfl
abbrev mX12_givesOf : MI := (RX12, cX12_givesOf, 10, (some .int), yX12_givesOf)
set_option maxRecDepth 50000 in
theorem fX12_givesOf : qmf mX12_givesOf 3 := ⟨qw_g 1643 rfl rfl, qw_g 115 rfl rfl, by decide +kernel, by decide +kernel, by decide +kernel⟩
set_option maxRecDepth 50000 in
theorem iX12_givesOf : Cond.instanceMethod yX12_givesOf ∈ qw_good := qw_g 1642 rfl rfl
set_option maxRecDepth 50000 in
theorem vX12_givesOf : qmv mX12_givesOf 11 := ⟨TX12, 62, rfl, by decide, iX12_givesOf, qw_g 78 rfl rfl⟩
set_option maxRecDepth 50000 in
theorem lRX12_250 : Cond.methodLink RX12 250 yX12_placeOf ∈ qw_good := qw_g 1601 rfl rfl
set_option maxRecDepth 50000 in
theorem lRX12_253 : Cond.methodLink RX12 253 yX12_energyOf ∈ qw_good := qw_g 1613 rfl rfl
abbrev mX12_rubOf : MI := (RX12, cX12_rubOf, 2, (some .int), yX12_rubOf)
set_option maxRecDepth 50000 in
theorem fX12_rubOf : qmf mX12_rubOf 1 := ⟨qw_g 1655 rfl rfl, qw_g 115 rfl rfl, by decide +kernel, by decide +kernel, by decide +kernel⟩
set_option maxRecDepth 50000 in
theorem iX12_rubOf : Cond.instanceMethod yX12_rubOf ∈ qw_good := qw_g 1654 rfl rfl
set_option maxRecDepth 50000 in
theorem vX12_rubOf : qmv mX12_rubOf 11 := ⟨TX12, 62, rfl, by decide, iX12_rubOf, qw_g 80 rfl rfl⟩
abbrev mX12_isPart : MI := (RX12, cX12_isPart, 2, (some .boolean), yX12_isPart)
set_option maxRecDepth 50000 in
theorem fX12_isPart : qmf mX12_isPart 1 := ⟨qw_g 1592 rfl rfl, qw_g 115 rfl rfl, by decide +kernel, by decide +kernel, by decide +kernel⟩
set_option maxRecDepth 50000 in
theorem iX12_isPart : Cond.instanceMethod yX12_isPart ∈ qw_good := qw_g 1591 rfl rfl
set_option maxRecDepth 50000 in
theorem vX12_isPart : qmv mX12_isPart 11 := ⟨TX12, 62, rfl, by decide, iX12_isPart, qw_g 68 rfl rfl⟩
abbrev mX12_isTime : MI := (RX12, cX12_isTime, 2, (some .boolean), yX12_isTime)
set_option maxRecDepth 50000 in
theorem fX12_isTime : qmf mX12_isTime 1 := ⟨qw_g 1596 rfl rfl, qw_g 115 rfl rfl, by decide +kernel, by decide +kernel, by decide +kernel⟩
set_option maxRecDepth 50000 in
theorem iX12_isTime : Cond.instanceMethod yX12_isTime ∈ qw_good := qw_g 1595 rfl rfl
set_option maxRecDepth 50000 in
theorem vX12_isTime : qmv mX12_isTime 11 := ⟨TX12, 62, rfl, by decide, iX12_isTime, qw_g 69 rfl rfl⟩
abbrev mX12_isWorld : MI := (RX12, cX12_isWorld, 1, (some .boolean), yX12_isWorld)
set_option maxRecDepth 50000 in
theorem fX12_isWorld : qmf mX12_isWorld 1 := ⟨qw_g 1639 rfl rfl, qw_g 115 rfl rfl, by decide +kernel, by decide +kernel, by decide +kernel⟩
set_option maxRecDepth 50000 in
theorem sX12_isWorld : Cond.static yX12_isWorld ∈ qw_good := qw_g 1638 rfl rfl
abbrev mX12_place : MI := (RX12, cX12_place, 3, (some .int), yX12_place)
set_option maxRecDepth 50000 in
theorem fX12_place : qmf mX12_place 2 := ⟨qw_g 1588 rfl rfl, qw_g 115 rfl rfl, by decide +kernel, by decide +kernel, by decide +kernel⟩
set_option maxRecDepth 50000 in
theorem iX12_place : Cond.instanceMethod yX12_place ∈ qw_good := qw_g 1586 rfl rfl
set_option maxRecDepth 50000 in
theorem vX12_place : qmv mX12_place 11 := ⟨TX12, 62, rfl, by decide, iX12_place, qw_g 1587 rfl rfl⟩
set_option maxRecDepth 50000 in
theorem lRX12_256 : Cond.methodLink RX12 256 yX12_isPart ∈ qw_good := qw_g 1589 rfl rfl
set_option maxRecDepth 50000 in
theorem lRX12_259 : Cond.methodLink RX12 259 yX12_isTime ∈ qw_good := qw_g 1593 rfl rfl
set_option maxRecDepth 50000 in
theorem lRX12_262 : Cond.methodLink RX12 262 yX12_refuse ∈ qw_good := qw_g 1597 rfl rfl
abbrev mX12_energy : MI := (RX12, cX12_energy, 3, (some .int), yX12_energy)
set_option maxRecDepth 50000 in
theorem fX12_energy : qmf mX12_energy 2 := ⟨qw_g 1612 rfl rfl, qw_g 115 rfl rfl, by decide +kernel, by decide +kernel, by decide +kernel⟩
set_option maxRecDepth 50000 in
theorem iX12_energy : Cond.instanceMethod yX12_energy ∈ qw_good := qw_g 1610 rfl rfl
set_option maxRecDepth 50000 in
theorem vX12_energy : qmv mX12_energy 11 := ⟨TX12, 62, rfl, by decide, iX12_energy, qw_g 1611 rfl rfl⟩
abbrev mX12_gives : MI := (RX12, cX12_gives, 4, (some .int), yX12_gives)
set_option maxRecDepth 50000 in
theorem fX12_gives : qmf mX12_gives 3 := ⟨qw_g 1636 rfl rfl, qw_g 115 rfl rfl, by decide +kernel, by decide +kernel, by decide +kernel⟩
set_option maxRecDepth 50000 in
theorem iX12_gives : Cond.instanceMethod yX12_gives ∈ qw_good := qw_g 1634 rfl rfl
set_option maxRecDepth 50000 in
theorem vX12_gives : qmv mX12_gives 11 := ⟨TX12, 62, rfl, by decide, iX12_gives, qw_g 1635 rfl rfl⟩
set_option maxRecDepth 50000 in
theorem lRX12_265 : Cond.methodLink RX12 265 yX12_isWorld ∈ qw_good := qw_g 1637 rfl rfl
set_option maxRecDepth 50000 in
theorem lRX12_268 : Cond.methodLink RX12 268 yX12_givesOf ∈ qw_good := qw_g 1640 rfl rfl
abbrev mX12_sumOf : MI := (RX12, cX12_sumOf, 5, (some .int), yX12_sumOf)
set_option maxRecDepth 50000 in
theorem fX12_sumOf : qmf mX12_sumOf 2 := ⟨qw_g 1659 rfl rfl, qw_g 115 rfl rfl, by decide +kernel, by decide +kernel, by decide +kernel⟩
set_option maxRecDepth 50000 in
theorem iX12_sumOf : Cond.instanceMethod yX12_sumOf ∈ qw_good := qw_g 1658 rfl rfl
set_option maxRecDepth 50000 in
theorem vX12_sumOf : qmv mX12_sumOf 11 := ⟨TX12, 62, rfl, by decide, iX12_sumOf, qw_g 81 rfl rfl⟩
abbrev mX12_whole : MI := (RX12, cX12_whole, 4, (some .int), yX12_whole)
set_option maxRecDepth 50000 in
theorem fX12_whole : qmf mX12_whole 1 := ⟨qw_g 1651 rfl rfl, qw_g 115 rfl rfl, by decide +kernel, by decide +kernel, by decide +kernel⟩
set_option maxRecDepth 50000 in
theorem iX12_whole : Cond.instanceMethod yX12_whole ∈ qw_good := qw_g 1650 rfl rfl
set_option maxRecDepth 50000 in
theorem vX12_whole : qmv mX12_whole 11 := ⟨TX12, 62, rfl, by decide, iX12_whole, qw_g 79 rfl rfl⟩
set_option maxRecDepth 50000 in
theorem lRX12_272 : Cond.methodLink RX12 272 yX12_rubOf ∈ qw_good := qw_g 1652 rfl rfl
set_option maxRecDepth 50000 in
theorem lRX12_275 : Cond.methodLink RX12 275 yX12_sumOf ∈ qw_good := qw_g 1656 rfl rfl
abbrev mX12_sum : MI := (RX12, cX12_sum, 3, (some .int), yX12_sum)
set_option maxRecDepth 50000 in
theorem fX12_sum : qmf mX12_sum 2 := ⟨qw_g 1647 rfl rfl, qw_g 115 rfl rfl, by decide +kernel, by decide +kernel, by decide +kernel⟩
set_option maxRecDepth 50000 in
theorem iX12_sum : Cond.instanceMethod yX12_sum ∈ qw_good := qw_g 1645 rfl rfl
set_option maxRecDepth 50000 in
theorem vX12_sum : qmv mX12_sum 11 := ⟨TX12, 62, rfl, by decide, iX12_sum, qw_g 1646 rfl rfl⟩
set_option maxRecDepth 50000 in
theorem lRX12_278 : Cond.methodLink RX12 278 yX12_whole ∈ qw_good := qw_g 1648 rfl rfl
abbrev mX12_layWorld : MI := (RX12, cX12_layWorld, 5, none, yX12_layWorld)
set_option maxRecDepth 50000 in
theorem fX12_layWorld : qmf mX12_layWorld 1 := ⟨qw_g 1668 rfl rfl, qw_g 115 rfl rfl, by decide +kernel, by decide +kernel, by decide +kernel⟩
set_option maxRecDepth 50000 in
theorem iX12_layWorld : Cond.instanceMethod yX12_layWorld ∈ qw_good := qw_g 1667 rfl rfl
set_option maxRecDepth 50000 in
theorem vX12_layWorld : qmv mX12_layWorld 11 := ⟨TX12, 62, rfl, by decide, iX12_layWorld, qw_g 82 rfl rfl⟩
abbrev mX12_play : MI := (RX12, cX12_play, 7, none, yX12_play)
set_option maxRecDepth 50000 in
theorem fX12_play : qmf mX12_play 2 := ⟨qw_g 1672 rfl rfl, qw_g 115 rfl rfl, by decide +kernel, by decide +kernel, by decide +kernel⟩
set_option maxRecDepth 50000 in
theorem iX12_play : Cond.instanceMethod yX12_play ∈ qw_good := qw_g 1671 rfl rfl
set_option maxRecDepth 50000 in
theorem vX12_play : qmv mX12_play 11 := ⟨TX12, 62, rfl, by decide, iX12_play, qw_g 83 rfl rfl⟩
set_option maxRecDepth 50000 in
theorem qRX12_281 : qfL RX12 281 11 23 0 false := ⟨RX12, TX12, 62, tyX12 23, qc_11, by decide, rfl, by decide +kernel, rfl, rfl, rfl, Or.inl (qw_g 1276 rfl rfl)⟩
set_option maxRecDepth 50000 in
theorem qRX12_283 : qfL RX12 283 11 24 0 false := ⟨RX12, TX12, 62, tyX12 24, qc_11, by decide, rfl, by decide +kernel, rfl, rfl, rfl, Or.inl (qw_g 1277 rfl rfl)⟩
set_option maxRecDepth 50000 in
theorem qRX12_286 : qfL RX12 286 11 25 0 false := ⟨RX12, TX12, 62, tyX12 25, qc_11, by decide, rfl, by decide +kernel, rfl, rfl, rfl, Or.inl (qw_g 1278 rfl rfl)⟩
set_option maxRecDepth 50000 in
theorem qRX12_289 : qfL RX12 289 11 26 0 false := ⟨RX12, TX12, 62, tyX12 26, qc_11, by decide, rfl, by decide +kernel, rfl, rfl, rfl, Or.inl (qw_g 1279 rfl rfl)⟩
set_option maxRecDepth 50000 in
theorem qRX12_292 : qfL RX12 292 11 27 0 false := ⟨RX12, TX12, 62, tyX12 27, qc_11, by decide, rfl, by decide +kernel, rfl, rfl, rfl, Or.inl (qw_g 1280 rfl rfl)⟩
set_option maxRecDepth 50000 in
theorem qRX12_295 : qfL RX12 295 11 28 1 false := ⟨RX12, TX12, 62, tyX12 28, qc_11, by decide, rfl, by decide +kernel, rfl, rfl, rfl, Or.inl (qw_g 1281 rfl rfl)⟩
abbrev mX12_run : MI := (RX12, cX12_run, 4, (some .int), yX12_run)
set_option maxRecDepth 50000 in
theorem fX12_run : qmf mX12_run 3 := ⟨qw_g 1663 rfl rfl, qw_g 115 rfl rfl, by decide +kernel, by decide +kernel, by decide +kernel⟩
set_option maxRecDepth 50000 in
theorem iX12_run : Cond.instanceMethod yX12_run ∈ qw_good := qw_g 1661 rfl rfl
set_option maxRecDepth 50000 in
theorem vX12_run : qmv mX12_run 11 := ⟨TX12, 62, rfl, by decide, iX12_run, qw_g 1662 rfl rfl⟩
set_option maxRecDepth 50000 in
theorem kRX12_298 : Cond.constant RX12 298 (100000) ∈ qw_good := qw_g 1664 rfl rfl
set_option maxRecDepth 50000 in
theorem lRX12_299 : Cond.methodLink RX12 299 yX12_layWorld ∈ qw_good := qw_g 1665 rfl rfl
set_option maxRecDepth 50000 in
theorem lRX12_302 : Cond.methodLink RX12 302 yX12_play ∈ qw_good := qw_g 1669 rfl rfl
set_option maxRecDepth 50000 in
theorem qRX12_305 : qfL RX12 305 11 33 1 false := ⟨RX12, TX12, 62, tyX12 33, qc_11, by decide, rfl, by decide +kernel, rfl, rfl, rfl, Or.inl (qw_g 1286 rfl rfl)⟩
set_option maxRecDepth 50000 in
theorem qRX12_308 : qfL RX12 308 11 29 0 false := ⟨RX12, TX12, 62, tyX12 29, qc_11, by decide, rfl, by decide +kernel, rfl, rfl, rfl, Or.inl (qw_g 1282 rfl rfl)⟩
set_option maxRecDepth 50000 in
theorem qRX12_311 : qfL RX12 311 11 30 0 false := ⟨RX12, TX12, 62, tyX12 30, qc_11, by decide, rfl, by decide +kernel, rfl, rfl, rfl, Or.inl (qw_g 1283 rfl rfl)⟩
set_option maxRecDepth 50000 in
theorem qRX12_314 : qfL RX12 314 11 31 0 false := ⟨RX12, TX12, 62, tyX12 31, qc_11, by decide, rfl, by decide +kernel, rfl, rfl, rfl, Or.inl (qw_g 1284 rfl rfl)⟩
set_option maxRecDepth 50000 in
theorem qRX12_317 : qfL RX12 317 11 32 0 false := ⟨RX12, TX12, 62, tyX12 32, qc_11, by decide, rfl, by decide +kernel, rfl, rfl, rfl, Or.inl (qw_g 1285 rfl rfl)⟩
set_option maxRecDepth 50000 in
theorem qRX12_320 : qfL RX12 320 11 34 1 false := ⟨RX12, TX12, 62, tyX12 34, qc_11, by decide, rfl, by decide +kernel, rfl, rfl, rfl, Or.inl (qw_g 1287 rfl rfl)⟩
abbrev mX12_ran : MI := (RX12, cX12_ran, 2, (some .int), yX12_ran)
set_option maxRecDepth 50000 in
theorem fX12_ran : qmf mX12_ran 1 := ⟨qw_g 1676 rfl rfl, qw_g 115 rfl rfl, by decide +kernel, by decide +kernel, by decide +kernel⟩
set_option maxRecDepth 50000 in
theorem iX12_ran : Cond.instanceMethod yX12_ran ∈ qw_good := qw_g 1674 rfl rfl
set_option maxRecDepth 50000 in
theorem vX12_ran : qmv mX12_ran 11 := ⟨TX12, 62, rfl, by decide, iX12_ran, qw_g 1675 rfl rfl⟩
abbrev mX12_stands : MI := (RX12, cX12_stands, 3, (some .int), yX12_stands)
set_option maxRecDepth 50000 in
theorem fX12_stands : qmf mX12_stands 1 := ⟨qw_g 1680 rfl rfl, qw_g 115 rfl rfl, by decide +kernel, by decide +kernel, by decide +kernel⟩
set_option maxRecDepth 50000 in
theorem iX12_stands : Cond.instanceMethod yX12_stands ∈ qw_good := qw_g 1678 rfl rfl
set_option maxRecDepth 50000 in
theorem vX12_stands : qmv mX12_stands 11 := ⟨TX12, 62, rfl, by decide, iX12_stands, qw_g 1679 rfl rfl⟩
set_option maxRecDepth 50000 in
theorem qRX12_323 : qfL RX12 323 11 36 0 false := ⟨RX12, TX12, 62, tyX12 36, qc_11, by decide, rfl, by decide +kernel, rfl, rfl, rfl, Or.inl (qw_g 1289 rfl rfl)⟩
abbrev mX12_stand : MI := (RX12, cX12_stand, 2, (some .int), yX12_stand)
set_option maxRecDepth 50000 in
theorem fX12_stand : qmf mX12_stand 1 := ⟨qw_g 1684 rfl rfl, qw_g 115 rfl rfl, by decide +kernel, by decide +kernel, by decide +kernel⟩
set_option maxRecDepth 50000 in
theorem iX12_stand : Cond.instanceMethod yX12_stand ∈ qw_good := qw_g 1682 rfl rfl
set_option maxRecDepth 50000 in
theorem vX12_stand : qmv mX12_stand 11 := ⟨TX12, 62, rfl, by decide, iX12_stand, qw_g 1683 rfl rfl⟩
abbrev mX12_lays : MI := (RX12, cX12_lays, 6, (some .int), yX12_lays)
set_option maxRecDepth 50000 in
theorem fX12_lays : qmf mX12_lays 4 := ⟨qw_g 1708 rfl rfl, qw_g 115 rfl rfl, by decide +kernel, by decide +kernel, by decide +kernel⟩
set_option maxRecDepth 50000 in
theorem iX12_lays : Cond.instanceMethod yX12_lays ∈ qw_good := qw_g 1707 rfl rfl
set_option maxRecDepth 50000 in
theorem vX12_lays : qmv mX12_lays 11 := ⟨TX12, 62, rfl, by decide, iX12_lays, qw_g 88 rfl rfl⟩
set_option maxRecDepth 50000 in
theorem qRX12_326 : qfL RX12 326 11 41 0 false := ⟨RX12, TX12, 62, tyX12 41, qc_11, by decide, rfl, by decide +kernel, rfl, rfl, rfl, Or.inl (qw_g 1294 rfl rfl)⟩
abbrev mX12_valueAtHand : MI := (RX12, cX12_valueAtHand, 1, (some .int), yX12_valueAtHand)
set_option maxRecDepth 50000 in
theorem fX12_valueAtHand : qmf mX12_valueAtHand 0 := ⟨qw_g 1704 rfl rfl, qw_g 115 rfl rfl, by decide +kernel, by decide +kernel, by decide +kernel⟩
set_option maxRecDepth 50000 in
theorem iX12_valueAtHand : Cond.instanceMethod yX12_valueAtHand ∈ qw_good := qw_g 1703 rfl rfl
set_option maxRecDepth 50000 in
theorem vX12_valueAtHand : qmv mX12_valueAtHand 11 := ⟨TX12, 62, rfl, by decide, iX12_valueAtHand, qw_g 87 rfl rfl⟩
abbrev mX12_readValue : MI := (RX12, cX12_readValue, 2, (some .boolean), yX12_readValue)
set_option maxRecDepth 50000 in
theorem fX12_readValue : qmf mX12_readValue 0 := ⟨qw_g 1712 rfl rfl, qw_g 115 rfl rfl, by decide +kernel, by decide +kernel, by decide +kernel⟩
set_option maxRecDepth 50000 in
theorem iX12_readValue : Cond.instanceMethod yX12_readValue ∈ qw_good := qw_g 1711 rfl rfl
set_option maxRecDepth 50000 in
theorem vX12_readValue : qmv mX12_readValue 11 := ⟨TX12, 62, rfl, by decide, iX12_readValue, qw_g 89 rfl rfl⟩
set_option maxRecDepth 50000 in
theorem lRX12_329 : Cond.methodLink RX12 329 yX12_valueAtHand ∈ qw_good := qw_g 1701 rfl rfl
abbrev mX12_readOr : MI := (RX12, cX12_readOr, 2, (some .boolean), yX12_readOr)
set_option maxRecDepth 50000 in
theorem fX12_readOr : qmf mX12_readOr 0 := ⟨qw_g 1692 rfl rfl, qw_g 115 rfl rfl, by decide +kernel, by decide +kernel, by decide +kernel⟩
set_option maxRecDepth 50000 in
theorem iX12_readOr : Cond.instanceMethod yX12_readOr ∈ qw_good := qw_g 1691 rfl rfl
set_option maxRecDepth 50000 in
theorem vX12_readOr : qmv mX12_readOr 11 := ⟨TX12, 62, rfl, by decide, iX12_readOr, qw_g 84 rfl rfl⟩
set_option maxRecDepth 50000 in
theorem lRX12_332 : Cond.methodLink RX12 332 yX12_readAnd ∈ qw_good := qw_g 1693 rfl rfl
set_option maxRecDepth 50000 in
theorem qRX12_335 : qfL RX12 335 11 47 0 false := ⟨RX12, TX12, 62, tyX12 47, qc_11, by decide, rfl, by decide +kernel, rfl, rfl, rfl, Or.inl (qw_g 1300 rfl rfl)⟩
set_option maxRecDepth 50000 in
theorem lRX12_338 : Cond.methodLink RX12 338 yX12_lays ∈ qw_good := qw_g 1705 rfl rfl
abbrev mX12_readAnd : MI := (RX12, cX12_readAnd, 2, (some .boolean), yX12_readAnd)
set_option maxRecDepth 50000 in
theorem fX12_readAnd : qmf mX12_readAnd 0 := ⟨qw_g 1696 rfl rfl, qw_g 115 rfl rfl, by decide +kernel, by decide +kernel, by decide +kernel⟩
set_option maxRecDepth 50000 in
theorem iX12_readAnd : Cond.instanceMethod yX12_readAnd ∈ qw_good := qw_g 1695 rfl rfl
set_option maxRecDepth 50000 in
theorem vX12_readAnd : qmv mX12_readAnd 11 := ⟨TX12, 62, rfl, by decide, iX12_readAnd, qw_g 85 rfl rfl⟩
set_option maxRecDepth 50000 in
theorem lRX12_342 : Cond.methodLink RX12 342 yX12_readOne ∈ qw_good := qw_g 1697 rfl rfl
abbrev mX12_readOne : MI := (RX12, cX12_readOne, 5, (some .boolean), yX12_readOne)
set_option maxRecDepth 50000 in
theorem fX12_readOne : qmf mX12_readOne 0 := ⟨qw_g 1700 rfl rfl, qw_g 115 rfl rfl, by decide +kernel, by decide +kernel, by decide +kernel⟩
set_option maxRecDepth 50000 in
theorem iX12_readOne : Cond.instanceMethod yX12_readOne ∈ qw_good := qw_g 1699 rfl rfl
set_option maxRecDepth 50000 in
theorem vX12_readOne : qmv mX12_readOne 11 := ⟨TX12, 62, rfl, by decide, iX12_readOne, qw_g 86 rfl rfl⟩
set_option maxRecDepth 50000 in
theorem qRX12_345 : qfL RX12 345 11 42 0 false := ⟨RX12, TX12, 62, tyX12 42, qc_11, by decide, rfl, by decide +kernel, rfl, rfl, rfl, Or.inl (qw_g 1295 rfl rfl)⟩
set_option maxRecDepth 50000 in
theorem qRX12_348 : qfL RX12 348 11 43 0 false := ⟨RX12, TX12, 62, tyX12 43, qc_11, by decide, rfl, by decide +kernel, rfl, rfl, rfl, Or.inl (qw_g 1296 rfl rfl)⟩
set_option maxRecDepth 50000 in
theorem lRX12_351 : Cond.methodLink RX12 351 yX12_readOr ∈ qw_good := qw_g 1689 rfl rfl
set_option maxRecDepth 50000 in
theorem lRX12_354 : Cond.methodLink RX12 354 yX12_readValue ∈ qw_good := qw_g 1709 rfl rfl
abbrev mX12_claim : MI := (RX12, cX12_claim, 2, (some .int), yX12_claim)
set_option maxRecDepth 50000 in
theorem fX12_claim : qmf mX12_claim 0 := ⟨qw_g 1688 rfl rfl, qw_g 115 rfl rfl, by decide +kernel, by decide +kernel, by decide +kernel⟩
set_option maxRecDepth 50000 in
theorem iX12_claim : Cond.instanceMethod yX12_claim ∈ qw_good := qw_g 1686 rfl rfl
set_option maxRecDepth 50000 in
theorem vX12_claim : qmv mX12_claim 11 := ⟨TX12, 62, rfl, by decide, iX12_claim, qw_g 1687 rfl rfl⟩
set_option maxRecDepth 50000 in
theorem qRX12_357 : qfL RX12 357 11 46 0 false := ⟨RX12, TX12, 62, tyX12 46, qc_11, by decide, rfl, by decide +kernel, rfl, rfl, rfl, Or.inl (qw_g 1299 rfl rfl)⟩
set_option maxRecDepth 50000 in
theorem qRX12_360 : qfL RX12 360 11 44 0 false := ⟨RX12, TX12, 62, tyX12 44, qc_11, by decide, rfl, by decide +kernel, rfl, rfl, rfl, Or.inl (qw_g 1297 rfl rfl)⟩
set_option maxRecDepth 50000 in
theorem qRX12_363 : qfL RX12 363 11 45 0 false := ⟨RX12, TX12, 62, tyX12 45, qc_11, by decide, rfl, by decide +kernel, rfl, rfl, rfl, Or.inl (qw_g 1298 rfl rfl)⟩
abbrev mX12_valueAt : MI := (RX12, cX12_valueAt, 10, (some .int), yX12_valueAt)
set_option maxRecDepth 50000 in
theorem fX12_valueAt : qmf mX12_valueAt 2 := ⟨qw_g 1728 rfl rfl, qw_g 115 rfl rfl, by decide +kernel, by decide +kernel, by decide +kernel⟩
set_option maxRecDepth 50000 in
theorem iX12_valueAt : Cond.instanceMethod yX12_valueAt ∈ qw_good := qw_g 1727 rfl rfl
set_option maxRecDepth 50000 in
theorem vX12_valueAt : qmv mX12_valueAt 11 := ⟨TX12, 62, rfl, by decide, iX12_valueAt, qw_g 92 rfl rfl⟩
abbrev mX12_valued : MI := (RX12, cX12_valued, 5, (some .int), yX12_valued)
set_option maxRecDepth 50000 in
theorem fX12_valued : qmf mX12_valued 2 := ⟨qw_g 1724 rfl rfl, qw_g 115 rfl rfl, by decide +kernel, by decide +kernel, by decide +kernel⟩
set_option maxRecDepth 50000 in
theorem iX12_valued : Cond.instanceMethod yX12_valued ∈ qw_good := qw_g 1723 rfl rfl
set_option maxRecDepth 50000 in
theorem vX12_valued : qmv mX12_valued 11 := ⟨TX12, 62, rfl, by decide, iX12_valued, qw_g 91 rfl rfl⟩
set_option maxRecDepth 50000 in
theorem lRX12_366 : Cond.methodLink RX12 366 yX12_valueAt ∈ qw_good := qw_g 1725 rfl rfl
abbrev mX12_isSo : MI := (RX12, cX12_isSo, 5, (some .boolean), yX12_isSo)
set_option maxRecDepth 50000 in
theorem fX12_isSo : qmf mX12_isSo 2 := ⟨qw_g 1720 rfl rfl, qw_g 115 rfl rfl, by decide +kernel, by decide +kernel, by decide +kernel⟩
set_option maxRecDepth 50000 in
theorem iX12_isSo : Cond.instanceMethod yX12_isSo ∈ qw_good := qw_g 1719 rfl rfl
set_option maxRecDepth 50000 in
theorem vX12_isSo : qmv mX12_isSo 11 := ⟨TX12, 62, rfl, by decide, iX12_isSo, qw_g 90 rfl rfl⟩
set_option maxRecDepth 50000 in
theorem lRX12_369 : Cond.methodLink RX12 369 yX12_valued ∈ qw_good := qw_g 1721 rfl rfl
set_option maxRecDepth 50000 in
theorem lRX12_372 : Cond.methodLink RX12 372 yX12_isSo ∈ qw_good := qw_g 1717 rfl rfl
abbrev mX12_holds : MI := (RX12, cX12_holds, 2, (some .int), yX12_holds)
set_option maxRecDepth 50000 in
theorem fX12_holds : qmf mX12_holds 0 := ⟨qw_g 1716 rfl rfl, qw_g 115 rfl rfl, by decide +kernel, by decide +kernel, by decide +kernel⟩
set_option maxRecDepth 50000 in
theorem iX12_holds : Cond.instanceMethod yX12_holds ∈ qw_good := qw_g 1714 rfl rfl
set_option maxRecDepth 50000 in
theorem vX12_holds : qmv mX12_holds 11 := ⟨TX12, 62, rfl, by decide, iX12_holds, qw_g 1715 rfl rfl⟩
abbrev mX12_where : MI := (RX12, cX12_where, 2, (some .int), yX12_where)
set_option maxRecDepth 50000 in
theorem fX12_where : qmf mX12_where 0 := ⟨qw_g 1732 rfl rfl, qw_g 115 rfl rfl, by decide +kernel, by decide +kernel, by decide +kernel⟩
set_option maxRecDepth 50000 in
theorem iX12_where : Cond.instanceMethod yX12_where ∈ qw_good := qw_g 1730 rfl rfl
set_option maxRecDepth 50000 in
theorem vX12_where : qmv mX12_where 11 := ⟨TX12, 62, rfl, by decide, iX12_where, qw_g 1731 rfl rfl⟩
abbrev mX12_value : MI := (RX12, cX12_value, 3, (some .int), yX12_value)
set_option maxRecDepth 50000 in
theorem fX12_value : qmf mX12_value 2 := ⟨qw_g 1736 rfl rfl, qw_g 115 rfl rfl, by decide +kernel, by decide +kernel, by decide +kernel⟩
set_option maxRecDepth 50000 in
theorem iX12_value : Cond.instanceMethod yX12_value ∈ qw_good := qw_g 1734 rfl rfl
set_option maxRecDepth 50000 in
theorem vX12_value : qmv mX12_value 11 := ⟨TX12, 62, rfl, by decide, iX12_value, qw_g 1735 rfl rfl⟩
abbrev mX12_goes : MI := (RX12, cX12_goes, 4, (some .int), yX12_goes)
set_option maxRecDepth 50000 in
theorem fX12_goes : qmf mX12_goes 1 := ⟨qw_g 1740 rfl rfl, qw_g 115 rfl rfl, by decide +kernel, by decide +kernel, by decide +kernel⟩
set_option maxRecDepth 50000 in
theorem iX12_goes : Cond.instanceMethod yX12_goes ∈ qw_good := qw_g 1738 rfl rfl
set_option maxRecDepth 50000 in
theorem vX12_goes : qmv mX12_goes 11 := ⟨TX12, 62, rfl, by decide, iX12_goes, qw_g 1739 rfl rfl⟩
abbrev mX12_isLeast : MI := (RX12, cX12_isLeast, 3, (some .boolean), yX12_isLeast)
set_option maxRecDepth 50000 in
theorem fX12_isLeast : qmf mX12_isLeast 1 := ⟨qw_g 1748 rfl rfl, qw_g 115 rfl rfl, by decide +kernel, by decide +kernel, by decide +kernel⟩
set_option maxRecDepth 50000 in
theorem iX12_isLeast : Cond.instanceMethod yX12_isLeast ∈ qw_good := qw_g 1747 rfl rfl
set_option maxRecDepth 50000 in
theorem vX12_isLeast : qmv mX12_isLeast 11 := ⟨TX12, 62, rfl, by decide, iX12_isLeast, qw_g 93 rfl rfl⟩
abbrev mX12_least : MI := (RX12, cX12_least, 4, (some .int), yX12_least)
set_option maxRecDepth 50000 in
theorem fX12_least : qmf mX12_least 1 := ⟨qw_g 1744 rfl rfl, qw_g 115 rfl rfl, by decide +kernel, by decide +kernel, by decide +kernel⟩
set_option maxRecDepth 50000 in
theorem iX12_least : Cond.instanceMethod yX12_least ∈ qw_good := qw_g 1742 rfl rfl
set_option maxRecDepth 50000 in
theorem vX12_least : qmv mX12_least 11 := ⟨TX12, 62, rfl, by decide, iX12_least, qw_g 1743 rfl rfl⟩
set_option maxRecDepth 50000 in
theorem lRX12_375 : Cond.methodLink RX12 375 yX12_isLeast ∈ qw_good := qw_g 1745 rfl rfl
abbrev mX12_needs : MI := (RX12, cX12_needs, 4, (some .int), yX12_needs)
set_option maxRecDepth 50000 in
theorem fX12_needs : qmf mX12_needs 1 := ⟨qw_g 1752 rfl rfl, qw_g 115 rfl rfl, by decide +kernel, by decide +kernel, by decide +kernel⟩
set_option maxRecDepth 50000 in
theorem iX12_needs : Cond.instanceMethod yX12_needs ∈ qw_good := qw_g 1750 rfl rfl
set_option maxRecDepth 50000 in
theorem vX12_needs : qmv mX12_needs 11 := ⟨TX12, 62, rfl, by decide, iX12_needs, qw_g 1751 rfl rfl⟩
abbrev mX12_comesSo : MI := (RX12, cX12_comesSo, 8, (some .boolean), yX12_comesSo)
set_option maxRecDepth 50000 in
theorem fX12_comesSo : qmf mX12_comesSo 4 := ⟨qw_g 1760 rfl rfl, qw_g 115 rfl rfl, by decide +kernel, by decide +kernel, by decide +kernel⟩
set_option maxRecDepth 50000 in
theorem iX12_comesSo : Cond.instanceMethod yX12_comesSo ∈ qw_good := qw_g 1759 rfl rfl
set_option maxRecDepth 50000 in
theorem vX12_comesSo : qmv mX12_comesSo 11 := ⟨TX12, 62, rfl, by decide, iX12_comesSo, qw_g 94 rfl rfl⟩
set_option maxRecDepth 50000 in
theorem qRX12_378 : qfL RX12 378 11 51 0 false := ⟨RX12, TX12, 62, tyX12 51, qc_11, by decide, rfl, by decide +kernel, rfl, rfl, rfl, Or.inl (qw_g 1304 rfl rfl)⟩
abbrev mX12_hidden : MI := (RX12, cX12_hidden, 7, (some .int), yX12_hidden)
set_option maxRecDepth 50000 in
theorem fX12_hidden : qmf mX12_hidden 2 := ⟨qw_g 1756 rfl rfl, qw_g 115 rfl rfl, by decide +kernel, by decide +kernel, by decide +kernel⟩
set_option maxRecDepth 50000 in
theorem iX12_hidden : Cond.instanceMethod yX12_hidden ∈ qw_good := qw_g 1754 rfl rfl
set_option maxRecDepth 50000 in
theorem vX12_hidden : qmv mX12_hidden 11 := ⟨TX12, 62, rfl, by decide, iX12_hidden, qw_g 1755 rfl rfl⟩
set_option maxRecDepth 50000 in
theorem lRX12_381 : Cond.methodLink RX12 381 yX12_comesSo ∈ qw_good := qw_g 1757 rfl rfl
set_option maxRecDepth 50000 in
theorem qRX12_385 : qfL RX12 385 11 54 1 false := ⟨RX12, TX12, 62, tyX12 54, qc_11, by decide, rfl, by decide +kernel, rfl, rfl, rfl, Or.inl (qw_g 1307 rfl rfl)⟩
set_option maxRecDepth 50000 in
theorem qRX12_388 : qfL RX12 388 11 52 0 false := ⟨RX12, TX12, 62, tyX12 52, qc_11, by decide, rfl, by decide +kernel, rfl, rfl, rfl, Or.inl (qw_g 1305 rfl rfl)⟩
set_option maxRecDepth 50000 in
theorem qRX12_391 : qfL RX12 391 11 53 2 false := ⟨RX12, TX12, 62, tyX12 53, qc_11, by decide, rfl, by decide +kernel, rfl, rfl, rfl, Or.inl (qw_g 1306 rfl rfl)⟩
abbrev mX12_hiddenAt : MI := (RX12, cX12_hiddenAt, 3, (some .int), yX12_hiddenAt)
set_option maxRecDepth 50000 in
theorem fX12_hiddenAt : qmf mX12_hiddenAt 2 := ⟨qw_g 1764 rfl rfl, qw_g 115 rfl rfl, by decide +kernel, by decide +kernel, by decide +kernel⟩
set_option maxRecDepth 50000 in
theorem iX12_hiddenAt : Cond.instanceMethod yX12_hiddenAt ∈ qw_good := qw_g 1762 rfl rfl
set_option maxRecDepth 50000 in
theorem vX12_hiddenAt : qmv mX12_hiddenAt 11 := ⟨TX12, 62, rfl, by decide, iX12_hiddenAt, qw_g 1763 rfl rfl⟩
abbrev mX12_bits : MI := (RX12, cX12_bits, 3, (some .int), yX12_bits)
set_option maxRecDepth 50000 in
theorem fX12_bits : qmf mX12_bits 1 := ⟨qw_g 1771 rfl rfl, qw_g 115 rfl rfl, by decide +kernel, by decide +kernel, by decide +kernel⟩
set_option maxRecDepth 50000 in
theorem sX12_bits : Cond.static yX12_bits ∈ qw_good := qw_g 1770 rfl rfl
abbrev mX12_looks : MI := (RX12, cX12_looks, 8, (some .int), yX12_looks)
set_option maxRecDepth 50000 in
theorem fX12_looks : qmf mX12_looks 0 := ⟨qw_g 1768 rfl rfl, qw_g 115 rfl rfl, by decide +kernel, by decide +kernel, by decide +kernel⟩
set_option maxRecDepth 50000 in
theorem iX12_looks : Cond.instanceMethod yX12_looks ∈ qw_good := qw_g 1766 rfl rfl
set_option maxRecDepth 50000 in
theorem vX12_looks : qmv mX12_looks 11 := ⟨TX12, 62, rfl, by decide, iX12_looks, qw_g 1767 rfl rfl⟩
set_option maxRecDepth 50000 in
theorem lRX12_394 : Cond.methodLink RX12 394 yX12_bits ∈ qw_good := qw_g 1769 rfl rfl
set_option maxRecDepth 50000 in
theorem kRX12_397 : Cond.constantLong RX12 397 (-1) ∈ qw_good := qw_g 1772 rfl rfl
set_option maxRecDepth 50000 in
theorem qRX12_399 : qfL RX12 399 11 56 0 false := ⟨RX12, TX12, 62, tyX12 56, qc_11, by decide, rfl, by decide +kernel, rfl, rfl, rfl, Or.inl (qw_g 1309 rfl rfl)⟩
abbrev mX12_lookSet : MI := (RX12, cX12_lookSet, 1, (some .int), yX12_lookSet)
set_option maxRecDepth 50000 in
theorem fX12_lookSet : qmf mX12_lookSet 0 := ⟨qw_g 1776 rfl rfl, qw_g 115 rfl rfl, by decide +kernel, by decide +kernel, by decide +kernel⟩
set_option maxRecDepth 50000 in
theorem iX12_lookSet : Cond.instanceMethod yX12_lookSet ∈ qw_good := qw_g 1774 rfl rfl
set_option maxRecDepth 50000 in
theorem vX12_lookSet : qmv mX12_lookSet 11 := ⟨TX12, 62, rfl, by decide, iX12_lookSet, qw_g 1775 rfl rfl⟩
abbrev mX12_keep : MI := (RX12, cX12_keep, 2, (some .boolean), yX12_keep)
set_option maxRecDepth 50000 in
theorem fX12_keep : qmf mX12_keep 1 := ⟨qw_g 1780 rfl rfl, qw_g 115 rfl rfl, by decide +kernel, by decide +kernel, by decide +kernel⟩
set_option maxRecDepth 50000 in
theorem iX12_keep : Cond.instanceMethod yX12_keep ∈ qw_good := qw_g 1778 rfl rfl
set_option maxRecDepth 50000 in
theorem vX12_keep : qmv mX12_keep 11 := ⟨TX12, 62, rfl, by decide, iX12_keep, qw_g 1779 rfl rfl⟩
abbrev mX12_isLike : MI := (RX12, cX12_isLike, 9, (some .boolean), yX12_isLike)
set_option maxRecDepth 50000 in
theorem fX12_isLike : qmf mX12_isLike 4 := ⟨qw_g 1788 rfl rfl, qw_g 115 rfl rfl, by decide +kernel, by decide +kernel, by decide +kernel⟩
set_option maxRecDepth 50000 in
theorem iX12_isLike : Cond.instanceMethod yX12_isLike ∈ qw_good := qw_g 1787 rfl rfl
set_option maxRecDepth 50000 in
theorem vX12_isLike : qmv mX12_isLike 11 := ⟨TX12, 62, rfl, by decide, iX12_isLike, qw_g 95 rfl rfl⟩
abbrev mX12_same : MI := (RX12, cX12_same, 7, (some .int), yX12_same)
set_option maxRecDepth 50000 in
theorem fX12_same : qmf mX12_same 1 := ⟨qw_g 1784 rfl rfl, qw_g 115 rfl rfl, by decide +kernel, by decide +kernel, by decide +kernel⟩
set_option maxRecDepth 50000 in
theorem iX12_same : Cond.instanceMethod yX12_same ∈ qw_good := qw_g 1782 rfl rfl
set_option maxRecDepth 50000 in
theorem vX12_same : qmv mX12_same 11 := ⟨TX12, 62, rfl, by decide, iX12_same, qw_g 1783 rfl rfl⟩
set_option maxRecDepth 50000 in
theorem lRX12_402 : Cond.methodLink RX12 402 yX12_isLike ∈ qw_good := qw_g 1785 rfl rfl
abbrev mX12_isFed : MI := (RX12, cX12_isFed, 9, (some .boolean), yX12_isFed)
set_option maxRecDepth 50000 in
theorem fX12_isFed : qmf mX12_isFed 5 := ⟨qw_g 1796 rfl rfl, qw_g 115 rfl rfl, by decide +kernel, by decide +kernel, by decide +kernel⟩
set_option maxRecDepth 50000 in
theorem iX12_isFed : Cond.instanceMethod yX12_isFed ∈ qw_good := qw_g 1795 rfl rfl
set_option maxRecDepth 50000 in
theorem vX12_isFed : qmv mX12_isFed 11 := ⟨TX12, 62, rfl, by decide, iX12_isFed, qw_g 96 rfl rfl⟩
abbrev mX12_feeding : MI := (RX12, cX12_feeding, 6, (some .int), yX12_feeding)
set_option maxRecDepth 50000 in
theorem fX12_feeding : qmf mX12_feeding 4 := ⟨qw_g 1792 rfl rfl, qw_g 115 rfl rfl, by decide +kernel, by decide +kernel, by decide +kernel⟩
set_option maxRecDepth 50000 in
theorem iX12_feeding : Cond.instanceMethod yX12_feeding ∈ qw_good := qw_g 1790 rfl rfl
set_option maxRecDepth 50000 in
theorem vX12_feeding : qmv mX12_feeding 11 := ⟨TX12, 62, rfl, by decide, iX12_feeding, qw_g 1791 rfl rfl⟩
set_option maxRecDepth 50000 in
theorem lRX12_405 : Cond.methodLink RX12 405 yX12_isFed ∈ qw_good := qw_g 1793 rfl rfl
abbrev mX12_invent : MI := (RX12, cX12_invent, 3, none, yX12_invent)
set_option maxRecDepth 50000 in
theorem fX12_invent : qmf mX12_invent 1 := ⟨qw_g 1804 rfl rfl, qw_g 115 rfl rfl, by decide +kernel, by decide +kernel, by decide +kernel⟩
set_option maxRecDepth 50000 in
theorem iX12_invent : Cond.instanceMethod yX12_invent ∈ qw_good := qw_g 1803 rfl rfl
set_option maxRecDepth 50000 in
theorem vX12_invent : qmv mX12_invent 11 := ⟨TX12, 62, rfl, by decide, iX12_invent, qw_g 97 rfl rfl⟩
abbrev mX12_sayingAtHand : MI := (RX12, cX12_sayingAtHand, 1, (some .int), yX12_sayingAtHand)
set_option maxRecDepth 50000 in
theorem fX12_sayingAtHand : qmf mX12_sayingAtHand 0 := ⟨qw_g 1812 rfl rfl, qw_g 115 rfl rfl, by decide +kernel, by decide +kernel, by decide +kernel⟩
set_option maxRecDepth 50000 in
theorem iX12_sayingAtHand : Cond.instanceMethod yX12_sayingAtHand ∈ qw_good := qw_g 1811 rfl rfl
set_option maxRecDepth 50000 in
theorem vX12_sayingAtHand : qmv mX12_sayingAtHand 11 := ⟨TX12, 62, rfl, by decide, iX12_sayingAtHand, qw_g 99 rfl rfl⟩
abbrev mX12_readHearing : MI := (RX12, cX12_readHearing, 4, (some .boolean), yX12_readHearing)
set_option maxRecDepth 50000 in
theorem fX12_readHearing : qmf mX12_readHearing 1 := ⟨qw_g 1808 rfl rfl, qw_g 115 rfl rfl, by decide +kernel, by decide +kernel, by decide +kernel⟩
set_option maxRecDepth 50000 in
theorem iX12_readHearing : Cond.instanceMethod yX12_readHearing ∈ qw_good := qw_g 1807 rfl rfl
set_option maxRecDepth 50000 in
theorem vX12_readHearing : qmv mX12_readHearing 11 := ⟨TX12, 62, rfl, by decide, iX12_readHearing, qw_g 98 rfl rfl⟩
set_option maxRecDepth 50000 in
theorem lRX12_409 : Cond.methodLink RX12 409 yX12_sayingAtHand ∈ qw_good := qw_g 1809 rfl rfl
abbrev mX12_inventor : MI := (RX12, cX12_inventor, 3, (some .int), yX12_inventor)
set_option maxRecDepth 50000 in
theorem fX12_inventor : qmf mX12_inventor 0 := ⟨qw_g 1800 rfl rfl, qw_g 115 rfl rfl, by decide +kernel, by decide +kernel, by decide +kernel⟩
set_option maxRecDepth 50000 in
theorem iX12_inventor : Cond.instanceMethod yX12_inventor ∈ qw_good := qw_g 1798 rfl rfl
set_option maxRecDepth 50000 in
theorem vX12_inventor : qmv mX12_inventor 11 := ⟨TX12, 62, rfl, by decide, iX12_inventor, qw_g 1799 rfl rfl⟩
set_option maxRecDepth 50000 in
theorem lRX12_412 : Cond.methodLink RX12 412 yX12_invent ∈ qw_good := qw_g 1801 rfl rfl
set_option maxRecDepth 50000 in
theorem lRX12_415 : Cond.methodLink RX12 415 yX12_readHearing ∈ qw_good := qw_g 1805 rfl rfl
set_option maxRecDepth 50000 in
theorem qRX12_418 : qfL RX12 418 11 58 1 false := ⟨RX12, TX12, 62, tyX12 58, qc_11, by decide, rfl, by decide +kernel, rfl, rfl, rfl, Or.inl (qw_g 1311 rfl rfl)⟩
abbrev mX12_isDoor : MI := (RX12, cX12_isDoor, 7, (some .boolean), yX12_isDoor)
set_option maxRecDepth 50000 in
theorem fX12_isDoor : qmf mX12_isDoor 0 := ⟨qw_g 1824 rfl rfl, qw_g 115 rfl rfl, by decide +kernel, by decide +kernel, by decide +kernel⟩
set_option maxRecDepth 50000 in
theorem iX12_isDoor : Cond.instanceMethod yX12_isDoor ∈ qw_good := qw_g 1823 rfl rfl
set_option maxRecDepth 50000 in
theorem vX12_isDoor : qmv mX12_isDoor 11 := ⟨TX12, 62, rfl, by decide, iX12_isDoor, qw_g 101 rfl rfl⟩
abbrev mX12_isRight : MI := (RX12, cX12_isRight, 3, (some .boolean), yX12_isRight)
set_option maxRecDepth 50000 in
theorem fX12_isRight : qmf mX12_isRight 1 := ⟨qw_g 1820 rfl rfl, qw_g 115 rfl rfl, by decide +kernel, by decide +kernel, by decide +kernel⟩
set_option maxRecDepth 50000 in
theorem iX12_isRight : Cond.instanceMethod yX12_isRight ∈ qw_good := qw_g 1819 rfl rfl
set_option maxRecDepth 50000 in
theorem vX12_isRight : qmv mX12_isRight 11 := ⟨TX12, 62, rfl, by decide, iX12_isRight, qw_g 100 rfl rfl⟩
set_option maxRecDepth 50000 in
theorem lRX12_421 : Cond.methodLink RX12 421 yX12_isDoor ∈ qw_good := qw_g 1821 rfl rfl
abbrev mX12_right : MI := (RX12, cX12_right, 2, (some .int), yX12_right)
set_option maxRecDepth 50000 in
theorem fX12_right : qmf mX12_right 1 := ⟨qw_g 1816 rfl rfl, qw_g 115 rfl rfl, by decide +kernel, by decide +kernel, by decide +kernel⟩
set_option maxRecDepth 50000 in
theorem iX12_right : Cond.instanceMethod yX12_right ∈ qw_good := qw_g 1814 rfl rfl
set_option maxRecDepth 50000 in
theorem vX12_right : qmv mX12_right 11 := ⟨TX12, 62, rfl, by decide, iX12_right, qw_g 1815 rfl rfl⟩
set_option maxRecDepth 50000 in
theorem lRX12_424 : Cond.methodLink RX12 424 yX12_isRight ∈ qw_good := qw_g 1817 rfl rfl
abbrev mX12_answer : MI := (RX12, cX12_answer, 6, (some .int), yX12_answer)
set_option maxRecDepth 50000 in
theorem fX12_answer : qmf mX12_answer 0 := ⟨qw_g 1828 rfl rfl, qw_g 115 rfl rfl, by decide +kernel, by decide +kernel, by decide +kernel⟩
set_option maxRecDepth 50000 in
theorem iX12_answer : Cond.instanceMethod yX12_answer ∈ qw_good := qw_g 1826 rfl rfl
set_option maxRecDepth 50000 in
theorem vX12_answer : qmv mX12_answer 11 := ⟨TX12, 62, rfl, by decide, iX12_answer, qw_g 1827 rfl rfl⟩
set_option maxRecDepth 50000 in
theorem qRX12_427 : qfL RX12 427 11 61 0 false := ⟨RX12, TX12, 62, tyX12 61, qc_11, by decide, rfl, by decide +kernel, rfl, rfl, rfl, Or.inl (qw_g 1314 rfl rfl)⟩
set_option maxRecDepth 50000 in
theorem lRX12_430 : Cond.methodLink RX12 430 yX12_leadsOn ∈ qw_good := qw_g 1829 rfl rfl
abbrev mX12_leadsOn : MI := (RX12, cX12_leadsOn, 5, (some .boolean), yX12_leadsOn)
set_option maxRecDepth 50000 in
theorem fX12_leadsOn : qmf mX12_leadsOn 3 := ⟨qw_g 1832 rfl rfl, qw_g 115 rfl rfl, by decide +kernel, by decide +kernel, by decide +kernel⟩
set_option maxRecDepth 50000 in
theorem iX12_leadsOn : Cond.instanceMethod yX12_leadsOn ∈ qw_good := qw_g 1831 rfl rfl
set_option maxRecDepth 50000 in
theorem vX12_leadsOn : qmv mX12_leadsOn 11 := ⟨TX12, 62, rfl, by decide, iX12_leadsOn, qw_g 102 rfl rfl⟩
abbrev mX12_answerAt : MI := (RX12, cX12_answerAt, 2, (some .int), yX12_answerAt)
set_option maxRecDepth 50000 in
theorem fX12_answerAt : qmf mX12_answerAt 1 := ⟨qw_g 1836 rfl rfl, qw_g 115 rfl rfl, by decide +kernel, by decide +kernel, by decide +kernel⟩
set_option maxRecDepth 50000 in
theorem iX12_answerAt : Cond.instanceMethod yX12_answerAt ∈ qw_good := qw_g 1834 rfl rfl
set_option maxRecDepth 50000 in
theorem vX12_answerAt : qmv mX12_answerAt 11 := ⟨TX12, 62, rfl, by decide, iX12_answerAt, qw_g 1835 rfl rfl⟩
abbrev mX12_count : MI := (RX12, cX12_count, 4, (some .int), yX12_count)
set_option maxRecDepth 50000 in
theorem fX12_count : qmf mX12_count 1 := ⟨qw_g 1840 rfl rfl, qw_g 115 rfl rfl, by decide +kernel, by decide +kernel, by decide +kernel⟩
set_option maxRecDepth 50000 in
theorem iX12_count : Cond.instanceMethod yX12_count ∈ qw_good := qw_g 1838 rfl rfl
set_option maxRecDepth 50000 in
theorem vX12_count : qmv mX12_count 11 := ⟨TX12, 62, rfl, by decide, iX12_count, qw_g 1839 rfl rfl⟩
abbrev mJ6_bitCount_0f7a4 : MI := (RJ6, cJ6_bitCount_0f7a4, 1, (some .int), yJ6_bitCount_0f7a4)
set_option maxRecDepth 50000 in
theorem fJ6_bitCount_0f7a4 : qmf mJ6_bitCount_0f7a4 1 := ⟨qw_g 912 rfl rfl, qw_g 123 rfl rfl, by decide +kernel, by decide +kernel, by decide +kernel⟩
set_option maxRecDepth 50000 in
theorem sJ6_bitCount_0f7a4 : Cond.static yJ6_bitCount_0f7a4 ∈ qw_good := qw_g 911 rfl rfl
set_option maxRecDepth 50000 in
theorem kRJ6_265 : Cond.constant RJ6 265 (1431655765) ∈ qw_good := qw_g 913 rfl rfl
set_option maxRecDepth 50000 in
theorem kRJ6_266 : Cond.constant RJ6 266 (858993459) ∈ qw_good := qw_g 914 rfl rfl
set_option maxRecDepth 50000 in
theorem kRJ6_267 : Cond.constant RJ6 267 (252645135) ∈ qw_good := qw_g 915 rfl rfl
abbrev mJ9_floorDiv_7cf53 : MI := (RJ9, cJ9_floorDiv_7cf53, 3, (some .int), yJ9_floorDiv_7cf53)
set_option maxRecDepth 50000 in
theorem fJ9_floorDiv_7cf53 : qmf mJ9_floorDiv_7cf53 2 := ⟨qw_g 957 rfl rfl, qw_g 116 rfl rfl, by decide +kernel, by decide +kernel, by decide +kernel⟩
set_option maxRecDepth 50000 in
theorem sJ9_floorDiv_7cf53 : Cond.static yJ9_floorDiv_7cf53 ∈ qw_good := qw_g 956 rfl rfl
abbrev mJ9_floorMod_7cf53 : MI := (RJ9, cJ9_floorMod_7cf53, 3, (some .int), yJ9_floorMod_7cf53)
set_option maxRecDepth 50000 in
theorem fJ9_floorMod_7cf53 : qmf mJ9_floorMod_7cf53 2 := ⟨qw_g 1024 rfl rfl, qw_g 116 rfl rfl, by decide +kernel, by decide +kernel, by decide +kernel⟩
set_option maxRecDepth 50000 in
theorem sJ9_floorMod_7cf53 : Cond.static yJ9_floorMod_7cf53 ∈ qw_good := qw_g 1023 rfl rfl
abbrev mJ9_abs_0f7a4 : MI := (RJ9, cJ9_abs_0f7a4, 1, (some .int), yJ9_abs_0f7a4)
set_option maxRecDepth 50000 in
theorem fJ9_abs_0f7a4 : qmf mJ9_abs_0f7a4 1 := ⟨qw_g 725 rfl rfl, qw_g 116 rfl rfl, by decide +kernel, by decide +kernel, by decide +kernel⟩
set_option maxRecDepth 50000 in
theorem sJ9_abs_0f7a4 : Cond.static yJ9_abs_0f7a4 ∈ qw_good := qw_g 724 rfl rfl
abbrev mJ9_max_7cf53 : MI := (RJ9, cJ9_max_7cf53, 2, (some .int), yJ9_max_7cf53)
set_option maxRecDepth 50000 in
theorem fJ9_max_7cf53 : qmf mJ9_max_7cf53 2 := ⟨qw_g 541 rfl rfl, qw_g 116 rfl rfl, by decide +kernel, by decide +kernel, by decide +kernel⟩
set_option maxRecDepth 50000 in
theorem sJ9_max_7cf53 : Cond.static yJ9_max_7cf53 ∈ qw_good := qw_g 540 rfl rfl
abbrev mJ9_min_7cf53 : MI := (RJ9, cJ9_min_7cf53, 2, (some .int), yJ9_min_7cf53)
set_option maxRecDepth 50000 in
theorem fJ9_min_7cf53 : qmf mJ9_min_7cf53 2 := ⟨qw_g 517 rfl rfl, qw_g 116 rfl rfl, by decide +kernel, by decide +kernel, by decide +kernel⟩
set_option maxRecDepth 50000 in
theorem sJ9_min_7cf53 : Cond.static yJ9_min_7cf53 ∈ qw_good := qw_g 516 rfl rfl

theorem dX12_hidden_0 : decode cX12_hidden 0 = .ok (.aload_n 0, 1) := by decide +kernel
theorem dX12_hidden_1 : decode cX12_hidden 1 = .ok (.iconst 0, 1) := by decide +kernel
theorem dX12_hidden_2 : decode cX12_hidden 2 = .ok (.putfield 75, 3) := by decide +kernel
theorem dX12_hidden_5 : decode cX12_hidden 5 = .ok (.aload_n 0, 1) := by decide +kernel
theorem dX12_hidden_6 : decode cX12_hidden 6 = .ok (.invokevirtual 220, 3) := by decide +kernel
theorem dX12_hidden_9 : decode cX12_hidden 9 = .ok (.istore_n 3, 1) := by decide +kernel
theorem dX12_hidden_10 : decode cX12_hidden 10 = .ok (.aload_n 0, 1) := by decide +kernel
theorem dX12_hidden_11 : decode cX12_hidden 11 = .ok (.iload_n 1, 1) := by decide +kernel
theorem dX12_hidden_12 : decode cX12_hidden 12 = .ok (.invokevirtual 259, 3) := by decide +kernel
theorem dX12_hidden_15 : decode cX12_hidden 15 = .ok (.ifCond .eq 32, 3) := by decide +kernel
theorem dX12_hidden_18 : decode cX12_hidden 18 = .ok (.iload_n 2, 1) := by decide +kernel
theorem dX12_hidden_19 : decode cX12_hidden 19 = .ok (.iconst 0, 1) := by decide +kernel
theorem dX12_hidden_20 : decode cX12_hidden 20 = .ok (.ldc_w 298, 3) := by decide +kernel
theorem dX12_hidden_23 : decode cX12_hidden 23 = .ok (.invokestatic 139, 3) := by decide +kernel
theorem dX12_hidden_26 : decode cX12_hidden 26 = .ok (.ifCond .eq 21, 3) := by decide +kernel
theorem dX12_hidden_29 : decode cX12_hidden 29 = .ok (.iload_n 3, 1) := by decide +kernel
theorem dX12_hidden_30 : decode cX12_hidden 30 = .ok (.iconst 2, 1) := by decide +kernel
theorem dX12_hidden_31 : decode cX12_hidden 31 = .ok (.irem, 1) := by decide +kernel
theorem dX12_hidden_32 : decode cX12_hidden 32 = .ok (.ifCond .ne 15, 3) := by decide +kernel
theorem dX12_hidden_35 : decode cX12_hidden 35 = .ok (.iload_n 3, 1) := by decide +kernel
theorem dX12_hidden_36 : decode cX12_hidden 36 = .ok (.iconst 2, 1) := by decide +kernel
theorem dX12_hidden_37 : decode cX12_hidden 37 = .ok (.idiv, 1) := by decide +kernel
theorem dX12_hidden_38 : decode cX12_hidden 38 = .ok (.iconst 1, 1) := by decide +kernel
theorem dX12_hidden_39 : decode cX12_hidden 39 = .ok (.bipush 60, 2) := by decide +kernel
theorem dX12_hidden_41 : decode cX12_hidden 41 = .ok (.invokestatic 139, 3) := by decide +kernel
theorem dX12_hidden_44 : decode cX12_hidden 44 = .ok (.ifCond .ne 5, 3) := by decide +kernel
theorem dX12_hidden_47 : decode cX12_hidden 47 = .ok (.iconst (-1), 1) := by decide +kernel
theorem dX12_hidden_48 : decode cX12_hidden 48 = .ok (.ireturn, 1) := by decide +kernel
theorem dX12_hidden_49 : decode cX12_hidden 49 = .ok (.aload_n 0, 1) := by decide +kernel
theorem dX12_hidden_50 : decode cX12_hidden 50 = .ok (.iload_n 3, 1) := by decide +kernel
theorem dX12_hidden_51 : decode cX12_hidden 51 = .ok (.iconst 2, 1) := by decide +kernel
theorem dX12_hidden_52 : decode cX12_hidden 52 = .ok (.idiv, 1) := by decide +kernel
theorem dX12_hidden_53 : decode cX12_hidden 53 = .ok (.putfield 378, 3) := by decide +kernel
theorem dX12_hidden_56 : decode cX12_hidden 56 = .ok (.iconst 0, 1) := by decide +kernel
theorem dX12_hidden_57 : decode cX12_hidden 57 = .ok (.istore 4, 2) := by decide +kernel
theorem dX12_hidden_59 : decode cX12_hidden 59 = .ok (.iload 4, 2) := by decide +kernel
theorem dX12_hidden_61 : decode cX12_hidden 61 = .ok (.aload_n 0, 1) := by decide +kernel
theorem dX12_hidden_62 : decode cX12_hidden 62 = .ok (.getfield 378, 3) := by decide +kernel
theorem dX12_hidden_65 : decode cX12_hidden 65 = .ok (.if_icmp .ge 41, 3) := by decide +kernel
theorem dX12_hidden_68 : decode cX12_hidden 68 = .ok (.aload_n 0, 1) := by decide +kernel
theorem dX12_hidden_69 : decode cX12_hidden 69 = .ok (.getfield 54, 3) := by decide +kernel
theorem dX12_hidden_72 : decode cX12_hidden 72 = .ok (.iload 4, 2) := by decide +kernel
theorem dX12_hidden_74 : decode cX12_hidden 74 = .ok (.sipush 256, 3) := by decide +kernel
theorem dX12_hidden_77 : decode cX12_hidden 77 = .ok (.aload_n 0, 1) := by decide +kernel
theorem dX12_hidden_78 : decode cX12_hidden 78 = .ok (.getfield 7, 3) := by decide +kernel
theorem dX12_hidden_81 : decode cX12_hidden 81 = .ok (.iconst 2, 1) := by decide +kernel
theorem dX12_hidden_82 : decode cX12_hidden 82 = .ok (.iload 4, 2) := by decide +kernel
theorem dX12_hidden_84 : decode cX12_hidden 84 = .ok (.imul, 1) := by decide +kernel
theorem dX12_hidden_85 : decode cX12_hidden 85 = .ok (.iaload, 1) := by decide +kernel
theorem dX12_hidden_86 : decode cX12_hidden 86 = .ok (.imul, 1) := by decide +kernel
theorem dX12_hidden_87 : decode cX12_hidden 87 = .ok (.aload_n 0, 1) := by decide +kernel
theorem dX12_hidden_88 : decode cX12_hidden 88 = .ok (.getfield 7, 3) := by decide +kernel
theorem dX12_hidden_91 : decode cX12_hidden 91 = .ok (.iconst 2, 1) := by decide +kernel
theorem dX12_hidden_92 : decode cX12_hidden 92 = .ok (.iload 4, 2) := by decide +kernel
theorem dX12_hidden_94 : decode cX12_hidden 94 = .ok (.imul, 1) := by decide +kernel
theorem dX12_hidden_95 : decode cX12_hidden 95 = .ok (.iconst 1, 1) := by decide +kernel
theorem dX12_hidden_96 : decode cX12_hidden 96 = .ok (.iadd, 1) := by decide +kernel
theorem dX12_hidden_97 : decode cX12_hidden 97 = .ok (.iaload, 1) := by decide +kernel
theorem dX12_hidden_98 : decode cX12_hidden 98 = .ok (.iadd, 1) := by decide +kernel
theorem dX12_hidden_99 : decode cX12_hidden 99 = .ok (.iastore, 1) := by decide +kernel
theorem dX12_hidden_100 : decode cX12_hidden 100 = .ok (.iinc 4 1, 3) := by decide +kernel
theorem dX12_hidden_103 : decode cX12_hidden 103 = .ok (.goto (-44), 3) := by decide +kernel
theorem dX12_hidden_106 : decode cX12_hidden 106 = .ok (.aload_n 0, 1) := by decide +kernel
theorem dX12_hidden_107 : decode cX12_hidden 107 = .ok (.iconst 0, 1) := by decide +kernel
theorem dX12_hidden_108 : decode cX12_hidden 108 = .ok (.invokevirtual 299, 3) := by decide +kernel
theorem dX12_hidden_111 : decode cX12_hidden 111 = .ok (.aload_n 0, 1) := by decide +kernel
theorem dX12_hidden_112 : decode cX12_hidden 112 = .ok (.iload_n 1, 1) := by decide +kernel
theorem dX12_hidden_113 : decode cX12_hidden 113 = .ok (.iload_n 2, 1) := by decide +kernel
theorem dX12_hidden_114 : decode cX12_hidden 114 = .ok (.iconst (-1), 1) := by decide +kernel
theorem dX12_hidden_115 : decode cX12_hidden 115 = .ok (.iconst 0, 1) := by decide +kernel
theorem dX12_hidden_116 : decode cX12_hidden 116 = .ok (.invokevirtual 381, 3) := by decide +kernel
theorem dX12_hidden_119 : decode cX12_hidden 119 = .ok (.ifCond .eq 6, 3) := by decide +kernel
theorem dX12_hidden_122 : decode cX12_hidden 122 = .ok (.bipush (-2), 2) := by decide +kernel
theorem dX12_hidden_124 : decode cX12_hidden 124 = .ok (.ireturn, 1) := by decide +kernel
theorem dX12_hidden_125 : decode cX12_hidden 125 = .ok (.aload_n 0, 1) := by decide +kernel
theorem dX12_hidden_126 : decode cX12_hidden 126 = .ok (.iconst 1, 1) := by decide +kernel
theorem dX12_hidden_127 : decode cX12_hidden 127 = .ok (.putfield 385, 3) := by decide +kernel
theorem dX12_hidden_130 : decode cX12_hidden 130 = .ok (.aload_n 0, 1) := by decide +kernel
theorem dX12_hidden_131 : decode cX12_hidden 131 = .ok (.iconst 0, 1) := by decide +kernel
theorem dX12_hidden_132 : decode cX12_hidden 132 = .ok (.putfield 388, 3) := by decide +kernel
theorem dX12_hidden_135 : decode cX12_hidden 135 = .ok (.aload_n 0, 1) := by decide +kernel
theorem dX12_hidden_136 : decode cX12_hidden 136 = .ok (.lconst 0, 1) := by decide +kernel
theorem dX12_hidden_137 : decode cX12_hidden 137 = .ok (.putfield 391, 3) := by decide +kernel
theorem dX12_hidden_140 : decode cX12_hidden 140 = .ok (.iconst 0, 1) := by decide +kernel
theorem dX12_hidden_141 : decode cX12_hidden 141 = .ok (.istore 4, 2) := by decide +kernel
theorem dX12_hidden_143 : decode cX12_hidden 143 = .ok (.iconst 0, 1) := by decide +kernel
theorem dX12_hidden_144 : decode cX12_hidden 144 = .ok (.istore 5, 2) := by decide +kernel
theorem dX12_hidden_146 : decode cX12_hidden 146 = .ok (.iload 5, 2) := by decide +kernel
theorem dX12_hidden_148 : decode cX12_hidden 148 = .ok (.aload_n 0, 1) := by decide +kernel
theorem dX12_hidden_149 : decode cX12_hidden 149 = .ok (.getfield 13, 3) := by decide +kernel
theorem dX12_hidden_152 : decode cX12_hidden 152 = .ok (.iconst 0, 1) := by decide +kernel
theorem dX12_hidden_153 : decode cX12_hidden 153 = .ok (.iaload, 1) := by decide +kernel
theorem dX12_hidden_154 : decode cX12_hidden 154 = .ok (.if_icmp .ge 84, 3) := by decide +kernel
theorem dX12_hidden_157 : decode cX12_hidden 157 = .ok (.iconst 1, 1) := by decide +kernel
theorem dX12_hidden_158 : decode cX12_hidden 158 = .ok (.istore 6, 2) := by decide +kernel
theorem dX12_hidden_160 : decode cX12_hidden 160 = .ok (.iload 6, 2) := by decide +kernel
theorem dX12_hidden_162 : decode cX12_hidden 162 = .ok (.sipush 1000, 3) := by decide +kernel
theorem dX12_hidden_165 : decode cX12_hidden 165 = .ok (.if_icmp .ge 67, 3) := by decide +kernel
theorem dX12_hidden_168 : decode cX12_hidden 168 = .ok (.aload_n 0, 1) := by decide +kernel
theorem dX12_hidden_169 : decode cX12_hidden 169 = .ok (.iload_n 1, 1) := by decide +kernel
theorem dX12_hidden_170 : decode cX12_hidden 170 = .ok (.iload_n 2, 1) := by decide +kernel
theorem dX12_hidden_171 : decode cX12_hidden 171 = .ok (.iload 5, 2) := by decide +kernel
theorem dX12_hidden_173 : decode cX12_hidden 173 = .ok (.iload 6, 2) := by decide +kernel
theorem dX12_hidden_175 : decode cX12_hidden 175 = .ok (.invokevirtual 381, 3) := by decide +kernel
theorem dX12_hidden_178 : decode cX12_hidden 178 = .ok (.ifCond .ne 6, 3) := by decide +kernel
theorem dX12_hidden_181 : decode cX12_hidden 181 = .ok (.goto 45, 3) := by decide +kernel
theorem dX12_hidden_184 : decode cX12_hidden 184 = .ok (.aload_n 0, 1) := by decide +kernel
theorem dX12_hidden_185 : decode cX12_hidden 185 = .ok (.dup, 1) := by decide +kernel
theorem dX12_hidden_186 : decode cX12_hidden 186 = .ok (.getfield 391, 3) := by decide +kernel
theorem dX12_hidden_189 : decode cX12_hidden 189 = .ok (.lconst 1, 1) := by decide +kernel
theorem dX12_hidden_190 : decode cX12_hidden 190 = .ok (.iload 5, 2) := by decide +kernel
theorem dX12_hidden_192 : decode cX12_hidden 192 = .ok (.lshl, 1) := by decide +kernel
theorem dX12_hidden_193 : decode cX12_hidden 193 = .ok (.lor, 1) := by decide +kernel
theorem dX12_hidden_194 : decode cX12_hidden 194 = .ok (.putfield 391, 3) := by decide +kernel
theorem dX12_hidden_197 : decode cX12_hidden 197 = .ok (.iload 4, 2) := by decide +kernel
theorem dX12_hidden_199 : decode cX12_hidden 199 = .ok (.sipush 200, 3) := by decide +kernel
theorem dX12_hidden_202 : decode cX12_hidden 202 = .ok (.if_icmp .ge 21, 3) := by decide +kernel
theorem dX12_hidden_205 : decode cX12_hidden 205 = .ok (.aload_n 0, 1) := by decide +kernel
theorem dX12_hidden_206 : decode cX12_hidden 206 = .ok (.getfield 57, 3) := by decide +kernel
theorem dX12_hidden_209 : decode cX12_hidden 209 = .ok (.iload 4, 2) := by decide +kernel
theorem dX12_hidden_211 : decode cX12_hidden 211 = .ok (.iload 5, 2) := by decide +kernel
theorem dX12_hidden_213 : decode cX12_hidden 213 = .ok (.iastore, 1) := by decide +kernel
theorem dX12_hidden_214 : decode cX12_hidden 214 = .ok (.aload_n 0, 1) := by decide +kernel
theorem dX12_hidden_215 : decode cX12_hidden 215 = .ok (.getfield 60, 3) := by decide +kernel
theorem dX12_hidden_218 : decode cX12_hidden 218 = .ok (.iload 4, 2) := by decide +kernel
theorem dX12_hidden_220 : decode cX12_hidden 220 = .ok (.iload 6, 2) := by decide +kernel
theorem dX12_hidden_222 : decode cX12_hidden 222 = .ok (.iastore, 1) := by decide +kernel
theorem dX12_hidden_223 : decode cX12_hidden 223 = .ok (.iinc 4 1, 3) := by decide +kernel
theorem dX12_hidden_226 : decode cX12_hidden 226 = .ok (.iinc 6 1, 3) := by decide +kernel
theorem dX12_hidden_229 : decode cX12_hidden 229 = .ok (.goto (-69), 3) := by decide +kernel
theorem dX12_hidden_232 : decode cX12_hidden 232 = .ok (.iinc 5 1, 3) := by decide +kernel
theorem dX12_hidden_235 : decode cX12_hidden 235 = .ok (.goto (-89), 3) := by decide +kernel
theorem dX12_hidden_238 : decode cX12_hidden 238 = .ok (.aload_n 0, 1) := by decide +kernel
theorem dX12_hidden_239 : decode cX12_hidden 239 = .ok (.iload 4, 2) := by decide +kernel
theorem dX12_hidden_241 : decode cX12_hidden 241 = .ok (.sipush 200, 3) := by decide +kernel
theorem dX12_hidden_244 : decode cX12_hidden 244 = .ok (.if_icmp .ge 8, 3) := by decide +kernel
theorem dX12_hidden_247 : decode cX12_hidden 247 = .ok (.iload 4, 2) := by decide +kernel
theorem dX12_hidden_249 : decode cX12_hidden 249 = .ok (.goto 6, 3) := by decide +kernel
theorem dX12_hidden_252 : decode cX12_hidden 252 = .ok (.sipush 200, 3) := by decide +kernel
theorem dX12_hidden_255 : decode cX12_hidden 255 = .ok (.putfield 388, 3) := by decide +kernel
theorem dX12_hidden_258 : decode cX12_hidden 258 = .ok (.iload 4, 2) := by decide +kernel
theorem dX12_hidden_260 : decode cX12_hidden 260 = .ok (.ireturn, 1) := by decide +kernel
def E_X12_hidden_59 (G : GT) (d : Nat) (h0 hb : PH) (l0 : Nat) (l1 : Int32) (l2 : Int32) (Q : Int32 → PH → Prop) (s : Int32 × PH) : Prop := qEx hb s.2 ∧ qn s.2 = qn hb ∧ qz s.2 = qz hb → Ex G (qrm (6 + d) 0 0) mX12_hidden (qn h0) (qz h0) (ZN G h0 0 0 (qqi Q)) 59 [(0, .ref l0), (1, .int l1), (2, .int l2), (4, .int s.1)] [] s.2
def E_X12_hidden_146 (G : GT) (d : Nat) (h0 hb : PH) (l0 : Nat) (l1 : Int32) (l2 : Int32) (Q : Int32 → PH → Prop) (s : Int32 × Int32 × PH) : Prop := qEx hb s.2.2 ∧ qn s.2.2 = qn hb ∧ qz s.2.2 = qz hb → Ex G (qrm (6 + d) 0 0) mX12_hidden (qn h0) (qz h0) (ZN G h0 0 0 (qqi Q)) 146 [(0, .ref l0), (1, .int l1), (2, .int l2), (4, .int s.1), (5, .int s.2.1)] [] s.2.2
def E_X12_hidden_160 (G : GT) (d : Nat) (h0 hb : PH) (l0 : Nat) (l1 : Int32) (l2 : Int32) (l5 : Int32) (Q : Int32 → PH → Prop) (s : Int32 × Int32 × PH) : Prop := qEx hb s.2.2 ∧ qn s.2.2 = qn hb ∧ qz s.2.2 = qz hb → Ex G (qrm (6 + d) 0 0) mX12_hidden (qn h0) (qz h0) (ZN G h0 0 0 (qqi Q)) 160 [(0, .ref l0), (1, .int l1), (2, .int l2), (4, .int s.1), (5, .int l5), (6, .int s.2.1)] [] s.2.2
def wb_X12_hidden_160 (l0 : Nat) (l1 : Int32) (l2 : Int32) (l5 : Int32) (bk146 : Int32 × Int32 × PH → Prop) (Q : Int32 → PH → Prop) (bk160 : Int32 × Int32 × PH → Prop) (l4 : Int32) (l6 : Int32) (h : PH) : Prop := ((1000 ≤ l6 → ∀ v43 : Int32, v43 = l5 + 1 → bk146 (l4, v43, h)) ∧ (¬ (1000 ≤ l6) → (wp_X12_comesSo l0 l1 l2 l5 l6 h (fun r45 h44 => ((¬ r45 = 0 → (∀ h47, h47 = qsJ h44 l0 53 ((qJ h44 l0 53) ||| (1 <<< (l5.toInt64 &&& 63))) → ((200 ≤ l4 → ∀ v49 : Int32, v49 = l4 + 1 → ∀ v50 : Int32, v50 = l6 + 1 → bk160 (v49, v50, h47)) ∧ (¬ (200 ≤ l4) → (∃ b51, qR h47 l0 49 = some b51 ∧ (vp_in l4 (qL h47 b51) ∧ ∀ h53, h53 = qsI h47 b51 l4.toNatClampNeg l5 → (∃ b55, qR h53 l0 50 = some b55 ∧ (vp_in l4 (qL h53 b55) ∧ ∀ h57, h57 = qsI h53 b55 l4.toNatClampNeg l6 → ∀ v59 : Int32, v59 = l4 + 1 → ∀ v60 : Int32, v60 = l6 + 1 → bk160 (v59, v60, h57))))))))) ∧ (r45 = 0 → ∀ v61 : Int32, v61 = l6 + 1 → bk160 (l4, v61, h44)))))))
def wp_X12_hidden_160 (l0 : Nat) (l1 : Int32) (l2 : Int32) (l5 : Int32) (bk146 : Int32 × Int32 × PH → Prop) (Q : Int32 → PH → Prop) (bk160 : Int32 × Int32 × PH → Prop) (s : Int32 × Int32 × PH) : Prop := wb_X12_hidden_160 l0 l1 l2 l5 bk146 Q bk160 s.1 s.2.1 s.2.2
set_option maxHeartbeats 4000000 in
set_option maxRecDepth 100000 in
theorem bd_X12_hidden_160 (G : GT) (d : Nat) (h0 hb : PH) (l0 : Nat) (l1 : Int32) (l2 : Int32) (l5 : Int32) (Q : Int32 → PH → Prop) (hb146 : PH) (bk146 : Int32 × Int32 × PH → Prop) (hbk146 : ∀ s2, bk146 s2 → E_X12_hidden_146 G d h0 hb146 l0 l1 l2 Q s2) (hx146 : qEx hb146 hb) (hn146 : qn hb = qn hb146) (hz146 : qz hb = qz hb146) (hex : qEx h0 hb) (hnn : qn hb = qn h0 + 0) (hzz : qz hb = qz h0 + 0) (okl0 : qOK hb 11 l0) (bk160 : Int32 × Int32 × PH → Prop) (hbk160 : ∀ s2, bk160 s2 → E_X12_hidden_160 G d h0 hb l0 l1 l2 l5 Q s2) (l4 : Int32) (l6 : Int32) (h : PH) (hwp : wb_X12_hidden_160 l0 l1 l2 l5 bk146 Q bk160 l4 l6 h) (hx160 : qEx hb h) (hn160 : qn h = qn hb) (hz160 : qz h = qz hb) : Ex G (qrm (6 + d) 0 0) mX12_hidden (qn h0) (qz h0) (ZN G h0 0 0 (qqi Q)) 160 [(0, .ref l0), (1, .int l1), (2, .int l2), (4, .int l4), (5, .int l5), (6, .int l6)] [] h := by
  unfold wb_X12_hidden_160 at hwp
  have hex := hex.tr hx160
  have hnn := hn160.trans hnn
  have hzz := hz160.trans hzz
  have hx146 := hx146.tr hx160
  have hn146 := hn160.trans hn146
  have hz146 := hz160.trans hz146
  have okl0 := okl0.ex hx160
  refine x_iload (pc := 160) dX12_hidden_160 rfl ?_
  refine x_sipush (v := 1000) (pc := 162) dX12_hidden_162 (by decide) ?_
  refine x_icmp_ge (tgt := 232) (pc := 165) dX12_hidden_165 (by decide) (fun c42 => ?_) (fun c42 => ?_)
  · have hwp := hwp.1 c42
    refine y_iinc (c := 1) (pc := 232) dX12_hidden_232 rfl (by decide) (by decide) (fun v43 ev43 => ?_)
    have hwp := hwp v43 ev43
    refine x_lvE (lv2 := [(5, .int v43), (0, .ref l0), (1, .int l1), (2, .int l2), (4, .int l4), (6, .int l6)]) rfl ?_
    refine x_goto (tgt := 146) (pc := 235) dX12_hidden_235 (by decide) ?_
    refine x_sub [1, 2, 3, 4, 0] rfl ?_
    exact hbk146 _ hwp ⟨hx146, hn146, hz146⟩
  · have hwp := hwp.2 c42
    refine x_aload_n (pc := 168) dX12_hidden_168 rfl ?_
    refine x_iload_n (pc := 169) dX12_hidden_169 rfl ?_
    refine x_iload_n (pc := 170) dX12_hidden_170 rfl ?_
    refine x_iload (pc := 171) dX12_hidden_171 rfl ?_
    refine x_iload (pc := 173) dX12_hidden_173 rfl ?_
    refine x_invV (As := [.int l1, .int l2, .int l5, .int l6]) (st := []) (pc := 175) dX12_hidden_175 lRX12_381 fX12_comesSo vX12_comesSo okl0 rfl (Nat.le_of_ble_eq_true rfl) (q_R (by omega) (by decide)) (q_C hnn hzz (by decide) (by decide)) (sn_X12_comesSo G (d + 4) l0 l1 l2 l5 l6 h _ okl0 hwp) (k_b (fun r45 h44 hwp zbr45 cxh44 => ?_))
    have hex := hex.tr cxh44.1
    have hnn : qn h44 = qn h0 + 0 := by have := cxh44.2.1; omega
    have hzz : qz h44 = qz h0 + 0 := by have := cxh44.2.2; omega
    have hx146 := hx146.tr cxh44.1
    have hn146 : qn h44 = qn hb146 := by have := cxh44.2.1; omega
    have hz146 : qz h44 = qz hb146 := by have := cxh44.2.2; omega
    have hx160 := hx160.tr cxh44.1
    have hn160 : qn h44 = qn hb := by have := cxh44.2.1; omega
    have hz160 : qz h44 = qz hb := by have := cxh44.2.2; omega
    have okl0 := okl0.ex cxh44.1
    refine x_if_ne (tgt := 184) (pc := 178) dX12_hidden_178 (by decide) (fun c46 => ?_) (fun c46 => ?_)
    · have hwp := hwp.1 c46
      refine x_aload_n (pc := 184) dX12_hidden_184 rfl ?_
      refine x_dup (pc := 185) dX12_hidden_185 rfl ?_
      refine x_getJ (pc := 186) dX12_hidden_186 qRX12_391 okl0 ?_
      refine x_lconst (v := 1) (pc := 189) dX12_hidden_189 (by decide) ?_
      refine x_iload (pc := 190) dX12_hidden_190 rfl ?_
      refine x_lshl (pc := 192) dX12_hidden_192 ?_
      refine x_lor (pc := 193) dX12_hidden_193 ?_
      refine y_putJ (pc := 194) dX12_hidden_194 qRX12_391 okl0 (fun h47 eh47 nxh47 => ?_)
      have hwp := hwp h47 eh47
      have hex := hex.tr nxh47.1
      have hnn := nxh47.2.1.trans hnn
      have hzz := nxh47.2.2.trans hzz
      have hx146 := hx146.tr nxh47.1
      have hn146 := nxh47.2.1.trans hn146
      have hz146 := nxh47.2.2.trans hz146
      have hx160 := hx160.tr nxh47.1
      have hn160 := nxh47.2.1.trans hn160
      have hz160 := nxh47.2.2.trans hz160
      have okl0 := okl0.ex nxh47.1
      refine x_iload (pc := 197) dX12_hidden_197 rfl ?_
      refine x_sipush (v := 200) (pc := 199) dX12_hidden_199 (by decide) ?_
      refine x_icmp_ge (tgt := 223) (pc := 202) dX12_hidden_202 (by decide) (fun c48 => ?_) (fun c48 => ?_)
      · have hwp := hwp.1 c48
        refine y_iinc (c := 1) (pc := 223) dX12_hidden_223 rfl (by decide) (by decide) (fun v49 ev49 => ?_)
        have hwp := hwp v49 ev49
        refine x_lvE (lv2 := [(4, .int v49), (0, .ref l0), (1, .int l1), (2, .int l2), (5, .int l5), (6, .int l6)]) rfl ?_
        refine y_iinc (c := 1) (pc := 226) dX12_hidden_226 rfl (by decide) (by decide) (fun v50 ev50 => ?_)
        have hwp := hwp v50 ev50
        refine x_lvE (lv2 := [(6, .int v50), (4, .int v49), (0, .ref l0), (1, .int l1), (2, .int l2), (5, .int l5)]) rfl ?_
        refine x_goto (tgt := 160) (pc := 229) dX12_hidden_229 (by decide) ?_
        refine x_sub [2, 3, 4, 1, 5, 0] rfl ?_
        exact hbk160 _ hwp ⟨hx160, hn160, hz160⟩
      · have hwp := hwp.2 c48
        refine x_aload_n (pc := 205) dX12_hidden_205 rfl ?_
        obtain ⟨b51, e52, hwp⟩ := hwp
        refine x_getR (pc := 206) dX12_hidden_206 qRX12_57 okl0 e52 (fun okb51 => ?_)
        refine x_iload (pc := 209) dX12_hidden_209 rfl ?_
        refine x_iload (pc := 211) dX12_hidden_211 rfl ?_
        obtain ⟨i54, hwp⟩ := hwp
        refine y_iastore (pc := 213) dX12_hidden_213 okb51 i54 (fun h53 eh53 nxh53 => ?_)
        have hwp := hwp h53 eh53
        have hex := hex.tr nxh53.1
        have hnn := nxh53.2.1.trans hnn
        have hzz := nxh53.2.2.trans hzz
        have hx146 := hx146.tr nxh53.1
        have hn146 := nxh53.2.1.trans hn146
        have hz146 := nxh53.2.2.trans hz146
        have hx160 := hx160.tr nxh53.1
        have hn160 := nxh53.2.1.trans hn160
        have hz160 := nxh53.2.2.trans hz160
        have okl0 := okl0.ex nxh53.1
        have okb51 := okb51.ex nxh53.1
        refine x_aload_n (pc := 214) dX12_hidden_214 rfl ?_
        obtain ⟨b55, e56, hwp⟩ := hwp
        refine x_getR (pc := 215) dX12_hidden_215 qRX12_60 okl0 e56 (fun okb55 => ?_)
        refine x_iload (pc := 218) dX12_hidden_218 rfl ?_
        refine x_iload (pc := 220) dX12_hidden_220 rfl ?_
        obtain ⟨i58, hwp⟩ := hwp
        refine y_iastore (pc := 222) dX12_hidden_222 okb55 i58 (fun h57 eh57 nxh57 => ?_)
        have hwp := hwp h57 eh57
        have hex := hex.tr nxh57.1
        have hnn := nxh57.2.1.trans hnn
        have hzz := nxh57.2.2.trans hzz
        have hx146 := hx146.tr nxh57.1
        have hn146 := nxh57.2.1.trans hn146
        have hz146 := nxh57.2.2.trans hz146
        have hx160 := hx160.tr nxh57.1
        have hn160 := nxh57.2.1.trans hn160
        have hz160 := nxh57.2.2.trans hz160
        have okl0 := okl0.ex nxh57.1
        have okb51 := okb51.ex nxh57.1
        have okb55 := okb55.ex nxh57.1
        refine y_iinc (c := 1) (pc := 223) dX12_hidden_223 rfl (by decide) (by decide) (fun v59 ev59 => ?_)
        have hwp := hwp v59 ev59
        refine x_lvE (lv2 := [(4, .int v59), (0, .ref l0), (1, .int l1), (2, .int l2), (5, .int l5), (6, .int l6)]) rfl ?_
        refine y_iinc (c := 1) (pc := 226) dX12_hidden_226 rfl (by decide) (by decide) (fun v60 ev60 => ?_)
        have hwp := hwp v60 ev60
        refine x_lvE (lv2 := [(6, .int v60), (4, .int v59), (0, .ref l0), (1, .int l1), (2, .int l2), (5, .int l5)]) rfl ?_
        refine x_goto (tgt := 160) (pc := 229) dX12_hidden_229 (by decide) ?_
        refine x_sub [2, 3, 4, 1, 5, 0] rfl ?_
        exact hbk160 _ hwp ⟨hx160, hn160, hz160⟩
    · have hwp := hwp.2 c46
      refine x_goto (tgt := 226) (pc := 181) dX12_hidden_181 (by decide) ?_
      refine y_iinc (c := 1) (pc := 226) dX12_hidden_226 rfl (by decide) (by decide) (fun v61 ev61 => ?_)
      have hwp := hwp v61 ev61
      refine x_lvE (lv2 := [(6, .int v61), (0, .ref l0), (1, .int l1), (2, .int l2), (4, .int l4), (5, .int l5)]) rfl ?_
      refine x_goto (tgt := 160) (pc := 229) dX12_hidden_229 (by decide) ?_
      refine x_sub [1, 2, 3, 4, 5, 0] rfl ?_
      exact hbk160 _ hwp ⟨hx160, hn160, hz160⟩
theorem lp_X12_hidden_160 (G : GT) (d : Nat) (h0 hb : PH) (l0 : Nat) (l1 : Int32) (l2 : Int32) (l5 : Int32) (Q : Int32 → PH → Prop) (hb146 : PH) (bk146 : Int32 × Int32 × PH → Prop) (hbk146 : ∀ s2, bk146 s2 → E_X12_hidden_146 G d h0 hb146 l0 l1 l2 Q s2) (hx146 : qEx hb146 hb) (hn146 : qn hb = qn hb146) (hz146 : qz hb = qz hb146) (hex : qEx h0 hb) (hnn : qn hb = qn h0 + 0) (hzz : qz hb = qz h0 + 0) (okl0 : qOK hb 11 l0) {s : Int32 × Int32 × PH} (hwp : qLoop (wp_X12_hidden_160 l0 l1 l2 l5 bk146 Q) s) : E_X12_hidden_160 G d h0 hb l0 l1 l2 l5 Q s :=
  qLoop.use (E := E_X12_hidden_160 G d h0 hb l0 l1 l2 l5 Q) (fun back s hbk hw hx => bd_X12_hidden_160 G d h0 hb l0 l1 l2 l5 Q hb146 bk146 hbk146 hx146 hn146 hz146 hex hnn hzz okl0 back hbk s.1 s.2.1 s.2.2 hw hx.1 hx.2.1 hx.2.2) hwp
def wb_X12_hidden_146 (l0 : Nat) (l1 : Int32) (l2 : Int32)  (Q : Int32 → PH → Prop) (bk146 : Int32 × Int32 × PH → Prop) (l4 : Int32) (l5 : Int32) (h : PH) : Prop := (∃ b35, qR h l0 14 = some b35 ∧ (vp_in 0 (qL h b35) ∧ (((qI h b35 (0 : Int32).toNatClampNeg) ≤ l5 → ((200 ≤ l4 → (∀ h40, h40 = qsI h l0 52 200 → Q l4 h40)) ∧ (¬ (200 ≤ l4) → (∀ h41, h41 = qsI h l0 52 l4 → Q l4 h41)))) ∧ (¬ ((qI h b35 (0 : Int32).toNatClampNeg) ≤ l5) → (qLoop (wp_X12_hidden_160 l0 l1 l2 l5 bk146 Q) (l4, 1, h))))))
def wp_X12_hidden_146 (l0 : Nat) (l1 : Int32) (l2 : Int32)  (Q : Int32 → PH → Prop) (bk146 : Int32 × Int32 × PH → Prop) (s : Int32 × Int32 × PH) : Prop := wb_X12_hidden_146 l0 l1 l2 Q bk146 s.1 s.2.1 s.2.2
set_option maxHeartbeats 4000000 in
set_option maxRecDepth 100000 in
theorem bd_X12_hidden_146 (G : GT) (d : Nat) (h0 hb : PH) (l0 : Nat) (l1 : Int32) (l2 : Int32) (Q : Int32 → PH → Prop)  (hex : qEx h0 hb) (hnn : qn hb = qn h0 + 0) (hzz : qz hb = qz h0 + 0) (okl0 : qOK hb 11 l0) (bk146 : Int32 × Int32 × PH → Prop) (hbk146 : ∀ s2, bk146 s2 → E_X12_hidden_146 G d h0 hb l0 l1 l2 Q s2) (l4 : Int32) (l5 : Int32) (h : PH) (hwp : wb_X12_hidden_146 l0 l1 l2 Q bk146 l4 l5 h) (hx146 : qEx hb h) (hn146 : qn h = qn hb) (hz146 : qz h = qz hb) : Ex G (qrm (6 + d) 0 0) mX12_hidden (qn h0) (qz h0) (ZN G h0 0 0 (qqi Q)) 146 [(0, .ref l0), (1, .int l1), (2, .int l2), (4, .int l4), (5, .int l5)] [] h := by
  unfold wb_X12_hidden_146 at hwp
  have hex := hex.tr hx146
  have hnn := hn146.trans hnn
  have hzz := hz146.trans hzz
  have okl0 := okl0.ex hx146
  refine x_iload (pc := 146) dX12_hidden_146 rfl ?_
  refine x_aload_n (pc := 148) dX12_hidden_148 rfl ?_
  obtain ⟨b35, e36, hwp⟩ := hwp
  refine x_getR (pc := 149) dX12_hidden_149 qRX12_13 okl0 e36 (fun okb35 => ?_)
  refine x_iconst (v := 0) (pc := 152) dX12_hidden_152 (by decide) ?_
  obtain ⟨i37, hwp⟩ := hwp
  refine x_iaload (pc := 153) dX12_hidden_153 okb35 i37 ?_
  refine x_icmp_ge (tgt := 238) (pc := 154) dX12_hidden_154 (by decide) (fun c38 => ?_) (fun c38 => ?_)
  · have hwp := hwp.1 c38
    refine x_aload_n (pc := 238) dX12_hidden_238 rfl ?_
    refine x_iload (pc := 239) dX12_hidden_239 rfl ?_
    refine x_sipush (v := 200) (pc := 241) dX12_hidden_241 (by decide) ?_
    refine x_icmp_ge (tgt := 252) (pc := 244) dX12_hidden_244 (by decide) (fun c39 => ?_) (fun c39 => ?_)
    · have hwp := hwp.1 c39
      refine x_sipush (v := 200) (pc := 252) dX12_hidden_252 (by decide) ?_
      refine y_putI (pc := 255) dX12_hidden_255 qRX12_388 okl0 (fun h40 eh40 nxh40 => ?_)
      have hwp := hwp h40 eh40
      have hex := hex.tr nxh40.1
      have hnn := nxh40.2.1.trans hnn
      have hzz := nxh40.2.2.trans hzz
      have hx146 := hx146.tr nxh40.1
      have hn146 := nxh40.2.1.trans hn146
      have hz146 := nxh40.2.2.trans hz146
      have okl0 := okl0.ex nxh40.1
      have okb35 := okb35.ex nxh40.1
      refine x_iload (pc := 258) dX12_hidden_258 rfl ?_
      exact x_iret (pc := 260) dX12_hidden_260 rfl hex hnn hzz ⟨_, rfl, hwp⟩
    · have hwp := hwp.2 c39
      refine x_iload (pc := 247) dX12_hidden_247 rfl ?_
      refine x_goto (tgt := 255) (pc := 249) dX12_hidden_249 (by decide) ?_
      refine y_putI (pc := 255) dX12_hidden_255 qRX12_388 okl0 (fun h41 eh41 nxh41 => ?_)
      have hwp := hwp h41 eh41
      have hex := hex.tr nxh41.1
      have hnn := nxh41.2.1.trans hnn
      have hzz := nxh41.2.2.trans hzz
      have hx146 := hx146.tr nxh41.1
      have hn146 := nxh41.2.1.trans hn146
      have hz146 := nxh41.2.2.trans hz146
      have okl0 := okl0.ex nxh41.1
      have okb35 := okb35.ex nxh41.1
      refine x_iload (pc := 258) dX12_hidden_258 rfl ?_
      exact x_iret (pc := 260) dX12_hidden_260 rfl hex hnn hzz ⟨_, rfl, hwp⟩
  · have hwp := hwp.2 c38
    refine x_iconst (v := 1) (pc := 157) dX12_hidden_157 (by decide) ?_
    refine x_istore (lv2 := [(6, .int 1), (0, .ref l0), (1, .int l1), (2, .int l2), (4, .int l4), (5, .int l5)]) (pc := 158) dX12_hidden_158 (by decide) rfl ?_
    refine x_sub [1, 2, 3, 4, 5, 0] rfl ?_
    exact lp_X12_hidden_160 G d h0 h l0 l1 l2 l5 Q hb bk146 hbk146 hx146 hn146 hz146 hex hnn hzz okl0 hwp ⟨qEx.rf _, rfl, rfl⟩
theorem lp_X12_hidden_146 (G : GT) (d : Nat) (h0 hb : PH) (l0 : Nat) (l1 : Int32) (l2 : Int32) (Q : Int32 → PH → Prop)  (hex : qEx h0 hb) (hnn : qn hb = qn h0 + 0) (hzz : qz hb = qz h0 + 0) (okl0 : qOK hb 11 l0) {s : Int32 × Int32 × PH} (hwp : qLoop (wp_X12_hidden_146 l0 l1 l2 Q) s) : E_X12_hidden_146 G d h0 hb l0 l1 l2 Q s :=
  qLoop.use (E := E_X12_hidden_146 G d h0 hb l0 l1 l2 Q) (fun back s hbk hw hx => bd_X12_hidden_146 G d h0 hb l0 l1 l2 Q hex hnn hzz okl0 back hbk s.1 s.2.1 s.2.2 hw hx.1 hx.2.1 hx.2.2) hwp
def wb_X12_hidden_59 (l0 : Nat) (l1 : Int32) (l2 : Int32)  (Q : Int32 → PH → Prop) (bk59 : Int32 × PH → Prop) (l4 : Int32) (h : PH) : Prop := (((qI h l0 51) ≤ l4 → (wp_X12_layWorld l0 0 h (fun h16 => (wp_X12_comesSo l0 l1 l2 (-1) 0 h16 (fun r19 h18 => ((r19 = 0 → (∀ h21, h21 = qsI h18 l0 54 1 → (∀ h22, h22 = qsI h21 l0 52 0 → (∀ h23, h23 = qsJ h22 l0 53 0 → (qLoop (wp_X12_hidden_146 l0 l1 l2 Q) (0, 0, h23)))))) ∧ (¬ (r19 = 0) → Q (-2) h18))))))) ∧ (¬ ((qI h l0 51) ≤ l4) → (∃ b24, qR h l0 48 = some b24 ∧ (∃ b26, qR h l0 1 = some b26 ∧ (vp_in (2 * l4) (qL h b26) ∧ (∃ b29, qR h l0 1 = some b29 ∧ (vp_in ((2 * l4) + 1) (qL h b29) ∧ (vp_in l4 (qL h b24) ∧ ∀ h32, h32 = qsI h b24 l4.toNatClampNeg ((256 * (qI h b26 (2 * l4).toNatClampNeg)) + (qI h b29 ((2 * l4) + 1).toNatClampNeg)) → ∀ v34 : Int32, v34 = l4 + 1 → bk59 (v34, h32)))))))))
def wp_X12_hidden_59 (l0 : Nat) (l1 : Int32) (l2 : Int32)  (Q : Int32 → PH → Prop) (bk59 : Int32 × PH → Prop) (s : Int32 × PH) : Prop := wb_X12_hidden_59 l0 l1 l2 Q bk59 s.1 s.2
set_option maxHeartbeats 4000000 in
set_option maxRecDepth 100000 in
theorem bd_X12_hidden_59 (G : GT) (d : Nat) (h0 hb : PH) (l0 : Nat) (l1 : Int32) (l2 : Int32) (Q : Int32 → PH → Prop)  (hex : qEx h0 hb) (hnn : qn hb = qn h0 + 0) (hzz : qz hb = qz h0 + 0) (okl0 : qOK hb 11 l0) (bk59 : Int32 × PH → Prop) (hbk59 : ∀ s2, bk59 s2 → E_X12_hidden_59 G d h0 hb l0 l1 l2 Q s2) (l4 : Int32) (h : PH) (hwp : wb_X12_hidden_59 l0 l1 l2 Q bk59 l4 h) (hx59 : qEx hb h) (hn59 : qn h = qn hb) (hz59 : qz h = qz hb) : Ex G (qrm (6 + d) 0 0) mX12_hidden (qn h0) (qz h0) (ZN G h0 0 0 (qqi Q)) 59 [(0, .ref l0), (1, .int l1), (2, .int l2), (4, .int l4)] [] h := by
  unfold wb_X12_hidden_59 at hwp
  have hex := hex.tr hx59
  have hnn := hn59.trans hnn
  have hzz := hz59.trans hzz
  have okl0 := okl0.ex hx59
  refine x_iload (pc := 59) dX12_hidden_59 rfl ?_
  refine x_aload_n (pc := 61) dX12_hidden_61 rfl ?_
  refine x_getI (pc := 62) dX12_hidden_62 qRX12_378 okl0 (by decide) ?_
  refine x_icmp_ge (tgt := 106) (pc := 65) dX12_hidden_65 (by decide) (fun c15 => ?_) (fun c15 => ?_)
  · have hwp := hwp.1 c15
    refine x_aload_n (pc := 106) dX12_hidden_106 rfl ?_
    refine x_iconst (v := 0) (pc := 107) dX12_hidden_107 (by decide) ?_
    refine x_invV (As := [.int 0]) (st := []) (pc := 108) dX12_hidden_108 lRX12_299 fX12_layWorld vX12_layWorld okl0 rfl (Nat.le_of_ble_eq_true rfl) (q_R (by omega) (by decide)) (q_C hnn hzz (by decide) (by decide)) (sn_X12_layWorld G (d + 0) l0 0 h _ okl0 hwp) (k_v (fun h16 hwp cxh16 => ?_))
    have hex := hex.tr cxh16.1
    have hnn : qn h16 = qn h0 + 0 := by have := cxh16.2.1; omega
    have hzz : qz h16 = qz h0 + 0 := by have := cxh16.2.2; omega
    have hx59 := hx59.tr cxh16.1
    have hn59 : qn h16 = qn hb := by have := cxh16.2.1; omega
    have hz59 : qz h16 = qz hb := by have := cxh16.2.2; omega
    have okl0 := okl0.ex cxh16.1
    refine x_aload_n (pc := 111) dX12_hidden_111 rfl ?_
    refine x_iload_n (pc := 112) dX12_hidden_112 rfl ?_
    refine x_iload_n (pc := 113) dX12_hidden_113 rfl ?_
    refine x_iconst (v := (-1)) (pc := 114) dX12_hidden_114 (by decide) ?_
    refine x_iconst (v := 0) (pc := 115) dX12_hidden_115 (by decide) ?_
    refine x_invV (As := [.int l1, .int l2, .int (-1), .int 0]) (st := []) (pc := 116) dX12_hidden_116 lRX12_381 fX12_comesSo vX12_comesSo okl0 rfl (Nat.le_of_ble_eq_true rfl) (q_R (by omega) (by decide)) (q_C hnn hzz (by decide) (by decide)) (sn_X12_comesSo G (d + 4) l0 l1 l2 (-1) 0 h16 _ okl0 hwp) (k_b (fun r19 h18 hwp zbr19 cxh18 => ?_))
    have hex := hex.tr cxh18.1
    have hnn : qn h18 = qn h0 + 0 := by have := cxh18.2.1; omega
    have hzz : qz h18 = qz h0 + 0 := by have := cxh18.2.2; omega
    have hx59 := hx59.tr cxh18.1
    have hn59 : qn h18 = qn hb := by have := cxh18.2.1; omega
    have hz59 : qz h18 = qz hb := by have := cxh18.2.2; omega
    have okl0 := okl0.ex cxh18.1
    refine x_if_eq (tgt := 125) (pc := 119) dX12_hidden_119 (by decide) (fun c20 => ?_) (fun c20 => ?_)
    · have hwp := hwp.1 c20
      refine x_aload_n (pc := 125) dX12_hidden_125 rfl ?_
      refine x_iconst (v := 1) (pc := 126) dX12_hidden_126 (by decide) ?_
      refine y_putZ (pc := 127) dX12_hidden_127 qRX12_385 okl0 (by decide) (fun h21 eh21 nxh21 => ?_)
      have hwp := hwp h21 eh21
      have hex := hex.tr nxh21.1
      have hnn := nxh21.2.1.trans hnn
      have hzz := nxh21.2.2.trans hzz
      have hx59 := hx59.tr nxh21.1
      have hn59 := nxh21.2.1.trans hn59
      have hz59 := nxh21.2.2.trans hz59
      have okl0 := okl0.ex nxh21.1
      refine x_aload_n (pc := 130) dX12_hidden_130 rfl ?_
      refine x_iconst (v := 0) (pc := 131) dX12_hidden_131 (by decide) ?_
      refine y_putI (pc := 132) dX12_hidden_132 qRX12_388 okl0 (fun h22 eh22 nxh22 => ?_)
      have hwp := hwp h22 eh22
      have hex := hex.tr nxh22.1
      have hnn := nxh22.2.1.trans hnn
      have hzz := nxh22.2.2.trans hzz
      have hx59 := hx59.tr nxh22.1
      have hn59 := nxh22.2.1.trans hn59
      have hz59 := nxh22.2.2.trans hz59
      have okl0 := okl0.ex nxh22.1
      refine x_aload_n (pc := 135) dX12_hidden_135 rfl ?_
      refine x_lconst (v := 0) (pc := 136) dX12_hidden_136 (by decide) ?_
      refine y_putJ (pc := 137) dX12_hidden_137 qRX12_391 okl0 (fun h23 eh23 nxh23 => ?_)
      have hwp := hwp h23 eh23
      have hex := hex.tr nxh23.1
      have hnn := nxh23.2.1.trans hnn
      have hzz := nxh23.2.2.trans hzz
      have hx59 := hx59.tr nxh23.1
      have hn59 := nxh23.2.1.trans hn59
      have hz59 := nxh23.2.2.trans hz59
      have okl0 := okl0.ex nxh23.1
      refine x_iconst (v := 0) (pc := 140) dX12_hidden_140 (by decide) ?_
      refine x_istore (lv2 := [(4, .int 0), (0, .ref l0), (1, .int l1), (2, .int l2)]) (pc := 141) dX12_hidden_141 (by decide) rfl ?_
      refine x_iconst (v := 0) (pc := 143) dX12_hidden_143 (by decide) ?_
      refine x_istore (lv2 := [(5, .int 0), (4, .int 0), (0, .ref l0), (1, .int l1), (2, .int l2)]) (pc := 144) dX12_hidden_144 (by decide) rfl ?_
      refine x_sub [2, 3, 4, 1, 0] rfl ?_
      exact lp_X12_hidden_146 G d h0 h23 l0 l1 l2 Q hex hnn hzz okl0 hwp ⟨qEx.rf _, rfl, rfl⟩
    · have hwp := hwp.2 c20
      refine x_bipush (v := (-2)) (pc := 122) dX12_hidden_122 (by decide) ?_
      exact x_iret (pc := 124) dX12_hidden_124 rfl hex hnn hzz ⟨_, rfl, hwp⟩
  · have hwp := hwp.2 c15
    refine x_aload_n (pc := 68) dX12_hidden_68 rfl ?_
    obtain ⟨b24, e25, hwp⟩ := hwp
    refine x_getR (pc := 69) dX12_hidden_69 qRX12_54 okl0 e25 (fun okb24 => ?_)
    refine x_iload (pc := 72) dX12_hidden_72 rfl ?_
    refine x_sipush (v := 256) (pc := 74) dX12_hidden_74 (by decide) ?_
    refine x_aload_n (pc := 77) dX12_hidden_77 rfl ?_
    obtain ⟨b26, e27, hwp⟩ := hwp
    refine x_getR (pc := 78) dX12_hidden_78 qRX12_7 okl0 e27 (fun okb26 => ?_)
    refine x_iconst (v := 2) (pc := 81) dX12_hidden_81 (by decide) ?_
    refine x_iload (pc := 82) dX12_hidden_82 rfl ?_
    refine x_imul (pc := 84) dX12_hidden_84 ?_
    obtain ⟨i28, hwp⟩ := hwp
    refine x_iaload (pc := 85) dX12_hidden_85 okb26 i28 ?_
    refine x_imul (pc := 86) dX12_hidden_86 ?_
    refine x_aload_n (pc := 87) dX12_hidden_87 rfl ?_
    obtain ⟨b29, e30, hwp⟩ := hwp
    refine x_getR (pc := 88) dX12_hidden_88 qRX12_7 okl0 e30 (fun okb29 => ?_)
    refine x_iconst (v := 2) (pc := 91) dX12_hidden_91 (by decide) ?_
    refine x_iload (pc := 92) dX12_hidden_92 rfl ?_
    refine x_imul (pc := 94) dX12_hidden_94 ?_
    refine x_iconst (v := 1) (pc := 95) dX12_hidden_95 (by decide) ?_
    refine x_iadd (pc := 96) dX12_hidden_96 ?_
    obtain ⟨i31, hwp⟩ := hwp
    refine x_iaload (pc := 97) dX12_hidden_97 okb29 i31 ?_
    refine x_iadd (pc := 98) dX12_hidden_98 ?_
    obtain ⟨i33, hwp⟩ := hwp
    refine y_iastore (pc := 99) dX12_hidden_99 okb24 i33 (fun h32 eh32 nxh32 => ?_)
    have hwp := hwp h32 eh32
    have hex := hex.tr nxh32.1
    have hnn := nxh32.2.1.trans hnn
    have hzz := nxh32.2.2.trans hzz
    have hx59 := hx59.tr nxh32.1
    have hn59 := nxh32.2.1.trans hn59
    have hz59 := nxh32.2.2.trans hz59
    have okl0 := okl0.ex nxh32.1
    have okb24 := okb24.ex nxh32.1
    have okb26 := okb26.ex nxh32.1
    have okb29 := okb29.ex nxh32.1
    refine y_iinc (c := 1) (pc := 100) dX12_hidden_100 rfl (by decide) (by decide) (fun v34 ev34 => ?_)
    have hwp := hwp v34 ev34
    refine x_lvE (lv2 := [(4, .int v34), (0, .ref l0), (1, .int l1), (2, .int l2)]) rfl ?_
    refine x_goto (tgt := 59) (pc := 103) dX12_hidden_103 (by decide) ?_
    refine x_sub [1, 2, 3, 0] rfl ?_
    exact hbk59 _ hwp ⟨hx59, hn59, hz59⟩
theorem lp_X12_hidden_59 (G : GT) (d : Nat) (h0 hb : PH) (l0 : Nat) (l1 : Int32) (l2 : Int32) (Q : Int32 → PH → Prop)  (hex : qEx h0 hb) (hnn : qn hb = qn h0 + 0) (hzz : qz hb = qz h0 + 0) (okl0 : qOK hb 11 l0) {s : Int32 × PH} (hwp : qLoop (wp_X12_hidden_59 l0 l1 l2 Q) s) : E_X12_hidden_59 G d h0 hb l0 l1 l2 Q s :=
  qLoop.use (E := E_X12_hidden_59 G d h0 hb l0 l1 l2 Q) (fun back s hbk hw hx => bd_X12_hidden_59 G d h0 hb l0 l1 l2 Q hex hnn hzz okl0 back hbk s.1 s.2 hw hx.1 hx.2.1 hx.2.2) hwp
def wp_X12_hidden (l0 : Nat) (l1 : Int32) (l2 : Int32) (h : PH) (Q : Int32 → PH → Prop) : Prop := (∀ h1, h1 = qsI h l0 0 0 → (wp_X12_take l0 h1 (fun r3 h2 => (wp_X12_isTime l0 l1 h2 (fun r5 h4 => ((r5 = 0 → Q (-1) h4) ∧ (¬ (r5 = 0) → (wp_X12_isIn l2 0 100000 h4 (fun r8 h7 => ((r8 = 0 → Q (-1) h7) ∧ (¬ (r8 = 0) → ((¬ (r3 - r3 / 2 * 2) = 0 → Q (-1) h7) ∧ ((r3 - r3 / 2 * 2) = 0 → (wp_X12_isIn (r3 / 2) 1 60 h7 (fun r12 h11 => ((¬ r12 = 0 → (∀ h14, h14 = qsI h11 l0 51 (r3 / 2) → (qLoop (wp_X12_hidden_59 l0 l1 l2 Q) (0, h14)))) ∧ (r12 = 0 → Q (-1) h11)))))))))))))))))
set_option maxHeartbeats 4000000 in
set_option maxRecDepth 100000 in
theorem sn_X12_hidden (G : GT) (d : Nat) (l0 : Nat) (l1 : Int32) (l2 : Int32) (h : PH) (Q : Int32 → PH → Prop) (okl0 : qOK h 11 l0) (hwp : wp_X12_hidden l0 l1 l2 h Q) : Mt G (6 + d) 0 0 mX12_hidden [.ref l0, .int l1, .int l2] h (qqi Q) := by
  unfold wp_X12_hidden at hwp
  refine Mt.of (by decide) rfl (Nat.le_of_ble_eq_true rfl) ?_
  have hex := qEx.rf h
  have hnn : qn h = qn h + 0 := rfl
  have hzz : qz h = qz h + 0 := rfl
  refine x_lvE (lv2 := [(0, .ref l0), (1, .int l1), (2, .int l2)]) rfl ?_
  refine x_aload_n (pc := 0) dX12_hidden_0 rfl ?_
  refine x_iconst (v := 0) (pc := 1) dX12_hidden_1 (by decide) ?_
  refine y_putI (pc := 2) dX12_hidden_2 qRX12_75 okl0 (fun h1 eh1 nxh1 => ?_)
  have hwp := hwp h1 eh1
  have hex := hex.tr nxh1.1
  have hnn := nxh1.2.1.trans hnn
  have hzz := nxh1.2.2.trans hzz
  have okl0 := okl0.ex nxh1.1
  refine x_aload_n (pc := 5) dX12_hidden_5 rfl ?_
  refine x_invV (As := []) (st := []) (pc := 6) dX12_hidden_6 lRX12_220 fX12_take vX12_take okl0 rfl (Nat.le_of_ble_eq_true rfl) (q_R (by omega) (by decide)) (q_C hnn hzz (by decide) (by decide)) (sn_X12_take G (d + 5) l0 h1 _ okl0 hwp) (k_i (fun r3 h2 hwp cxh2 => ?_))
  have hex := hex.tr cxh2.1
  have hnn : qn h2 = qn h + 0 := by have := cxh2.2.1; omega
  have hzz : qz h2 = qz h + 0 := by have := cxh2.2.2; omega
  have okl0 := okl0.ex cxh2.1
  refine x_istore_n (lv2 := [(3, .int r3), (0, .ref l0), (1, .int l1), (2, .int l2)]) (pc := 9) dX12_hidden_9 (by decide) rfl ?_
  refine x_aload_n (pc := 10) dX12_hidden_10 rfl ?_
  refine x_iload_n (pc := 11) dX12_hidden_11 rfl ?_
  refine x_invV (As := [.int l1]) (st := []) (pc := 12) dX12_hidden_12 lRX12_259 fX12_isTime vX12_isTime okl0 rfl (Nat.le_of_ble_eq_true rfl) (q_R (by omega) (by decide)) (q_C hnn hzz (by decide) (by decide)) (sn_X12_isTime G (d + 4) l0 l1 h2 _ okl0 hwp) (k_b (fun r5 h4 hwp zbr5 cxh4 => ?_))
  have hex := hex.tr cxh4.1
  have hnn : qn h4 = qn h + 0 := by have := cxh4.2.1; omega
  have hzz : qz h4 = qz h + 0 := by have := cxh4.2.2; omega
  have okl0 := okl0.ex cxh4.1
  refine x_if_eq (tgt := 47) (pc := 15) dX12_hidden_15 (by decide) (fun c6 => ?_) (fun c6 => ?_)
  · have hwp := hwp.1 c6
    refine x_iconst (v := (-1)) (pc := 47) dX12_hidden_47 (by decide) ?_
    exact x_iret (pc := 48) dX12_hidden_48 rfl hex hnn hzz ⟨_, rfl, hwp⟩
  · have hwp := hwp.2 c6
    refine x_iload_n (pc := 18) dX12_hidden_18 rfl ?_
    refine x_iconst (v := 0) (pc := 19) dX12_hidden_19 (by decide) ?_
    refine x_ldcw (v := 100000) (pc := 20) dX12_hidden_20 kRX12_298 ?_
    refine x_invS (As := [.int l2, .int 0, .int 100000]) (st := []) (pc := 23) dX12_hidden_23 lRX12_139 fX12_isIn sX12_isIn rfl (Nat.le_of_ble_eq_true rfl) (q_R (by omega) (by decide)) (q_C hnn hzz (by decide) (by decide)) (sn_X12_isIn G (d + 5) l2 0 100000 h4 _  hwp) (k_b (fun r8 h7 hwp zbr8 cxh7 => ?_))
    have hex := hex.tr cxh7.1
    have hnn : qn h7 = qn h + 0 := by have := cxh7.2.1; omega
    have hzz : qz h7 = qz h + 0 := by have := cxh7.2.2; omega
    have okl0 := okl0.ex cxh7.1
    refine x_if_eq (tgt := 47) (pc := 26) dX12_hidden_26 (by decide) (fun c9 => ?_) (fun c9 => ?_)
    · have hwp := hwp.1 c9
      refine x_iconst (v := (-1)) (pc := 47) dX12_hidden_47 (by decide) ?_
      exact x_iret (pc := 48) dX12_hidden_48 rfl hex hnn hzz ⟨_, rfl, hwp⟩
    · have hwp := hwp.2 c9
      refine x_iload_n (pc := 29) dX12_hidden_29 rfl ?_
      refine x_iconst (v := 2) (pc := 30) dX12_hidden_30 (by decide) ?_
      refine x_irem (pc := 31) dX12_hidden_31 (by decide) ?_
      refine x_if_ne (tgt := 47) (pc := 32) dX12_hidden_32 (by decide) (fun c10 => ?_) (fun c10 => ?_)
      · have hwp := hwp.1 c10
        refine x_iconst (v := (-1)) (pc := 47) dX12_hidden_47 (by decide) ?_
        exact x_iret (pc := 48) dX12_hidden_48 rfl hex hnn hzz ⟨_, rfl, hwp⟩
      · have hwp := hwp.2 c10
        refine x_iload_n (pc := 35) dX12_hidden_35 rfl ?_
        refine x_iconst (v := 2) (pc := 36) dX12_hidden_36 (by decide) ?_
        refine x_idiv (pc := 37) dX12_hidden_37 (by decide) ?_
        refine x_iconst (v := 1) (pc := 38) dX12_hidden_38 (by decide) ?_
        refine x_bipush (v := 60) (pc := 39) dX12_hidden_39 (by decide) ?_
        refine x_invS (As := [.int (r3 / 2), .int 1, .int 60]) (st := []) (pc := 41) dX12_hidden_41 lRX12_139 fX12_isIn sX12_isIn rfl (Nat.le_of_ble_eq_true rfl) (q_R (by omega) (by decide)) (q_C hnn hzz (by decide) (by decide)) (sn_X12_isIn G (d + 5) (r3 / 2) 1 60 h7 _  hwp) (k_b (fun r12 h11 hwp zbr12 cxh11 => ?_))
        have hex := hex.tr cxh11.1
        have hnn : qn h11 = qn h + 0 := by have := cxh11.2.1; omega
        have hzz : qz h11 = qz h + 0 := by have := cxh11.2.2; omega
        have okl0 := okl0.ex cxh11.1
        refine x_if_ne (tgt := 49) (pc := 44) dX12_hidden_44 (by decide) (fun c13 => ?_) (fun c13 => ?_)
        · have hwp := hwp.1 c13
          refine x_aload_n (pc := 49) dX12_hidden_49 rfl ?_
          refine x_iload_n (pc := 50) dX12_hidden_50 rfl ?_
          refine x_iconst (v := 2) (pc := 51) dX12_hidden_51 (by decide) ?_
          refine x_idiv (pc := 52) dX12_hidden_52 (by decide) ?_
          refine y_putI (pc := 53) dX12_hidden_53 qRX12_378 okl0 (fun h14 eh14 nxh14 => ?_)
          have hwp := hwp h14 eh14
          have hex := hex.tr nxh14.1
          have hnn := nxh14.2.1.trans hnn
          have hzz := nxh14.2.2.trans hzz
          have okl0 := okl0.ex nxh14.1
          refine x_iconst (v := 0) (pc := 56) dX12_hidden_56 (by decide) ?_
          refine x_istore (lv2 := [(4, .int 0), (3, .int r3), (0, .ref l0), (1, .int l1), (2, .int l2)]) (pc := 57) dX12_hidden_57 (by decide) rfl ?_
          refine x_sub [2, 3, 4, 0] rfl ?_
          exact lp_X12_hidden_59 G d h h14 l0 l1 l2 Q hex hnn hzz okl0 hwp ⟨qEx.rf _, rfl, rfl⟩
        · have hwp := hwp.2 c13
          refine x_iconst (v := (-1)) (pc := 47) dX12_hidden_47 (by decide) ?_
          exact x_iret (pc := 48) dX12_hidden_48 rfl hex hnn hzz ⟨_, rfl, hwp⟩

theorem dX12_hiddenAt_0 : decode cX12_hiddenAt 0 = .ok (.aload_n 0, 1) := by decide +kernel
theorem dX12_hiddenAt_1 : decode cX12_hiddenAt 1 = .ok (.iconst 0, 1) := by decide +kernel
theorem dX12_hiddenAt_2 : decode cX12_hiddenAt 2 = .ok (.putfield 75, 3) := by decide +kernel
theorem dX12_hiddenAt_5 : decode cX12_hiddenAt 5 = .ok (.iload_n 1, 1) := by decide +kernel
theorem dX12_hiddenAt_6 : decode cX12_hiddenAt 6 = .ok (.ifCond .lt 11, 3) := by decide +kernel
theorem dX12_hiddenAt_9 : decode cX12_hiddenAt 9 = .ok (.iload_n 1, 1) := by decide +kernel
theorem dX12_hiddenAt_10 : decode cX12_hiddenAt 10 = .ok (.aload_n 0, 1) := by decide +kernel
theorem dX12_hiddenAt_11 : decode cX12_hiddenAt 11 = .ok (.getfield 388, 3) := by decide +kernel
theorem dX12_hiddenAt_14 : decode cX12_hiddenAt 14 = .ok (.if_icmp .lt 5, 3) := by decide +kernel
theorem dX12_hiddenAt_17 : decode cX12_hiddenAt 17 = .ok (.iconst (-1), 1) := by decide +kernel
theorem dX12_hiddenAt_18 : decode cX12_hiddenAt 18 = .ok (.ireturn, 1) := by decide +kernel
theorem dX12_hiddenAt_19 : decode cX12_hiddenAt 19 = .ok (.iload_n 2, 1) := by decide +kernel
theorem dX12_hiddenAt_20 : decode cX12_hiddenAt 20 = .ok (.ifCond .ne 12, 3) := by decide +kernel
theorem dX12_hiddenAt_23 : decode cX12_hiddenAt 23 = .ok (.aload_n 0, 1) := by decide +kernel
theorem dX12_hiddenAt_24 : decode cX12_hiddenAt 24 = .ok (.getfield 57, 3) := by decide +kernel
theorem dX12_hiddenAt_27 : decode cX12_hiddenAt 27 = .ok (.iload_n 1, 1) := by decide +kernel
theorem dX12_hiddenAt_28 : decode cX12_hiddenAt 28 = .ok (.iaload, 1) := by decide +kernel
theorem dX12_hiddenAt_29 : decode cX12_hiddenAt 29 = .ok (.goto 18, 3) := by decide +kernel
theorem dX12_hiddenAt_32 : decode cX12_hiddenAt 32 = .ok (.iload_n 2, 1) := by decide +kernel
theorem dX12_hiddenAt_33 : decode cX12_hiddenAt 33 = .ok (.iconst 1, 1) := by decide +kernel
theorem dX12_hiddenAt_34 : decode cX12_hiddenAt 34 = .ok (.if_icmp .ne 12, 3) := by decide +kernel
theorem dX12_hiddenAt_37 : decode cX12_hiddenAt 37 = .ok (.aload_n 0, 1) := by decide +kernel
theorem dX12_hiddenAt_38 : decode cX12_hiddenAt 38 = .ok (.getfield 60, 3) := by decide +kernel
theorem dX12_hiddenAt_41 : decode cX12_hiddenAt 41 = .ok (.iload_n 1, 1) := by decide +kernel
theorem dX12_hiddenAt_42 : decode cX12_hiddenAt 42 = .ok (.iaload, 1) := by decide +kernel
theorem dX12_hiddenAt_43 : decode cX12_hiddenAt 43 = .ok (.goto 4, 3) := by decide +kernel
theorem dX12_hiddenAt_46 : decode cX12_hiddenAt 46 = .ok (.iconst (-1), 1) := by decide +kernel
theorem dX12_hiddenAt_47 : decode cX12_hiddenAt 47 = .ok (.ireturn, 1) := by decide +kernel
def wp_X12_hiddenAt (l0 : Nat) (l1 : Int32) (l2 : Int32) (h : PH) (Q : Int32 → PH → Prop) : Prop := (∀ h1, h1 = qsI h l0 0 0 → ((l1 < 0 → Q (-1) h1) ∧ (¬ (l1 < 0) → ((l1 < (qI h1 l0 52) → ((¬ l2 = 0 → ((¬ l2 = 1 → Q (-1) h1) ∧ (l2 = 1 → (∃ b6, qR h1 l0 50 = some b6 ∧ (vp_in l1 (qL h1 b6) ∧ Q (qI h1 b6 l1.toNatClampNeg) h1))))) ∧ (l2 = 0 → (∃ b9, qR h1 l0 49 = some b9 ∧ (vp_in l1 (qL h1 b9) ∧ Q (qI h1 b9 l1.toNatClampNeg) h1))))) ∧ (¬ (l1 < (qI h1 l0 52)) → Q (-1) h1)))))
set_option maxHeartbeats 4000000 in
set_option maxRecDepth 100000 in
theorem sn_X12_hiddenAt (G : GT) (d : Nat) (l0 : Nat) (l1 : Int32) (l2 : Int32) (h : PH) (Q : Int32 → PH → Prop) (okl0 : qOK h 11 l0) (hwp : wp_X12_hiddenAt l0 l1 l2 h Q) : Mt G (0 + d) 0 0 mX12_hiddenAt [.ref l0, .int l1, .int l2] h (qqi Q) := by
  unfold wp_X12_hiddenAt at hwp
  refine Mt.of (by decide) rfl (Nat.le_of_ble_eq_true rfl) ?_
  have hex := qEx.rf h
  have hnn : qn h = qn h + 0 := rfl
  have hzz : qz h = qz h + 0 := rfl
  refine x_lvE (lv2 := [(0, .ref l0), (1, .int l1), (2, .int l2)]) rfl ?_
  refine x_aload_n (pc := 0) dX12_hiddenAt_0 rfl ?_
  refine x_iconst (v := 0) (pc := 1) dX12_hiddenAt_1 (by decide) ?_
  refine y_putI (pc := 2) dX12_hiddenAt_2 qRX12_75 okl0 (fun h1 eh1 nxh1 => ?_)
  have hwp := hwp h1 eh1
  have hex := hex.tr nxh1.1
  have hnn := nxh1.2.1.trans hnn
  have hzz := nxh1.2.2.trans hzz
  have okl0 := okl0.ex nxh1.1
  refine x_iload_n (pc := 5) dX12_hiddenAt_5 rfl ?_
  refine x_if_lt (tgt := 17) (pc := 6) dX12_hiddenAt_6 (by decide) (fun c2 => ?_) (fun c2 => ?_)
  · have hwp := hwp.1 c2
    refine x_iconst (v := (-1)) (pc := 17) dX12_hiddenAt_17 (by decide) ?_
    exact x_iret (pc := 18) dX12_hiddenAt_18 rfl hex hnn hzz ⟨_, rfl, hwp⟩
  · have hwp := hwp.2 c2
    refine x_iload_n (pc := 9) dX12_hiddenAt_9 rfl ?_
    refine x_aload_n (pc := 10) dX12_hiddenAt_10 rfl ?_
    refine x_getI (pc := 11) dX12_hiddenAt_11 qRX12_388 okl0 (by decide) ?_
    refine x_icmp_lt (tgt := 19) (pc := 14) dX12_hiddenAt_14 (by decide) (fun c3 => ?_) (fun c3 => ?_)
    · have hwp := hwp.1 c3
      refine x_iload_n (pc := 19) dX12_hiddenAt_19 rfl ?_
      refine x_if_ne (tgt := 32) (pc := 20) dX12_hiddenAt_20 (by decide) (fun c4 => ?_) (fun c4 => ?_)
      · have hwp := hwp.1 c4
        refine x_iload_n (pc := 32) dX12_hiddenAt_32 rfl ?_
        refine x_iconst (v := 1) (pc := 33) dX12_hiddenAt_33 (by decide) ?_
        refine x_icmp_ne (tgt := 46) (pc := 34) dX12_hiddenAt_34 (by decide) (fun c5 => ?_) (fun c5 => ?_)
        · have hwp := hwp.1 c5
          refine x_iconst (v := (-1)) (pc := 46) dX12_hiddenAt_46 (by decide) ?_
          exact x_iret (pc := 47) dX12_hiddenAt_47 rfl hex hnn hzz ⟨_, rfl, hwp⟩
        · have hwp := hwp.2 c5
          refine x_aload_n (pc := 37) dX12_hiddenAt_37 rfl ?_
          obtain ⟨b6, e7, hwp⟩ := hwp
          refine x_getR (pc := 38) dX12_hiddenAt_38 qRX12_60 okl0 e7 (fun okb6 => ?_)
          refine x_iload_n (pc := 41) dX12_hiddenAt_41 rfl ?_
          obtain ⟨i8, hwp⟩ := hwp
          refine x_iaload (pc := 42) dX12_hiddenAt_42 okb6 i8 ?_
          refine x_goto (tgt := 47) (pc := 43) dX12_hiddenAt_43 (by decide) ?_
          exact x_iret (pc := 47) dX12_hiddenAt_47 rfl hex hnn hzz ⟨_, rfl, hwp⟩
      · have hwp := hwp.2 c4
        refine x_aload_n (pc := 23) dX12_hiddenAt_23 rfl ?_
        obtain ⟨b9, e10, hwp⟩ := hwp
        refine x_getR (pc := 24) dX12_hiddenAt_24 qRX12_57 okl0 e10 (fun okb9 => ?_)
        refine x_iload_n (pc := 27) dX12_hiddenAt_27 rfl ?_
        obtain ⟨i11, hwp⟩ := hwp
        refine x_iaload (pc := 28) dX12_hiddenAt_28 okb9 i11 ?_
        refine x_goto (tgt := 47) (pc := 29) dX12_hiddenAt_29 (by decide) ?_
        exact x_iret (pc := 47) dX12_hiddenAt_47 rfl hex hnn hzz ⟨_, rfl, hwp⟩
    · have hwp := hwp.2 c3
      refine x_iconst (v := (-1)) (pc := 17) dX12_hiddenAt_17 (by decide) ?_
      exact x_iret (pc := 18) dX12_hiddenAt_18 rfl hex hnn hzz ⟨_, rfl, hwp⟩

theorem dX12_bits_0 : decode cX12_bits 0 = .ok (.iconst 0, 1) := by decide +kernel
theorem dX12_bits_1 : decode cX12_bits 1 = .ok (.istore_n 1, 1) := by decide +kernel
theorem dX12_bits_2 : decode cX12_bits 2 = .ok (.iload_n 0, 1) := by decide +kernel
theorem dX12_bits_3 : decode cX12_bits 3 = .ok (.istore_n 2, 1) := by decide +kernel
theorem dX12_bits_4 : decode cX12_bits 4 = .ok (.iload_n 2, 1) := by decide +kernel
theorem dX12_bits_5 : decode cX12_bits 5 = .ok (.ifCond .eq 15, 3) := by decide +kernel
theorem dX12_bits_8 : decode cX12_bits 8 = .ok (.iinc 1 1, 3) := by decide +kernel
theorem dX12_bits_11 : decode cX12_bits 11 = .ok (.iload_n 2, 1) := by decide +kernel
theorem dX12_bits_12 : decode cX12_bits 12 = .ok (.iload_n 2, 1) := by decide +kernel
theorem dX12_bits_13 : decode cX12_bits 13 = .ok (.iconst 1, 1) := by decide +kernel
theorem dX12_bits_14 : decode cX12_bits 14 = .ok (.isub, 1) := by decide +kernel
theorem dX12_bits_15 : decode cX12_bits 15 = .ok (.iand, 1) := by decide +kernel
theorem dX12_bits_16 : decode cX12_bits 16 = .ok (.istore_n 2, 1) := by decide +kernel
theorem dX12_bits_17 : decode cX12_bits 17 = .ok (.goto (-13), 3) := by decide +kernel
theorem dX12_bits_20 : decode cX12_bits 20 = .ok (.iload_n 1, 1) := by decide +kernel
theorem dX12_bits_21 : decode cX12_bits 21 = .ok (.ireturn, 1) := by decide +kernel
def E_X12_bits_4 (G : GT) (d : Nat) (h0 hb : PH)  (Q : Int32 → PH → Prop) (s : Int32 × Int32 × PH) : Prop := qEx hb s.2.2 ∧ qn s.2.2 = qn hb ∧ qz s.2.2 = qz hb → Ex G (qrm (0 + d) 0 0) mX12_bits (qn h0) (qz h0) (ZN G h0 0 0 (qqi Q)) 4 [(1, .int s.1), (2, .int s.2.1)] [] s.2.2
def wb_X12_bits_4   (Q : Int32 → PH → Prop) (bk4 : Int32 × Int32 × PH → Prop) (l1 : Int32) (l2 : Int32) (h : PH) : Prop := ((l2 = 0 → Q l1 h) ∧ (¬ (l2 = 0) → ∀ v2 : Int32, v2 = l1 + 1 → ∀ v3 : Int32, v3 = l2 &&& (l2 - 1) → bk4 (v2, v3, h)))
def wp_X12_bits_4   (Q : Int32 → PH → Prop) (bk4 : Int32 × Int32 × PH → Prop) (s : Int32 × Int32 × PH) : Prop := wb_X12_bits_4 Q bk4 s.1 s.2.1 s.2.2
set_option maxHeartbeats 4000000 in
set_option maxRecDepth 100000 in
theorem bd_X12_bits_4 (G : GT) (d : Nat) (h0 hb : PH)  (Q : Int32 → PH → Prop)  (hex : qEx h0 hb) (hnn : qn hb = qn h0 + 0) (hzz : qz hb = qz h0 + 0)  (bk4 : Int32 × Int32 × PH → Prop) (hbk4 : ∀ s2, bk4 s2 → E_X12_bits_4 G d h0 hb  Q s2) (l1 : Int32) (l2 : Int32) (h : PH) (hwp : wb_X12_bits_4 Q bk4 l1 l2 h) (hx4 : qEx hb h) (hn4 : qn h = qn hb) (hz4 : qz h = qz hb) : Ex G (qrm (0 + d) 0 0) mX12_bits (qn h0) (qz h0) (ZN G h0 0 0 (qqi Q)) 4 [(1, .int l1), (2, .int l2)] [] h := by
  unfold wb_X12_bits_4 at hwp
  have hex := hex.tr hx4
  have hnn := hn4.trans hnn
  have hzz := hz4.trans hzz
  refine x_iload_n (pc := 4) dX12_bits_4 rfl ?_
  refine x_if_eq (tgt := 20) (pc := 5) dX12_bits_5 (by decide) (fun c1 => ?_) (fun c1 => ?_)
  · have hwp := hwp.1 c1
    refine x_iload_n (pc := 20) dX12_bits_20 rfl ?_
    exact x_iret (pc := 21) dX12_bits_21 rfl hex hnn hzz ⟨_, rfl, hwp⟩
  · have hwp := hwp.2 c1
    refine y_iinc (c := 1) (pc := 8) dX12_bits_8 rfl (by decide) (by decide) (fun v2 ev2 => ?_)
    have hwp := hwp v2 ev2
    refine x_lvE (lv2 := [(1, .int v2), (2, .int l2)]) rfl ?_
    refine x_iload_n (pc := 11) dX12_bits_11 rfl ?_
    refine x_iload_n (pc := 12) dX12_bits_12 rfl ?_
    refine x_iconst (v := 1) (pc := 13) dX12_bits_13 (by decide) ?_
    refine x_isub (pc := 14) dX12_bits_14 ?_
    refine x_iand (pc := 15) dX12_bits_15 ?_
    refine x_nmI (fun v3 ev3 => ?_)
    have hwp := hwp v3 ev3
    refine x_istore_n (lv2 := [(2, .int v3), (1, .int v2)]) (pc := 16) dX12_bits_16 (by decide) rfl ?_
    refine x_goto (tgt := 4) (pc := 17) dX12_bits_17 (by decide) ?_
    refine x_sub [1, 0] rfl ?_
    exact hbk4 _ hwp ⟨hx4, hn4, hz4⟩
theorem lp_X12_bits_4 (G : GT) (d : Nat) (h0 hb : PH)  (Q : Int32 → PH → Prop)  (hex : qEx h0 hb) (hnn : qn hb = qn h0 + 0) (hzz : qz hb = qz h0 + 0)  {s : Int32 × Int32 × PH} (hwp : qLoop (wp_X12_bits_4 Q) s) : E_X12_bits_4 G d h0 hb  Q s :=
  qLoop.use (E := E_X12_bits_4 G d h0 hb  Q) (fun back s hbk hw hx => bd_X12_bits_4 G d h0 hb Q hex hnn hzz back hbk s.1 s.2.1 s.2.2 hw hx.1 hx.2.1 hx.2.2) hwp
def wp_X12_bits (l0 : Int32) (h : PH) (Q : Int32 → PH → Prop) : Prop := (qLoop (wp_X12_bits_4 Q) (0, l0, h))
set_option maxHeartbeats 4000000 in
set_option maxRecDepth 100000 in
theorem sn_X12_bits (G : GT) (d : Nat) (l0 : Int32) (h : PH) (Q : Int32 → PH → Prop)  (hwp : wp_X12_bits l0 h Q) : Mt G (0 + d) 0 0 mX12_bits [.int l0] h (qqi Q) := by
  unfold wp_X12_bits at hwp
  refine Mt.of (by decide) rfl (Nat.le_of_ble_eq_true rfl) ?_
  have hex := qEx.rf h
  have hnn : qn h = qn h + 0 := rfl
  have hzz : qz h = qz h + 0 := rfl
  refine x_lvE (lv2 := [(0, .int l0)]) rfl ?_
  refine x_iconst (v := 0) (pc := 0) dX12_bits_0 (by decide) ?_
  refine x_istore_n (lv2 := [(1, .int 0), (0, .int l0)]) (pc := 1) dX12_bits_1 (by decide) rfl ?_
  refine x_iload_n (pc := 2) dX12_bits_2 rfl ?_
  refine x_istore_n (lv2 := [(2, .int l0), (1, .int 0), (0, .int l0)]) (pc := 3) dX12_bits_3 (by decide) rfl ?_
  refine x_sub [1, 0] rfl ?_
  exact lp_X12_bits_4 G d h h Q hex hnn hzz hwp ⟨qEx.rf _, rfl, rfl⟩

theorem dX12_looks_0 : decode cX12_looks 0 = .ok (.aload_n 0, 1) := by decide +kernel
theorem dX12_looks_1 : decode cX12_looks 1 = .ok (.iconst 0, 1) := by decide +kernel
theorem dX12_looks_2 : decode cX12_looks 2 = .ok (.putfield 75, 3) := by decide +kernel
theorem dX12_looks_5 : decode cX12_looks 5 = .ok (.aload_n 0, 1) := by decide +kernel
theorem dX12_looks_6 : decode cX12_looks 6 = .ok (.invokevirtual 220, 3) := by decide +kernel
theorem dX12_looks_9 : decode cX12_looks 9 = .ok (.istore_n 1, 1) := by decide +kernel
theorem dX12_looks_10 : decode cX12_looks 10 = .ok (.aload_n 0, 1) := by decide +kernel
theorem dX12_looks_11 : decode cX12_looks 11 = .ok (.getfield 385, 3) := by decide +kernel
theorem dX12_looks_14 : decode cX12_looks 14 = .ok (.ifCond .eq 23, 3) := by decide +kernel
theorem dX12_looks_17 : decode cX12_looks 17 = .ok (.iload_n 1, 1) := by decide +kernel
theorem dX12_looks_18 : decode cX12_looks 18 = .ok (.bipush 6, 2) := by decide +kernel
theorem dX12_looks_20 : decode cX12_looks 20 = .ok (.irem, 1) := by decide +kernel
theorem dX12_looks_21 : decode cX12_looks 21 = .ok (.ifCond .ne 16, 3) := by decide +kernel
theorem dX12_looks_24 : decode cX12_looks 24 = .ok (.iload_n 1, 1) := by decide +kernel
theorem dX12_looks_25 : decode cX12_looks 25 = .ok (.bipush 6, 2) := by decide +kernel
theorem dX12_looks_27 : decode cX12_looks 27 = .ok (.idiv, 1) := by decide +kernel
theorem dX12_looks_28 : decode cX12_looks 28 = .ok (.iconst 1, 1) := by decide +kernel
theorem dX12_looks_29 : decode cX12_looks 29 = .ok (.bipush 10, 2) := by decide +kernel
theorem dX12_looks_31 : decode cX12_looks 31 = .ok (.invokestatic 139, 3) := by decide +kernel
theorem dX12_looks_34 : decode cX12_looks 34 = .ok (.ifCond .ne 6, 3) := by decide +kernel
theorem dX12_looks_37 : decode cX12_looks 37 = .ok (.bipush (-2), 2) := by decide +kernel
theorem dX12_looks_39 : decode cX12_looks 39 = .ok (.ireturn, 1) := by decide +kernel
theorem dX12_looks_40 : decode cX12_looks 40 = .ok (.iload_n 1, 1) := by decide +kernel
theorem dX12_looks_41 : decode cX12_looks 41 = .ok (.bipush 6, 2) := by decide +kernel
theorem dX12_looks_43 : decode cX12_looks 43 = .ok (.idiv, 1) := by decide +kernel
theorem dX12_looks_44 : decode cX12_looks 44 = .ok (.istore_n 2, 1) := by decide +kernel
theorem dX12_looks_45 : decode cX12_looks 45 = .ok (.iconst 0, 1) := by decide +kernel
theorem dX12_looks_46 : decode cX12_looks 46 = .ok (.istore_n 3, 1) := by decide +kernel
theorem dX12_looks_47 : decode cX12_looks 47 = .ok (.iload_n 3, 1) := by decide +kernel
theorem dX12_looks_48 : decode cX12_looks 48 = .ok (.iload_n 2, 1) := by decide +kernel
theorem dX12_looks_49 : decode cX12_looks 49 = .ok (.if_icmp .ge 60, 3) := by decide +kernel
theorem dX12_looks_52 : decode cX12_looks 52 = .ok (.aload_n 0, 1) := by decide +kernel
theorem dX12_looks_53 : decode cX12_looks 53 = .ok (.getfield 63, 3) := by decide +kernel
theorem dX12_looks_56 : decode cX12_looks 56 = .ok (.iload_n 3, 1) := by decide +kernel
theorem dX12_looks_57 : decode cX12_looks 57 = .ok (.lconst 0, 1) := by decide +kernel
theorem dX12_looks_58 : decode cX12_looks 58 = .ok (.lastore, 1) := by decide +kernel
theorem dX12_looks_59 : decode cX12_looks 59 = .ok (.iconst 0, 1) := by decide +kernel
theorem dX12_looks_60 : decode cX12_looks 60 = .ok (.istore 4, 2) := by decide +kernel
theorem dX12_looks_62 : decode cX12_looks 62 = .ok (.iload 4, 2) := by decide +kernel
theorem dX12_looks_64 : decode cX12_looks 64 = .ok (.bipush 6, 2) := by decide +kernel
theorem dX12_looks_66 : decode cX12_looks 66 = .ok (.if_icmp .ge 37, 3) := by decide +kernel
theorem dX12_looks_69 : decode cX12_looks 69 = .ok (.aload_n 0, 1) := by decide +kernel
theorem dX12_looks_70 : decode cX12_looks 70 = .ok (.getfield 63, 3) := by decide +kernel
theorem dX12_looks_73 : decode cX12_looks 73 = .ok (.iload_n 3, 1) := by decide +kernel
theorem dX12_looks_74 : decode cX12_looks 74 = .ok (.dup2, 1) := by decide +kernel
theorem dX12_looks_75 : decode cX12_looks 75 = .ok (.laload, 1) := by decide +kernel
theorem dX12_looks_76 : decode cX12_looks 76 = .ok (.aload_n 0, 1) := by decide +kernel
theorem dX12_looks_77 : decode cX12_looks 77 = .ok (.getfield 7, 3) := by decide +kernel
theorem dX12_looks_80 : decode cX12_looks 80 = .ok (.bipush 6, 2) := by decide +kernel
theorem dX12_looks_82 : decode cX12_looks 82 = .ok (.iload_n 3, 1) := by decide +kernel
theorem dX12_looks_83 : decode cX12_looks 83 = .ok (.imul, 1) := by decide +kernel
theorem dX12_looks_84 : decode cX12_looks 84 = .ok (.iload 4, 2) := by decide +kernel
theorem dX12_looks_86 : decode cX12_looks 86 = .ok (.iadd, 1) := by decide +kernel
theorem dX12_looks_87 : decode cX12_looks 87 = .ok (.iaload, 1) := by decide +kernel
theorem dX12_looks_88 : decode cX12_looks 88 = .ok (.i2l, 1) := by decide +kernel
theorem dX12_looks_89 : decode cX12_looks 89 = .ok (.bipush 8, 2) := by decide +kernel
theorem dX12_looks_91 : decode cX12_looks 91 = .ok (.iload 4, 2) := by decide +kernel
theorem dX12_looks_93 : decode cX12_looks 93 = .ok (.imul, 1) := by decide +kernel
theorem dX12_looks_94 : decode cX12_looks 94 = .ok (.lshl, 1) := by decide +kernel
theorem dX12_looks_95 : decode cX12_looks 95 = .ok (.lor, 1) := by decide +kernel
theorem dX12_looks_96 : decode cX12_looks 96 = .ok (.lastore, 1) := by decide +kernel
theorem dX12_looks_97 : decode cX12_looks 97 = .ok (.iinc 4 1, 3) := by decide +kernel
theorem dX12_looks_100 : decode cX12_looks 100 = .ok (.goto (-38), 3) := by decide +kernel
theorem dX12_looks_103 : decode cX12_looks 103 = .ok (.iinc 3 1, 3) := by decide +kernel
theorem dX12_looks_106 : decode cX12_looks 106 = .ok (.goto (-59), 3) := by decide +kernel
theorem dX12_looks_109 : decode cX12_looks 109 = .ok (.iconst (-1), 1) := by decide +kernel
theorem dX12_looks_110 : decode cX12_looks 110 = .ok (.istore_n 3, 1) := by decide +kernel
theorem dX12_looks_111 : decode cX12_looks 111 = .ok (.iconst 0, 1) := by decide +kernel
theorem dX12_looks_112 : decode cX12_looks 112 = .ok (.istore 4, 2) := by decide +kernel
theorem dX12_looks_114 : decode cX12_looks 114 = .ok (.iload 4, 2) := by decide +kernel
theorem dX12_looks_116 : decode cX12_looks 116 = .ok (.iconst 1, 1) := by decide +kernel
theorem dX12_looks_117 : decode cX12_looks 117 = .ok (.iload_n 2, 1) := by decide +kernel
theorem dX12_looks_118 : decode cX12_looks 118 = .ok (.ishl, 1) := by decide +kernel
theorem dX12_looks_119 : decode cX12_looks 119 = .ok (.if_icmp .ge 89, 3) := by decide +kernel
theorem dX12_looks_122 : decode cX12_looks 122 = .ok (.iload_n 3, 1) := by decide +kernel
theorem dX12_looks_123 : decode cX12_looks 123 = .ok (.iconst (-1), 1) := by decide +kernel
theorem dX12_looks_124 : decode cX12_looks 124 = .ok (.if_icmp .eq 18, 3) := by decide +kernel
theorem dX12_looks_127 : decode cX12_looks 127 = .ok (.iload 4, 2) := by decide +kernel
theorem dX12_looks_129 : decode cX12_looks 129 = .ok (.invokestatic 394, 3) := by decide +kernel
theorem dX12_looks_132 : decode cX12_looks 132 = .ok (.iload_n 3, 1) := by decide +kernel
theorem dX12_looks_133 : decode cX12_looks 133 = .ok (.invokestatic 394, 3) := by decide +kernel
theorem dX12_looks_136 : decode cX12_looks 136 = .ok (.if_icmp .lt 6, 3) := by decide +kernel
theorem dX12_looks_139 : decode cX12_looks 139 = .ok (.goto 63, 3) := by decide +kernel
theorem dX12_looks_142 : decode cX12_looks 142 = .ok (.lconst 0, 1) := by decide +kernel
theorem dX12_looks_143 : decode cX12_looks 143 = .ok (.lstore 5, 2) := by decide +kernel
theorem dX12_looks_145 : decode cX12_looks 145 = .ok (.iconst 0, 1) := by decide +kernel
theorem dX12_looks_146 : decode cX12_looks 146 = .ok (.istore 7, 2) := by decide +kernel
theorem dX12_looks_148 : decode cX12_looks 148 = .ok (.iload 7, 2) := by decide +kernel
theorem dX12_looks_150 : decode cX12_looks 150 = .ok (.iload_n 2, 1) := by decide +kernel
theorem dX12_looks_151 : decode cX12_looks 151 = .ok (.if_icmp .ge 32, 3) := by decide +kernel
theorem dX12_looks_154 : decode cX12_looks 154 = .ok (.iload 4, 2) := by decide +kernel
theorem dX12_looks_156 : decode cX12_looks 156 = .ok (.iload 7, 2) := by decide +kernel
theorem dX12_looks_158 : decode cX12_looks 158 = .ok (.ishr, 1) := by decide +kernel
theorem dX12_looks_159 : decode cX12_looks 159 = .ok (.iconst 1, 1) := by decide +kernel
theorem dX12_looks_160 : decode cX12_looks 160 = .ok (.iand, 1) := by decide +kernel
theorem dX12_looks_161 : decode cX12_looks 161 = .ok (.iconst 1, 1) := by decide +kernel
theorem dX12_looks_162 : decode cX12_looks 162 = .ok (.if_icmp .ne 15, 3) := by decide +kernel
theorem dX12_looks_165 : decode cX12_looks 165 = .ok (.lload 5, 2) := by decide +kernel
theorem dX12_looks_167 : decode cX12_looks 167 = .ok (.aload_n 0, 1) := by decide +kernel
theorem dX12_looks_168 : decode cX12_looks 168 = .ok (.getfield 63, 3) := by decide +kernel
theorem dX12_looks_171 : decode cX12_looks 171 = .ok (.iload 7, 2) := by decide +kernel
theorem dX12_looks_173 : decode cX12_looks 173 = .ok (.laload, 1) := by decide +kernel
theorem dX12_looks_174 : decode cX12_looks 174 = .ok (.lor, 1) := by decide +kernel
theorem dX12_looks_175 : decode cX12_looks 175 = .ok (.lstore 5, 2) := by decide +kernel
theorem dX12_looks_177 : decode cX12_looks 177 = .ok (.iinc 7 1, 3) := by decide +kernel
theorem dX12_looks_180 : decode cX12_looks 180 = .ok (.goto (-32), 3) := by decide +kernel
theorem dX12_looks_183 : decode cX12_looks 183 = .ok (.aload_n 0, 1) := by decide +kernel
theorem dX12_looks_184 : decode cX12_looks 184 = .ok (.getfield 391, 3) := by decide +kernel
theorem dX12_looks_187 : decode cX12_looks 187 = .ok (.lload 5, 2) := by decide +kernel
theorem dX12_looks_189 : decode cX12_looks 189 = .ok (.ldc2_w 397, 3) := by decide +kernel
theorem dX12_looks_192 : decode cX12_looks 192 = .ok (.lxor, 1) := by decide +kernel
theorem dX12_looks_193 : decode cX12_looks 193 = .ok (.land, 1) := by decide +kernel
theorem dX12_looks_194 : decode cX12_looks 194 = .ok (.lconst 0, 1) := by decide +kernel
theorem dX12_looks_195 : decode cX12_looks 195 = .ok (.lcmp, 1) := by decide +kernel
theorem dX12_looks_196 : decode cX12_looks 196 = .ok (.ifCond .ne 6, 3) := by decide +kernel
theorem dX12_looks_199 : decode cX12_looks 199 = .ok (.iload 4, 2) := by decide +kernel
theorem dX12_looks_201 : decode cX12_looks 201 = .ok (.istore_n 3, 1) := by decide +kernel
theorem dX12_looks_202 : decode cX12_looks 202 = .ok (.iinc 4 1, 3) := by decide +kernel
theorem dX12_looks_205 : decode cX12_looks 205 = .ok (.goto (-91), 3) := by decide +kernel
theorem dX12_looks_208 : decode cX12_looks 208 = .ok (.iload_n 3, 1) := by decide +kernel
theorem dX12_looks_209 : decode cX12_looks 209 = .ok (.iconst (-1), 1) := by decide +kernel
theorem dX12_looks_210 : decode cX12_looks 210 = .ok (.if_icmp .ne 5, 3) := by decide +kernel
theorem dX12_looks_213 : decode cX12_looks 213 = .ok (.iconst (-1), 1) := by decide +kernel
theorem dX12_looks_214 : decode cX12_looks 214 = .ok (.ireturn, 1) := by decide +kernel
theorem dX12_looks_215 : decode cX12_looks 215 = .ok (.aload_n 0, 1) := by decide +kernel
theorem dX12_looks_216 : decode cX12_looks 216 = .ok (.iload_n 3, 1) := by decide +kernel
theorem dX12_looks_217 : decode cX12_looks 217 = .ok (.putfield 399, 3) := by decide +kernel
theorem dX12_looks_220 : decode cX12_looks 220 = .ok (.iload_n 3, 1) := by decide +kernel
theorem dX12_looks_221 : decode cX12_looks 221 = .ok (.invokestatic 394, 3) := by decide +kernel
theorem dX12_looks_224 : decode cX12_looks 224 = .ok (.ireturn, 1) := by decide +kernel
def E_X12_looks_47 (G : GT) (d : Nat) (h0 hb : PH) (l0 : Nat) (l2 : Int32) (Q : Int32 → PH → Prop) (s : Int32 × PH) : Prop := qEx hb s.2 ∧ qn s.2 = qn hb ∧ qz s.2 = qz hb → Ex G (qrm (1 + d) 0 0) mX12_looks (qn h0) (qz h0) (ZN G h0 0 0 (qqi Q)) 47 [(0, .ref l0), (2, .int l2), (3, .int s.1)] [] s.2
def E_X12_looks_62 (G : GT) (d : Nat) (h0 hb : PH) (l0 : Nat) (l2 : Int32) (l3 : Int32) (Q : Int32 → PH → Prop) (s : Int32 × PH) : Prop := qEx hb s.2 ∧ qn s.2 = qn hb ∧ qz s.2 = qz hb → Ex G (qrm (1 + d) 0 0) mX12_looks (qn h0) (qz h0) (ZN G h0 0 0 (qqi Q)) 62 [(0, .ref l0), (2, .int l2), (3, .int l3), (4, .int s.1)] [] s.2
def E_X12_looks_114 (G : GT) (d : Nat) (h0 hb : PH) (l0 : Nat) (l2 : Int32) (Q : Int32 → PH → Prop) (s : Int32 × Int32 × PH) : Prop := qEx hb s.2.2 ∧ qn s.2.2 = qn hb ∧ qz s.2.2 = qz hb → Ex G (qrm (1 + d) 0 0) mX12_looks (qn h0) (qz h0) (ZN G h0 0 0 (qqi Q)) 114 [(0, .ref l0), (2, .int l2), (3, .int s.1), (4, .int s.2.1)] [] s.2.2
def E_X12_looks_148 (G : GT) (d : Nat) (h0 hb : PH) (l0 : Nat) (l2 : Int32) (l3 : Int32) (l4 : Int32) (Q : Int32 → PH → Prop) (s : Int64 × Int32 × PH) : Prop := qEx hb s.2.2 ∧ qn s.2.2 = qn hb ∧ qz s.2.2 = qz hb → Ex G (qrm (1 + d) 0 0) mX12_looks (qn h0) (qz h0) (ZN G h0 0 0 (qqi Q)) 148 [(0, .ref l0), (2, .int l2), (3, .int l3), (4, .int l4), (5, .long s.1), (7, .int s.2.1)] [] s.2.2
def wb_X12_looks_62 (l0 : Nat) (l2 : Int32) (l3 : Int32) (bk47 : Int32 × PH → Prop) (Q : Int32 → PH → Prop) (bk62 : Int32 × PH → Prop) (l4 : Int32) (h : PH) : Prop := ((6 ≤ l4 → ∀ v28 : Int32, v28 = l3 + 1 → bk47 (v28, h)) ∧ (¬ (6 ≤ l4) → (∃ b29, qR h l0 55 = some b29 ∧ (vp_in l3 (qL h b29) ∧ (∃ b32, qR h l0 1 = some b32 ∧ (vp_in ((6 * l3) + l4) (qL h b32) ∧ (vp_in l3 (qL h b29) ∧ ∀ h35, h35 = qsJ h b29 l3.toNatClampNeg ((qJ h b29 l3.toNatClampNeg) ||| (((qI h b32 ((6 * l3) + l4).toNatClampNeg).toInt64) <<< ((8 * l4).toInt64 &&& 63))) → ∀ v37 : Int32, v37 = l4 + 1 → bk62 (v37, h35))))))))
def wp_X12_looks_62 (l0 : Nat) (l2 : Int32) (l3 : Int32) (bk47 : Int32 × PH → Prop) (Q : Int32 → PH → Prop) (bk62 : Int32 × PH → Prop) (s : Int32 × PH) : Prop := wb_X12_looks_62 l0 l2 l3 bk47 Q bk62 s.1 s.2
set_option maxHeartbeats 4000000 in
set_option maxRecDepth 100000 in
theorem bd_X12_looks_62 (G : GT) (d : Nat) (h0 hb : PH) (l0 : Nat) (l2 : Int32) (l3 : Int32) (Q : Int32 → PH → Prop) (hb47 : PH) (bk47 : Int32 × PH → Prop) (hbk47 : ∀ s2, bk47 s2 → E_X12_looks_47 G d h0 hb47 l0 l2 Q s2) (hx47 : qEx hb47 hb) (hn47 : qn hb = qn hb47) (hz47 : qz hb = qz hb47) (hex : qEx h0 hb) (hnn : qn hb = qn h0 + 0) (hzz : qz hb = qz h0 + 0) (okl0 : qOK hb 11 l0) (bk62 : Int32 × PH → Prop) (hbk62 : ∀ s2, bk62 s2 → E_X12_looks_62 G d h0 hb l0 l2 l3 Q s2) (l4 : Int32) (h : PH) (hwp : wb_X12_looks_62 l0 l2 l3 bk47 Q bk62 l4 h) (hx62 : qEx hb h) (hn62 : qn h = qn hb) (hz62 : qz h = qz hb) : Ex G (qrm (1 + d) 0 0) mX12_looks (qn h0) (qz h0) (ZN G h0 0 0 (qqi Q)) 62 [(0, .ref l0), (2, .int l2), (3, .int l3), (4, .int l4)] [] h := by
  unfold wb_X12_looks_62 at hwp
  have hex := hex.tr hx62
  have hnn := hn62.trans hnn
  have hzz := hz62.trans hzz
  have hx47 := hx47.tr hx62
  have hn47 := hn62.trans hn47
  have hz47 := hz62.trans hz47
  have okl0 := okl0.ex hx62
  refine x_iload (pc := 62) dX12_looks_62 rfl ?_
  refine x_bipush (v := 6) (pc := 64) dX12_looks_64 (by decide) ?_
  refine x_icmp_ge (tgt := 103) (pc := 66) dX12_looks_66 (by decide) (fun c27 => ?_) (fun c27 => ?_)
  · have hwp := hwp.1 c27
    refine y_iinc (c := 1) (pc := 103) dX12_looks_103 rfl (by decide) (by decide) (fun v28 ev28 => ?_)
    have hwp := hwp v28 ev28
    refine x_lvE (lv2 := [(3, .int v28), (0, .ref l0), (2, .int l2), (4, .int l4)]) rfl ?_
    refine x_goto (tgt := 47) (pc := 106) dX12_looks_106 (by decide) ?_
    refine x_sub [1, 2, 0] rfl ?_
    exact hbk47 _ hwp ⟨hx47, hn47, hz47⟩
  · have hwp := hwp.2 c27
    refine x_aload_n (pc := 69) dX12_looks_69 rfl ?_
    obtain ⟨b29, e30, hwp⟩ := hwp
    refine x_getR (pc := 70) dX12_looks_70 qRX12_63 okl0 e30 (fun okb29 => ?_)
    refine x_iload_n (pc := 73) dX12_looks_73 rfl ?_
    refine x_dup2 (pc := 74) dX12_looks_74 rfl rfl ?_
    obtain ⟨i31, hwp⟩ := hwp
    refine x_laload (pc := 75) dX12_looks_75 okb29 i31 ?_
    refine x_aload_n (pc := 76) dX12_looks_76 rfl ?_
    obtain ⟨b32, e33, hwp⟩ := hwp
    refine x_getR (pc := 77) dX12_looks_77 qRX12_7 okl0 e33 (fun okb32 => ?_)
    refine x_bipush (v := 6) (pc := 80) dX12_looks_80 (by decide) ?_
    refine x_iload_n (pc := 82) dX12_looks_82 rfl ?_
    refine x_imul (pc := 83) dX12_looks_83 ?_
    refine x_iload (pc := 84) dX12_looks_84 rfl ?_
    refine x_iadd (pc := 86) dX12_looks_86 ?_
    obtain ⟨i34, hwp⟩ := hwp
    refine x_iaload (pc := 87) dX12_looks_87 okb32 i34 ?_
    refine x_i2l (pc := 88) dX12_looks_88 ?_
    refine x_bipush (v := 8) (pc := 89) dX12_looks_89 (by decide) ?_
    refine x_iload (pc := 91) dX12_looks_91 rfl ?_
    refine x_imul (pc := 93) dX12_looks_93 ?_
    refine x_lshl (pc := 94) dX12_looks_94 ?_
    refine x_lor (pc := 95) dX12_looks_95 ?_
    obtain ⟨i36, hwp⟩ := hwp
    refine y_lastore (pc := 96) dX12_looks_96 okb29 i36 (fun h35 eh35 nxh35 => ?_)
    have hwp := hwp h35 eh35
    have hex := hex.tr nxh35.1
    have hnn := nxh35.2.1.trans hnn
    have hzz := nxh35.2.2.trans hzz
    have hx47 := hx47.tr nxh35.1
    have hn47 := nxh35.2.1.trans hn47
    have hz47 := nxh35.2.2.trans hz47
    have hx62 := hx62.tr nxh35.1
    have hn62 := nxh35.2.1.trans hn62
    have hz62 := nxh35.2.2.trans hz62
    have okl0 := okl0.ex nxh35.1
    have okb29 := okb29.ex nxh35.1
    have okb32 := okb32.ex nxh35.1
    refine y_iinc (c := 1) (pc := 97) dX12_looks_97 rfl (by decide) (by decide) (fun v37 ev37 => ?_)
    have hwp := hwp v37 ev37
    refine x_lvE (lv2 := [(4, .int v37), (0, .ref l0), (2, .int l2), (3, .int l3)]) rfl ?_
    refine x_goto (tgt := 62) (pc := 100) dX12_looks_100 (by decide) ?_
    refine x_sub [1, 2, 3, 0] rfl ?_
    exact hbk62 _ hwp ⟨hx62, hn62, hz62⟩
theorem lp_X12_looks_62 (G : GT) (d : Nat) (h0 hb : PH) (l0 : Nat) (l2 : Int32) (l3 : Int32) (Q : Int32 → PH → Prop) (hb47 : PH) (bk47 : Int32 × PH → Prop) (hbk47 : ∀ s2, bk47 s2 → E_X12_looks_47 G d h0 hb47 l0 l2 Q s2) (hx47 : qEx hb47 hb) (hn47 : qn hb = qn hb47) (hz47 : qz hb = qz hb47) (hex : qEx h0 hb) (hnn : qn hb = qn h0 + 0) (hzz : qz hb = qz h0 + 0) (okl0 : qOK hb 11 l0) {s : Int32 × PH} (hwp : qLoop (wp_X12_looks_62 l0 l2 l3 bk47 Q) s) : E_X12_looks_62 G d h0 hb l0 l2 l3 Q s :=
  qLoop.use (E := E_X12_looks_62 G d h0 hb l0 l2 l3 Q) (fun back s hbk hw hx => bd_X12_looks_62 G d h0 hb l0 l2 l3 Q hb47 bk47 hbk47 hx47 hn47 hz47 hex hnn hzz okl0 back hbk s.1 s.2 hw hx.1 hx.2.1 hx.2.2) hwp
def wb_X12_looks_148 (l0 : Nat) (l2 : Int32) (l3 : Int32) (l4 : Int32) (bk114 : Int32 × Int32 × PH → Prop) (Q : Int32 → PH → Prop) (bk148 : Int64 × Int32 × PH → Prop) (l5 : Int64) (l7 : Int32) (h : PH) : Prop := ((l2 ≤ l7 → ((¬ (lg_cmp ((qJ h l0 53) &&& (l5 ^^^ (-1))) 0) = 0 → ∀ v40 : Int32, v40 = l4 + 1 → bk114 (l3, v40, h)) ∧ ((lg_cmp ((qJ h l0 53) &&& (l5 ^^^ (-1))) 0) = 0 → ∀ v41 : Int32, v41 = l4 + 1 → bk114 (l4, v41, h)))) ∧ (¬ (l2 ≤ l7) → ((¬ ((l4 >>> (l7 &&& 31)) &&& 1) = 1 → ∀ v43 : Int32, v43 = l7 + 1 → bk148 (l5, v43, h)) ∧ (((l4 >>> (l7 &&& 31)) &&& 1) = 1 → (∃ b44, qR h l0 55 = some b44 ∧ (vp_in l7 (qL h b44) ∧ ∀ v47 : Int64, v47 = l5 ||| (qJ h b44 l7.toNatClampNeg) → ∀ v48 : Int32, v48 = l7 + 1 → bk148 (v47, v48, h)))))))
def wp_X12_looks_148 (l0 : Nat) (l2 : Int32) (l3 : Int32) (l4 : Int32) (bk114 : Int32 × Int32 × PH → Prop) (Q : Int32 → PH → Prop) (bk148 : Int64 × Int32 × PH → Prop) (s : Int64 × Int32 × PH) : Prop := wb_X12_looks_148 l0 l2 l3 l4 bk114 Q bk148 s.1 s.2.1 s.2.2
set_option maxHeartbeats 4000000 in
set_option maxRecDepth 100000 in
theorem bd_X12_looks_148 (G : GT) (d : Nat) (h0 hb : PH) (l0 : Nat) (l2 : Int32) (l3 : Int32) (l4 : Int32) (Q : Int32 → PH → Prop) (hb114 : PH) (bk114 : Int32 × Int32 × PH → Prop) (hbk114 : ∀ s2, bk114 s2 → E_X12_looks_114 G d h0 hb114 l0 l2 Q s2) (hx114 : qEx hb114 hb) (hn114 : qn hb = qn hb114) (hz114 : qz hb = qz hb114) (hex : qEx h0 hb) (hnn : qn hb = qn h0 + 0) (hzz : qz hb = qz h0 + 0) (okl0 : qOK hb 11 l0) (bk148 : Int64 × Int32 × PH → Prop) (hbk148 : ∀ s2, bk148 s2 → E_X12_looks_148 G d h0 hb l0 l2 l3 l4 Q s2) (l5 : Int64) (l7 : Int32) (h : PH) (hwp : wb_X12_looks_148 l0 l2 l3 l4 bk114 Q bk148 l5 l7 h) (hx148 : qEx hb h) (hn148 : qn h = qn hb) (hz148 : qz h = qz hb) : Ex G (qrm (1 + d) 0 0) mX12_looks (qn h0) (qz h0) (ZN G h0 0 0 (qqi Q)) 148 [(0, .ref l0), (2, .int l2), (3, .int l3), (4, .int l4), (5, .long l5), (7, .int l7)] [] h := by
  unfold wb_X12_looks_148 at hwp
  have hex := hex.tr hx148
  have hnn := hn148.trans hnn
  have hzz := hz148.trans hzz
  have hx114 := hx114.tr hx148
  have hn114 := hn148.trans hn114
  have hz114 := hz148.trans hz114
  have okl0 := okl0.ex hx148
  refine x_iload (pc := 148) dX12_looks_148 rfl ?_
  refine x_iload_n (pc := 150) dX12_looks_150 rfl ?_
  refine x_icmp_ge (tgt := 183) (pc := 151) dX12_looks_151 (by decide) (fun c38 => ?_) (fun c38 => ?_)
  · have hwp := hwp.1 c38
    refine x_aload_n (pc := 183) dX12_looks_183 rfl ?_
    refine x_getJ (pc := 184) dX12_looks_184 qRX12_391 okl0 ?_
    refine x_lload (pc := 187) dX12_looks_187 rfl ?_
    refine x_ldc2 (v := (-1)) (pc := 189) dX12_looks_189 kRX12_397 ?_
    refine x_lxor (pc := 192) dX12_looks_192 ?_
    refine x_land (pc := 193) dX12_looks_193 ?_
    refine x_lconst (v := 0) (pc := 194) dX12_looks_194 (by decide) ?_
    refine x_lcmp (pc := 195) dX12_looks_195 ?_
    refine x_if_ne (tgt := 202) (pc := 196) dX12_looks_196 (by decide) (fun c39 => ?_) (fun c39 => ?_)
    · have hwp := hwp.1 c39
      refine y_iinc (c := 1) (pc := 202) dX12_looks_202 rfl (by decide) (by decide) (fun v40 ev40 => ?_)
      have hwp := hwp v40 ev40
      refine x_lvE (lv2 := [(4, .int v40), (0, .ref l0), (2, .int l2), (3, .int l3), (5, .long l5), (7, .int l7)]) rfl ?_
      refine x_goto (tgt := 114) (pc := 205) dX12_looks_205 (by decide) ?_
      refine x_sub [1, 2, 3, 0] rfl ?_
      exact hbk114 _ hwp ⟨hx114, hn114, hz114⟩
    · have hwp := hwp.2 c39
      refine x_iload (pc := 199) dX12_looks_199 rfl ?_
      refine x_istore_n (lv2 := [(3, .int l4), (0, .ref l0), (2, .int l2), (4, .int l4), (5, .long l5), (7, .int l7)]) (pc := 201) dX12_looks_201 (by decide) rfl ?_
      refine y_iinc (c := 1) (pc := 202) dX12_looks_202 rfl (by decide) (by decide) (fun v41 ev41 => ?_)
      have hwp := hwp v41 ev41
      refine x_lvE (lv2 := [(4, .int v41), (3, .int l4), (0, .ref l0), (2, .int l2), (5, .long l5), (7, .int l7)]) rfl ?_
      refine x_goto (tgt := 114) (pc := 205) dX12_looks_205 (by decide) ?_
      refine x_sub [2, 3, 1, 0] rfl ?_
      exact hbk114 _ hwp ⟨hx114, hn114, hz114⟩
  · have hwp := hwp.2 c38
    refine x_iload (pc := 154) dX12_looks_154 rfl ?_
    refine x_iload (pc := 156) dX12_looks_156 rfl ?_
    refine x_ishr (pc := 158) dX12_looks_158 ?_
    refine x_iconst (v := 1) (pc := 159) dX12_looks_159 (by decide) ?_
    refine x_iand (pc := 160) dX12_looks_160 ?_
    refine x_iconst (v := 1) (pc := 161) dX12_looks_161 (by decide) ?_
    refine x_icmp_ne (tgt := 177) (pc := 162) dX12_looks_162 (by decide) (fun c42 => ?_) (fun c42 => ?_)
    · have hwp := hwp.1 c42
      refine y_iinc (c := 1) (pc := 177) dX12_looks_177 rfl (by decide) (by decide) (fun v43 ev43 => ?_)
      have hwp := hwp v43 ev43
      refine x_lvE (lv2 := [(7, .int v43), (0, .ref l0), (2, .int l2), (3, .int l3), (4, .int l4), (5, .long l5)]) rfl ?_
      refine x_goto (tgt := 148) (pc := 180) dX12_looks_180 (by decide) ?_
      refine x_sub [1, 2, 3, 4, 5, 0] rfl ?_
      exact hbk148 _ hwp ⟨hx148, hn148, hz148⟩
    · have hwp := hwp.2 c42
      refine x_lload (pc := 165) dX12_looks_165 rfl ?_
      refine x_aload_n (pc := 167) dX12_looks_167 rfl ?_
      obtain ⟨b44, e45, hwp⟩ := hwp
      refine x_getR (pc := 168) dX12_looks_168 qRX12_63 okl0 e45 (fun okb44 => ?_)
      refine x_iload (pc := 171) dX12_looks_171 rfl ?_
      obtain ⟨i46, hwp⟩ := hwp
      refine x_laload (pc := 173) dX12_looks_173 okb44 i46 ?_
      refine x_lor (pc := 174) dX12_looks_174 ?_
      refine x_nmJ (fun v47 ev47 => ?_)
      have hwp := hwp v47 ev47
      refine x_lstore (lv2 := [(5, .long v47), (0, .ref l0), (2, .int l2), (3, .int l3), (4, .int l4), (7, .int l7)]) (pc := 175) dX12_looks_175 (by decide) rfl ?_
      refine y_iinc (c := 1) (pc := 177) dX12_looks_177 rfl (by decide) (by decide) (fun v48 ev48 => ?_)
      have hwp := hwp v48 ev48
      refine x_lvE (lv2 := [(7, .int v48), (5, .long v47), (0, .ref l0), (2, .int l2), (3, .int l3), (4, .int l4)]) rfl ?_
      refine x_goto (tgt := 148) (pc := 180) dX12_looks_180 (by decide) ?_
      refine x_sub [2, 3, 4, 5, 1, 0] rfl ?_
      exact hbk148 _ hwp ⟨hx148, hn148, hz148⟩
theorem lp_X12_looks_148 (G : GT) (d : Nat) (h0 hb : PH) (l0 : Nat) (l2 : Int32) (l3 : Int32) (l4 : Int32) (Q : Int32 → PH → Prop) (hb114 : PH) (bk114 : Int32 × Int32 × PH → Prop) (hbk114 : ∀ s2, bk114 s2 → E_X12_looks_114 G d h0 hb114 l0 l2 Q s2) (hx114 : qEx hb114 hb) (hn114 : qn hb = qn hb114) (hz114 : qz hb = qz hb114) (hex : qEx h0 hb) (hnn : qn hb = qn h0 + 0) (hzz : qz hb = qz h0 + 0) (okl0 : qOK hb 11 l0) {s : Int64 × Int32 × PH} (hwp : qLoop (wp_X12_looks_148 l0 l2 l3 l4 bk114 Q) s) : E_X12_looks_148 G d h0 hb l0 l2 l3 l4 Q s :=
  qLoop.use (E := E_X12_looks_148 G d h0 hb l0 l2 l3 l4 Q) (fun back s hbk hw hx => bd_X12_looks_148 G d h0 hb l0 l2 l3 l4 Q hb114 bk114 hbk114 hx114 hn114 hz114 hex hnn hzz okl0 back hbk s.1 s.2.1 s.2.2 hw hx.1 hx.2.1 hx.2.2) hwp
def wb_X12_looks_114 (l0 : Nat) (l2 : Int32)  (Q : Int32 → PH → Prop) (bk114 : Int32 × Int32 × PH → Prop) (l3 : Int32) (l4 : Int32) (h : PH) : Prop := (((1 <<< (l2 &&& 31)) ≤ l4 → ((¬ l3 = (-1) → (∀ h17, h17 = qsI h l0 56 l3 → (wp_X12_bits l3 h17 (fun r19 h18 => Q r19 h18)))) ∧ (l3 = (-1) → Q (-1) h))) ∧ (¬ ((1 <<< (l2 &&& 31)) ≤ l4) → ((l3 = (-1) → (qLoop (wp_X12_looks_148 l0 l2 l3 l4 bk114 Q) (0, 0, h))) ∧ (¬ (l3 = (-1)) → (wp_X12_bits l4 h (fun r22 h21 => (wp_X12_bits l3 h21 (fun r24 h23 => ((r22 < r24 → (qLoop (wp_X12_looks_148 l0 l2 l3 l4 bk114 Q) (0, 0, h23))) ∧ (¬ (r22 < r24) → ∀ v26 : Int32, v26 = l4 + 1 → bk114 (l3, v26, h23)))))))))))
def wp_X12_looks_114 (l0 : Nat) (l2 : Int32)  (Q : Int32 → PH → Prop) (bk114 : Int32 × Int32 × PH → Prop) (s : Int32 × Int32 × PH) : Prop := wb_X12_looks_114 l0 l2 Q bk114 s.1 s.2.1 s.2.2
set_option maxHeartbeats 4000000 in
set_option maxRecDepth 100000 in
theorem bd_X12_looks_114 (G : GT) (d : Nat) (h0 hb : PH) (l0 : Nat) (l2 : Int32) (Q : Int32 → PH → Prop)  (hex : qEx h0 hb) (hnn : qn hb = qn h0 + 0) (hzz : qz hb = qz h0 + 0) (okl0 : qOK hb 11 l0) (bk114 : Int32 × Int32 × PH → Prop) (hbk114 : ∀ s2, bk114 s2 → E_X12_looks_114 G d h0 hb l0 l2 Q s2) (l3 : Int32) (l4 : Int32) (h : PH) (hwp : wb_X12_looks_114 l0 l2 Q bk114 l3 l4 h) (hx114 : qEx hb h) (hn114 : qn h = qn hb) (hz114 : qz h = qz hb) : Ex G (qrm (1 + d) 0 0) mX12_looks (qn h0) (qz h0) (ZN G h0 0 0 (qqi Q)) 114 [(0, .ref l0), (2, .int l2), (3, .int l3), (4, .int l4)] [] h := by
  unfold wb_X12_looks_114 at hwp
  have hex := hex.tr hx114
  have hnn := hn114.trans hnn
  have hzz := hz114.trans hzz
  have okl0 := okl0.ex hx114
  refine x_iload (pc := 114) dX12_looks_114 rfl ?_
  refine x_iconst (v := 1) (pc := 116) dX12_looks_116 (by decide) ?_
  refine x_iload_n (pc := 117) dX12_looks_117 rfl ?_
  refine x_ishl (pc := 118) dX12_looks_118 ?_
  refine x_icmp_ge (tgt := 208) (pc := 119) dX12_looks_119 (by decide) (fun c15 => ?_) (fun c15 => ?_)
  · have hwp := hwp.1 c15
    refine x_iload_n (pc := 208) dX12_looks_208 rfl ?_
    refine x_iconst (v := (-1)) (pc := 209) dX12_looks_209 (by decide) ?_
    refine x_icmp_ne (tgt := 215) (pc := 210) dX12_looks_210 (by decide) (fun c16 => ?_) (fun c16 => ?_)
    · have hwp := hwp.1 c16
      refine x_aload_n (pc := 215) dX12_looks_215 rfl ?_
      refine x_iload_n (pc := 216) dX12_looks_216 rfl ?_
      refine y_putI (pc := 217) dX12_looks_217 qRX12_399 okl0 (fun h17 eh17 nxh17 => ?_)
      have hwp := hwp h17 eh17
      have hex := hex.tr nxh17.1
      have hnn := nxh17.2.1.trans hnn
      have hzz := nxh17.2.2.trans hzz
      have hx114 := hx114.tr nxh17.1
      have hn114 := nxh17.2.1.trans hn114
      have hz114 := nxh17.2.2.trans hz114
      have okl0 := okl0.ex nxh17.1
      refine x_iload_n (pc := 220) dX12_looks_220 rfl ?_
      refine x_invS (As := [.int l3]) (st := []) (pc := 221) dX12_looks_221 lRX12_394 fX12_bits sX12_bits rfl (Nat.le_of_ble_eq_true rfl) (q_R (by omega) (by decide)) (q_C hnn hzz (by decide) (by decide)) (sn_X12_bits G (d + 0) l3 h17 _  hwp) (k_i (fun r19 h18 hwp cxh18 => ?_))
      have hex := hex.tr cxh18.1
      have hnn : qn h18 = qn h0 + 0 := by have := cxh18.2.1; omega
      have hzz : qz h18 = qz h0 + 0 := by have := cxh18.2.2; omega
      have hx114 := hx114.tr cxh18.1
      have hn114 : qn h18 = qn hb := by have := cxh18.2.1; omega
      have hz114 : qz h18 = qz hb := by have := cxh18.2.2; omega
      have okl0 := okl0.ex cxh18.1
      exact x_iret (pc := 224) dX12_looks_224 rfl hex hnn hzz ⟨_, rfl, hwp⟩
    · have hwp := hwp.2 c16
      refine x_iconst (v := (-1)) (pc := 213) dX12_looks_213 (by decide) ?_
      exact x_iret (pc := 214) dX12_looks_214 rfl hex hnn hzz ⟨_, rfl, hwp⟩
  · have hwp := hwp.2 c15
    refine x_iload_n (pc := 122) dX12_looks_122 rfl ?_
    refine x_iconst (v := (-1)) (pc := 123) dX12_looks_123 (by decide) ?_
    refine x_icmp_eq (tgt := 142) (pc := 124) dX12_looks_124 (by decide) (fun c20 => ?_) (fun c20 => ?_)
    · have hwp := hwp.1 c20
      refine x_lconst (v := 0) (pc := 142) dX12_looks_142 (by decide) ?_
      refine x_lstore (lv2 := [(5, .long 0), (0, .ref l0), (2, .int l2), (3, .int l3), (4, .int l4)]) (pc := 143) dX12_looks_143 (by decide) rfl ?_
      refine x_iconst (v := 0) (pc := 145) dX12_looks_145 (by decide) ?_
      refine x_istore (lv2 := [(7, .int 0), (5, .long 0), (0, .ref l0), (2, .int l2), (3, .int l3), (4, .int l4)]) (pc := 146) dX12_looks_146 (by decide) rfl ?_
      refine x_sub [2, 3, 4, 5, 1, 0] rfl ?_
      exact lp_X12_looks_148 G d h0 h l0 l2 l3 l4 Q hb bk114 hbk114 hx114 hn114 hz114 hex hnn hzz okl0 hwp ⟨qEx.rf _, rfl, rfl⟩
    · have hwp := hwp.2 c20
      refine x_iload (pc := 127) dX12_looks_127 rfl ?_
      refine x_invS (As := [.int l4]) (st := []) (pc := 129) dX12_looks_129 lRX12_394 fX12_bits sX12_bits rfl (Nat.le_of_ble_eq_true rfl) (q_R (by omega) (by decide)) (q_C hnn hzz (by decide) (by decide)) (sn_X12_bits G (d + 0) l4 h _  hwp) (k_i (fun r22 h21 hwp cxh21 => ?_))
      have hex := hex.tr cxh21.1
      have hnn : qn h21 = qn h0 + 0 := by have := cxh21.2.1; omega
      have hzz : qz h21 = qz h0 + 0 := by have := cxh21.2.2; omega
      have hx114 := hx114.tr cxh21.1
      have hn114 : qn h21 = qn hb := by have := cxh21.2.1; omega
      have hz114 : qz h21 = qz hb := by have := cxh21.2.2; omega
      have okl0 := okl0.ex cxh21.1
      refine x_iload_n (pc := 132) dX12_looks_132 rfl ?_
      refine x_invS (As := [.int l3]) (st := [.int r22]) (pc := 133) dX12_looks_133 lRX12_394 fX12_bits sX12_bits rfl (Nat.le_of_ble_eq_true rfl) (q_R (by omega) (by decide)) (q_C hnn hzz (by decide) (by decide)) (sn_X12_bits G (d + 0) l3 h21 _  hwp) (k_i (fun r24 h23 hwp cxh23 => ?_))
      have hex := hex.tr cxh23.1
      have hnn : qn h23 = qn h0 + 0 := by have := cxh23.2.1; omega
      have hzz : qz h23 = qz h0 + 0 := by have := cxh23.2.2; omega
      have hx114 := hx114.tr cxh23.1
      have hn114 : qn h23 = qn hb := by have := cxh23.2.1; omega
      have hz114 : qz h23 = qz hb := by have := cxh23.2.2; omega
      have okl0 := okl0.ex cxh23.1
      refine x_icmp_lt (tgt := 142) (pc := 136) dX12_looks_136 (by decide) (fun c25 => ?_) (fun c25 => ?_)
      · have hwp := hwp.1 c25
        refine x_lconst (v := 0) (pc := 142) dX12_looks_142 (by decide) ?_
        refine x_lstore (lv2 := [(5, .long 0), (0, .ref l0), (2, .int l2), (3, .int l3), (4, .int l4)]) (pc := 143) dX12_looks_143 (by decide) rfl ?_
        refine x_iconst (v := 0) (pc := 145) dX12_looks_145 (by decide) ?_
        refine x_istore (lv2 := [(7, .int 0), (5, .long 0), (0, .ref l0), (2, .int l2), (3, .int l3), (4, .int l4)]) (pc := 146) dX12_looks_146 (by decide) rfl ?_
        refine x_sub [2, 3, 4, 5, 1, 0] rfl ?_
        exact lp_X12_looks_148 G d h0 h23 l0 l2 l3 l4 Q hb bk114 hbk114 hx114 hn114 hz114 hex hnn hzz okl0 hwp ⟨qEx.rf _, rfl, rfl⟩
      · have hwp := hwp.2 c25
        refine x_goto (tgt := 202) (pc := 139) dX12_looks_139 (by decide) ?_
        refine y_iinc (c := 1) (pc := 202) dX12_looks_202 rfl (by decide) (by decide) (fun v26 ev26 => ?_)
        have hwp := hwp v26 ev26
        refine x_lvE (lv2 := [(4, .int v26), (0, .ref l0), (2, .int l2), (3, .int l3)]) rfl ?_
        refine x_goto (tgt := 114) (pc := 205) dX12_looks_205 (by decide) ?_
        refine x_sub [1, 2, 3, 0] rfl ?_
        exact hbk114 _ hwp ⟨hx114, hn114, hz114⟩
theorem lp_X12_looks_114 (G : GT) (d : Nat) (h0 hb : PH) (l0 : Nat) (l2 : Int32) (Q : Int32 → PH → Prop)  (hex : qEx h0 hb) (hnn : qn hb = qn h0 + 0) (hzz : qz hb = qz h0 + 0) (okl0 : qOK hb 11 l0) {s : Int32 × Int32 × PH} (hwp : qLoop (wp_X12_looks_114 l0 l2 Q) s) : E_X12_looks_114 G d h0 hb l0 l2 Q s :=
  qLoop.use (E := E_X12_looks_114 G d h0 hb l0 l2 Q) (fun back s hbk hw hx => bd_X12_looks_114 G d h0 hb l0 l2 Q hex hnn hzz okl0 back hbk s.1 s.2.1 s.2.2 hw hx.1 hx.2.1 hx.2.2) hwp
def wb_X12_looks_47 (l0 : Nat) (l2 : Int32)  (Q : Int32 → PH → Prop) (bk47 : Int32 × PH → Prop) (l3 : Int32) (h : PH) : Prop := ((l2 ≤ l3 → (qLoop (wp_X12_looks_114 l0 l2 Q) ((-1), 0, h))) ∧ (¬ (l2 ≤ l3) → (∃ b11, qR h l0 55 = some b11 ∧ (vp_in l3 (qL h b11) ∧ ∀ h13, h13 = qsJ h b11 l3.toNatClampNeg 0 → (qLoop (wp_X12_looks_62 l0 l2 l3 bk47 Q) (0, h13))))))
def wp_X12_looks_47 (l0 : Nat) (l2 : Int32)  (Q : Int32 → PH → Prop) (bk47 : Int32 × PH → Prop) (s : Int32 × PH) : Prop := wb_X12_looks_47 l0 l2 Q bk47 s.1 s.2
set_option maxHeartbeats 4000000 in
set_option maxRecDepth 100000 in
theorem bd_X12_looks_47 (G : GT) (d : Nat) (h0 hb : PH) (l0 : Nat) (l2 : Int32) (Q : Int32 → PH → Prop)  (hex : qEx h0 hb) (hnn : qn hb = qn h0 + 0) (hzz : qz hb = qz h0 + 0) (okl0 : qOK hb 11 l0) (bk47 : Int32 × PH → Prop) (hbk47 : ∀ s2, bk47 s2 → E_X12_looks_47 G d h0 hb l0 l2 Q s2) (l3 : Int32) (h : PH) (hwp : wb_X12_looks_47 l0 l2 Q bk47 l3 h) (hx47 : qEx hb h) (hn47 : qn h = qn hb) (hz47 : qz h = qz hb) : Ex G (qrm (1 + d) 0 0) mX12_looks (qn h0) (qz h0) (ZN G h0 0 0 (qqi Q)) 47 [(0, .ref l0), (2, .int l2), (3, .int l3)] [] h := by
  unfold wb_X12_looks_47 at hwp
  have hex := hex.tr hx47
  have hnn := hn47.trans hnn
  have hzz := hz47.trans hzz
  have okl0 := okl0.ex hx47
  refine x_iload_n (pc := 47) dX12_looks_47 rfl ?_
  refine x_iload_n (pc := 48) dX12_looks_48 rfl ?_
  refine x_icmp_ge (tgt := 109) (pc := 49) dX12_looks_49 (by decide) (fun c10 => ?_) (fun c10 => ?_)
  · have hwp := hwp.1 c10
    refine x_iconst (v := (-1)) (pc := 109) dX12_looks_109 (by decide) ?_
    refine x_istore_n (lv2 := [(3, .int (-1)), (0, .ref l0), (2, .int l2)]) (pc := 110) dX12_looks_110 (by decide) rfl ?_
    refine x_iconst (v := 0) (pc := 111) dX12_looks_111 (by decide) ?_
    refine x_istore (lv2 := [(4, .int 0), (3, .int (-1)), (0, .ref l0), (2, .int l2)]) (pc := 112) dX12_looks_112 (by decide) rfl ?_
    refine x_sub [2, 3, 1, 0] rfl ?_
    exact lp_X12_looks_114 G d h0 h l0 l2 Q hex hnn hzz okl0 hwp ⟨qEx.rf _, rfl, rfl⟩
  · have hwp := hwp.2 c10
    refine x_aload_n (pc := 52) dX12_looks_52 rfl ?_
    obtain ⟨b11, e12, hwp⟩ := hwp
    refine x_getR (pc := 53) dX12_looks_53 qRX12_63 okl0 e12 (fun okb11 => ?_)
    refine x_iload_n (pc := 56) dX12_looks_56 rfl ?_
    refine x_lconst (v := 0) (pc := 57) dX12_looks_57 (by decide) ?_
    obtain ⟨i14, hwp⟩ := hwp
    refine y_lastore (pc := 58) dX12_looks_58 okb11 i14 (fun h13 eh13 nxh13 => ?_)
    have hwp := hwp h13 eh13
    have hex := hex.tr nxh13.1
    have hnn := nxh13.2.1.trans hnn
    have hzz := nxh13.2.2.trans hzz
    have hx47 := hx47.tr nxh13.1
    have hn47 := nxh13.2.1.trans hn47
    have hz47 := nxh13.2.2.trans hz47
    have okl0 := okl0.ex nxh13.1
    have okb11 := okb11.ex nxh13.1
    refine x_iconst (v := 0) (pc := 59) dX12_looks_59 (by decide) ?_
    refine x_istore (lv2 := [(4, .int 0), (0, .ref l0), (2, .int l2), (3, .int l3)]) (pc := 60) dX12_looks_60 (by decide) rfl ?_
    refine x_sub [1, 2, 3, 0] rfl ?_
    exact lp_X12_looks_62 G d h0 h13 l0 l2 l3 Q hb bk47 hbk47 hx47 hn47 hz47 hex hnn hzz okl0 hwp ⟨qEx.rf _, rfl, rfl⟩
theorem lp_X12_looks_47 (G : GT) (d : Nat) (h0 hb : PH) (l0 : Nat) (l2 : Int32) (Q : Int32 → PH → Prop)  (hex : qEx h0 hb) (hnn : qn hb = qn h0 + 0) (hzz : qz hb = qz h0 + 0) (okl0 : qOK hb 11 l0) {s : Int32 × PH} (hwp : qLoop (wp_X12_looks_47 l0 l2 Q) s) : E_X12_looks_47 G d h0 hb l0 l2 Q s :=
  qLoop.use (E := E_X12_looks_47 G d h0 hb l0 l2 Q) (fun back s hbk hw hx => bd_X12_looks_47 G d h0 hb l0 l2 Q hex hnn hzz okl0 back hbk s.1 s.2 hw hx.1 hx.2.1 hx.2.2) hwp
def wp_X12_looks (l0 : Nat) (h : PH) (Q : Int32 → PH → Prop) : Prop := (∀ h1, h1 = qsI h l0 0 0 → (wp_X12_take l0 h1 (fun r3 h2 => (((qI h2 l0 54) = 0 → Q (-2) h2) ∧ (¬ ((qI h2 l0 54) = 0) → ((¬ (r3 - r3 / 6 * 6) = 0 → Q (-2) h2) ∧ ((r3 - r3 / 6 * 6) = 0 → (wp_X12_isIn (r3 / 6) 1 10 h2 (fun r7 h6 => ((¬ r7 = 0 → ∀ v9 : Int32, v9 = r3 / 6 → (qLoop (wp_X12_looks_47 l0 v9 Q) (0, h6))) ∧ (r7 = 0 → Q (-2) h6)))))))))))
set_option maxHeartbeats 4000000 in
set_option maxRecDepth 100000 in
theorem sn_X12_looks (G : GT) (d : Nat) (l0 : Nat) (h : PH) (Q : Int32 → PH → Prop) (okl0 : qOK h 11 l0) (hwp : wp_X12_looks l0 h Q) : Mt G (1 + d) 0 0 mX12_looks [.ref l0] h (qqi Q) := by
  unfold wp_X12_looks at hwp
  refine Mt.of (by decide) rfl (Nat.le_of_ble_eq_true rfl) ?_
  have hex := qEx.rf h
  have hnn : qn h = qn h + 0 := rfl
  have hzz : qz h = qz h + 0 := rfl
  refine x_lvE (lv2 := [(0, .ref l0)]) rfl ?_
  refine x_aload_n (pc := 0) dX12_looks_0 rfl ?_
  refine x_iconst (v := 0) (pc := 1) dX12_looks_1 (by decide) ?_
  refine y_putI (pc := 2) dX12_looks_2 qRX12_75 okl0 (fun h1 eh1 nxh1 => ?_)
  have hwp := hwp h1 eh1
  have hex := hex.tr nxh1.1
  have hnn := nxh1.2.1.trans hnn
  have hzz := nxh1.2.2.trans hzz
  have okl0 := okl0.ex nxh1.1
  refine x_aload_n (pc := 5) dX12_looks_5 rfl ?_
  refine x_invV (As := []) (st := []) (pc := 6) dX12_looks_6 lRX12_220 fX12_take vX12_take okl0 rfl (Nat.le_of_ble_eq_true rfl) (q_R (by omega) (by decide)) (q_C hnn hzz (by decide) (by decide)) (sn_X12_take G (d + 0) l0 h1 _ okl0 hwp) (k_i (fun r3 h2 hwp cxh2 => ?_))
  have hex := hex.tr cxh2.1
  have hnn : qn h2 = qn h + 0 := by have := cxh2.2.1; omega
  have hzz : qz h2 = qz h + 0 := by have := cxh2.2.2; omega
  have okl0 := okl0.ex cxh2.1
  refine x_istore_n (lv2 := [(1, .int r3), (0, .ref l0)]) (pc := 9) dX12_looks_9 (by decide) rfl ?_
  refine x_aload_n (pc := 10) dX12_looks_10 rfl ?_
  refine x_getI (pc := 11) dX12_looks_11 qRX12_385 okl0 (by decide) ?_
  refine x_if_eq (tgt := 37) (pc := 14) dX12_looks_14 (by decide) (fun c4 => ?_) (fun c4 => ?_)
  · have hwp := hwp.1 c4
    refine x_bipush (v := (-2)) (pc := 37) dX12_looks_37 (by decide) ?_
    exact x_iret (pc := 39) dX12_looks_39 rfl hex hnn hzz ⟨_, rfl, hwp⟩
  · have hwp := hwp.2 c4
    refine x_iload_n (pc := 17) dX12_looks_17 rfl ?_
    refine x_bipush (v := 6) (pc := 18) dX12_looks_18 (by decide) ?_
    refine x_irem (pc := 20) dX12_looks_20 (by decide) ?_
    refine x_if_ne (tgt := 37) (pc := 21) dX12_looks_21 (by decide) (fun c5 => ?_) (fun c5 => ?_)
    · have hwp := hwp.1 c5
      refine x_bipush (v := (-2)) (pc := 37) dX12_looks_37 (by decide) ?_
      exact x_iret (pc := 39) dX12_looks_39 rfl hex hnn hzz ⟨_, rfl, hwp⟩
    · have hwp := hwp.2 c5
      refine x_iload_n (pc := 24) dX12_looks_24 rfl ?_
      refine x_bipush (v := 6) (pc := 25) dX12_looks_25 (by decide) ?_
      refine x_idiv (pc := 27) dX12_looks_27 (by decide) ?_
      refine x_iconst (v := 1) (pc := 28) dX12_looks_28 (by decide) ?_
      refine x_bipush (v := 10) (pc := 29) dX12_looks_29 (by decide) ?_
      refine x_invS (As := [.int (r3 / 6), .int 1, .int 10]) (st := []) (pc := 31) dX12_looks_31 lRX12_139 fX12_isIn sX12_isIn rfl (Nat.le_of_ble_eq_true rfl) (q_R (by omega) (by decide)) (q_C hnn hzz (by decide) (by decide)) (sn_X12_isIn G (d + 0) (r3 / 6) 1 10 h2 _  hwp) (k_b (fun r7 h6 hwp zbr7 cxh6 => ?_))
      have hex := hex.tr cxh6.1
      have hnn : qn h6 = qn h + 0 := by have := cxh6.2.1; omega
      have hzz : qz h6 = qz h + 0 := by have := cxh6.2.2; omega
      have okl0 := okl0.ex cxh6.1
      refine x_if_ne (tgt := 40) (pc := 34) dX12_looks_34 (by decide) (fun c8 => ?_) (fun c8 => ?_)
      · have hwp := hwp.1 c8
        refine x_iload_n (pc := 40) dX12_looks_40 rfl ?_
        refine x_bipush (v := 6) (pc := 41) dX12_looks_41 (by decide) ?_
        refine x_idiv (pc := 43) dX12_looks_43 (by decide) ?_
        refine x_nmI (fun v9 ev9 => ?_)
        have hwp := hwp v9 ev9
        refine x_istore_n (lv2 := [(2, .int v9), (1, .int r3), (0, .ref l0)]) (pc := 44) dX12_looks_44 (by decide) rfl ?_
        refine x_iconst (v := 0) (pc := 45) dX12_looks_45 (by decide) ?_
        refine x_istore_n (lv2 := [(3, .int 0), (2, .int v9), (1, .int r3), (0, .ref l0)]) (pc := 46) dX12_looks_46 (by decide) rfl ?_
        refine x_sub [3, 1, 0] rfl ?_
        exact lp_X12_looks_47 G d h h6 l0 v9 Q hex hnn hzz okl0 hwp ⟨qEx.rf _, rfl, rfl⟩
      · have hwp := hwp.2 c8
        refine x_bipush (v := (-2)) (pc := 37) dX12_looks_37 (by decide) ?_
        exact x_iret (pc := 39) dX12_looks_39 rfl hex hnn hzz ⟨_, rfl, hwp⟩

theorem dX12_lookSet_0 : decode cX12_lookSet 0 = .ok (.aload_n 0, 1) := by decide +kernel
theorem dX12_lookSet_1 : decode cX12_lookSet 1 = .ok (.iconst 0, 1) := by decide +kernel
theorem dX12_lookSet_2 : decode cX12_lookSet 2 = .ok (.putfield 75, 3) := by decide +kernel
theorem dX12_lookSet_5 : decode cX12_lookSet 5 = .ok (.aload_n 0, 1) := by decide +kernel
theorem dX12_lookSet_6 : decode cX12_lookSet 6 = .ok (.getfield 399, 3) := by decide +kernel
theorem dX12_lookSet_9 : decode cX12_lookSet 9 = .ok (.ireturn, 1) := by decide +kernel
def wp_X12_lookSet (l0 : Nat) (h : PH) (Q : Int32 → PH → Prop) : Prop := (∀ h1, h1 = qsI h l0 0 0 → Q (qI h1 l0 56) h1)
set_option maxHeartbeats 4000000 in
set_option maxRecDepth 100000 in
theorem sn_X12_lookSet (G : GT) (d : Nat) (l0 : Nat) (h : PH) (Q : Int32 → PH → Prop) (okl0 : qOK h 11 l0) (hwp : wp_X12_lookSet l0 h Q) : Mt G (0 + d) 0 0 mX12_lookSet [.ref l0] h (qqi Q) := by
  unfold wp_X12_lookSet at hwp
  refine Mt.of (by decide) rfl (Nat.le_of_ble_eq_true rfl) ?_
  have hex := qEx.rf h
  have hnn : qn h = qn h + 0 := rfl
  have hzz : qz h = qz h + 0 := rfl
  refine x_lvE (lv2 := [(0, .ref l0)]) rfl ?_
  refine x_aload_n (pc := 0) dX12_lookSet_0 rfl ?_
  refine x_iconst (v := 0) (pc := 1) dX12_lookSet_1 (by decide) ?_
  refine y_putI (pc := 2) dX12_lookSet_2 qRX12_75 okl0 (fun h1 eh1 nxh1 => ?_)
  have hwp := hwp h1 eh1
  have hex := hex.tr nxh1.1
  have hnn := nxh1.2.1.trans hnn
  have hzz := nxh1.2.2.trans hzz
  have okl0 := okl0.ex nxh1.1
  refine x_aload_n (pc := 5) dX12_lookSet_5 rfl ?_
  refine x_getI (pc := 6) dX12_lookSet_6 qRX12_399 okl0 (by decide) ?_
  exact x_iret (pc := 9) dX12_lookSet_9 rfl hex hnn hzz ⟨_, rfl, hwp⟩

theorem dX12_keep_0 : decode cX12_keep 0 = .ok (.aload_n 0, 1) := by decide +kernel
theorem dX12_keep_1 : decode cX12_keep 1 = .ok (.iconst 0, 1) := by decide +kernel
theorem dX12_keep_2 : decode cX12_keep 2 = .ok (.putfield 75, 3) := by decide +kernel
theorem dX12_keep_5 : decode cX12_keep 5 = .ok (.aload_n 0, 1) := by decide +kernel
theorem dX12_keep_6 : decode cX12_keep 6 = .ok (.invokevirtual 217, 3) := by decide +kernel
theorem dX12_keep_9 : decode cX12_keep 9 = .ok (.iload_n 1, 1) := by decide +kernel
theorem dX12_keep_10 : decode cX12_keep 10 = .ok (.iconst 0, 1) := by decide +kernel
theorem dX12_keep_11 : decode cX12_keep 11 = .ok (.iconst 5, 1) := by decide +kernel
theorem dX12_keep_12 : decode cX12_keep 12 = .ok (.invokestatic 139, 3) := by decide +kernel
theorem dX12_keep_15 : decode cX12_keep 15 = .ok (.ifCond .ne 5, 3) := by decide +kernel
theorem dX12_keep_18 : decode cX12_keep 18 = .ok (.iconst 0, 1) := by decide +kernel
theorem dX12_keep_19 : decode cX12_keep 19 = .ok (.ireturn, 1) := by decide +kernel
theorem dX12_keep_20 : decode cX12_keep 20 = .ok (.aload_n 0, 1) := by decide +kernel
theorem dX12_keep_21 : decode cX12_keep 21 = .ok (.iconst 0, 1) := by decide +kernel
theorem dX12_keep_22 : decode cX12_keep 22 = .ok (.iconst 2, 1) := by decide +kernel
theorem dX12_keep_23 : decode cX12_keep 23 = .ok (.iload_n 1, 1) := by decide +kernel
theorem dX12_keep_24 : decode cX12_keep 24 = .ok (.iadd, 1) := by decide +kernel
theorem dX12_keep_25 : decode cX12_keep 25 = .ok (.invokevirtual 229, 3) := by decide +kernel
theorem dX12_keep_28 : decode cX12_keep 28 = .ok (.aload_n 0, 1) := by decide +kernel
theorem dX12_keep_29 : decode cX12_keep 29 = .ok (.getfield 29, 3) := by decide +kernel
theorem dX12_keep_32 : decode cX12_keep 32 = .ok (.iload_n 1, 1) := by decide +kernel
theorem dX12_keep_33 : decode cX12_keep 33 = .ok (.iconst 1, 1) := by decide +kernel
theorem dX12_keep_34 : decode cX12_keep 34 = .ok (.bastore, 1) := by decide +kernel
theorem dX12_keep_35 : decode cX12_keep 35 = .ok (.iconst 1, 1) := by decide +kernel
theorem dX12_keep_36 : decode cX12_keep 36 = .ok (.ireturn, 1) := by decide +kernel
def wp_X12_keep (l0 : Nat) (l1 : Int32) (h : PH) (Q : Int32 → PH → Prop) : Prop := (∀ h1, h1 = qsI h l0 0 0 → (wp_X12_lay l0 h1 (fun h2 => (wp_X12_isIn l1 0 5 h2 (fun r5 h4 => ((¬ r5 = 0 → (wp_X12_copy l0 0 (2 + l1) h4 (fun h7 => (∃ b9, qR h7 l0 19 = some b9 ∧ (vp_in l1 (qL h7 b9) ∧ ∀ h11, h11 = qsI h7 b9 l1.toNatClampNeg (vp_nar .boolean 1) → Q 1 h11))))) ∧ (r5 = 0 → Q 0 h4)))))))
set_option maxHeartbeats 4000000 in
set_option maxRecDepth 100000 in
theorem sn_X12_keep (G : GT) (d : Nat) (l0 : Nat) (l1 : Int32) (h : PH) (Q : Int32 → PH → Prop) (okl0 : qOK h 11 l0) (hwp : wp_X12_keep l0 l1 h Q) : Mt G (1 + d) 0 0 mX12_keep [.ref l0, .int l1] h (qqb Q) := by
  unfold wp_X12_keep at hwp
  refine Mt.of (by decide) rfl (Nat.le_of_ble_eq_true rfl) ?_
  have hex := qEx.rf h
  have hnn : qn h = qn h + 0 := rfl
  have hzz : qz h = qz h + 0 := rfl
  refine x_lvE (lv2 := [(0, .ref l0), (1, .int l1)]) rfl ?_
  refine x_aload_n (pc := 0) dX12_keep_0 rfl ?_
  refine x_iconst (v := 0) (pc := 1) dX12_keep_1 (by decide) ?_
  refine y_putI (pc := 2) dX12_keep_2 qRX12_75 okl0 (fun h1 eh1 nxh1 => ?_)
  have hwp := hwp h1 eh1
  have hex := hex.tr nxh1.1
  have hnn := nxh1.2.1.trans hnn
  have hzz := nxh1.2.2.trans hzz
  have okl0 := okl0.ex nxh1.1
  refine x_aload_n (pc := 5) dX12_keep_5 rfl ?_
  refine x_invV (As := []) (st := []) (pc := 6) dX12_keep_6 lRX12_217 fX12_lay vX12_lay okl0 rfl (Nat.le_of_ble_eq_true rfl) (q_R (by omega) (by decide)) (q_C hnn hzz (by decide) (by decide)) (sn_X12_lay G (d + 0) l0 h1 _ okl0 hwp) (k_v (fun h2 hwp cxh2 => ?_))
  have hex := hex.tr cxh2.1
  have hnn : qn h2 = qn h + 0 := by have := cxh2.2.1; omega
  have hzz : qz h2 = qz h + 0 := by have := cxh2.2.2; omega
  have okl0 := okl0.ex cxh2.1
  refine x_iload_n (pc := 9) dX12_keep_9 rfl ?_
  refine x_iconst (v := 0) (pc := 10) dX12_keep_10 (by decide) ?_
  refine x_iconst (v := 5) (pc := 11) dX12_keep_11 (by decide) ?_
  refine x_invS (As := [.int l1, .int 0, .int 5]) (st := []) (pc := 12) dX12_keep_12 lRX12_139 fX12_isIn sX12_isIn rfl (Nat.le_of_ble_eq_true rfl) (q_R (by omega) (by decide)) (q_C hnn hzz (by decide) (by decide)) (sn_X12_isIn G (d + 0) l1 0 5 h2 _  hwp) (k_b (fun r5 h4 hwp zbr5 cxh4 => ?_))
  have hex := hex.tr cxh4.1
  have hnn : qn h4 = qn h + 0 := by have := cxh4.2.1; omega
  have hzz : qz h4 = qz h + 0 := by have := cxh4.2.2; omega
  have okl0 := okl0.ex cxh4.1
  refine x_if_ne (tgt := 20) (pc := 15) dX12_keep_15 (by decide) (fun c6 => ?_) (fun c6 => ?_)
  · have hwp := hwp.1 c6
    refine x_aload_n (pc := 20) dX12_keep_20 rfl ?_
    refine x_iconst (v := 0) (pc := 21) dX12_keep_21 (by decide) ?_
    refine x_iconst (v := 2) (pc := 22) dX12_keep_22 (by decide) ?_
    refine x_iload_n (pc := 23) dX12_keep_23 rfl ?_
    refine x_iadd (pc := 24) dX12_keep_24 ?_
    refine x_invV (As := [.int 0, .int (2 + l1)]) (st := []) (pc := 25) dX12_keep_25 lRX12_229 fX12_copy vX12_copy okl0 rfl (Nat.le_of_ble_eq_true rfl) (q_R (by omega) (by decide)) (q_C hnn hzz (by decide) (by decide)) (sn_X12_copy G (d + 0) l0 0 (2 + l1) h4 _ okl0 hwp) (k_v (fun h7 hwp cxh7 => ?_))
    have hex := hex.tr cxh7.1
    have hnn : qn h7 = qn h + 0 := by have := cxh7.2.1; omega
    have hzz : qz h7 = qz h + 0 := by have := cxh7.2.2; omega
    have okl0 := okl0.ex cxh7.1
    refine x_aload_n (pc := 28) dX12_keep_28 rfl ?_
    obtain ⟨b9, e10, hwp⟩ := hwp
    refine x_getR (pc := 29) dX12_keep_29 qRX12_29 okl0 e10 (fun okb9 => ?_)
    refine x_iload_n (pc := 32) dX12_keep_32 rfl ?_
    refine x_iconst (v := 1) (pc := 33) dX12_keep_33 (by decide) ?_
    obtain ⟨i12, hwp⟩ := hwp
    refine y_zastore (pc := 34) dX12_keep_34 okb9 i12 (fun h11 eh11 nxh11 => ?_)
    have hwp := hwp h11 eh11
    have hex := hex.tr nxh11.1
    have hnn := nxh11.2.1.trans hnn
    have hzz := nxh11.2.2.trans hzz
    have okl0 := okl0.ex nxh11.1
    have okb9 := okb9.ex nxh11.1
    refine x_iconst (v := 1) (pc := 35) dX12_keep_35 (by decide) ?_
    exact x_zret (pc := 36) dX12_keep_36 rfl hex hnn hzz (by decide) ⟨_, rfl, by decide, hwp⟩
  · have hwp := hwp.2 c6
    refine x_iconst (v := 0) (pc := 18) dX12_keep_18 (by decide) ?_
    exact x_zret (pc := 19) dX12_keep_19 rfl hex hnn hzz (by decide) ⟨_, rfl, by decide, hwp⟩

theorem dX12_isLike_0 : decode cX12_isLike 0 = .ok (.iconst 0, 1) := by decide +kernel
theorem dX12_isLike_1 : decode cX12_isLike 1 = .ok (.iload_n 1, 1) := by decide +kernel
theorem dX12_isLike_2 : decode cX12_isLike 2 = .ok (.invokestatic 194, 3) := by decide +kernel
theorem dX12_isLike_5 : decode cX12_isLike 5 = .ok (.istore 5, 2) := by decide +kernel
theorem dX12_isLike_7 : decode cX12_isLike 7 = .ok (.iload_n 3, 1) := by decide +kernel
theorem dX12_isLike_8 : decode cX12_isLike 8 = .ok (.iload 4, 2) := by decide +kernel
theorem dX12_isLike_10 : decode cX12_isLike 10 = .ok (.invokestatic 194, 3) := by decide +kernel
theorem dX12_isLike_13 : decode cX12_isLike 13 = .ok (.istore 6, 2) := by decide +kernel
theorem dX12_isLike_15 : decode cX12_isLike 15 = .ok (.aload_n 0, 1) := by decide +kernel
theorem dX12_isLike_16 : decode cX12_isLike 16 = .ok (.aload_n 0, 1) := by decide +kernel
theorem dX12_isLike_17 : decode cX12_isLike 17 = .ok (.getfield 22, 3) := by decide +kernel
theorem dX12_isLike_20 : decode cX12_isLike 20 = .ok (.iload 5, 2) := by decide +kernel
theorem dX12_isLike_22 : decode cX12_isLike 22 = .ok (.iconst 1, 1) := by decide +kernel
theorem dX12_isLike_23 : decode cX12_isLike 23 = .ok (.iadd, 1) := by decide +kernel
theorem dX12_isLike_24 : decode cX12_isLike 24 = .ok (.iaload, 1) := by decide +kernel
theorem dX12_isLike_25 : decode cX12_isLike 25 = .ok (.aload_n 0, 1) := by decide +kernel
theorem dX12_isLike_26 : decode cX12_isLike 26 = .ok (.getfield 22, 3) := by decide +kernel
theorem dX12_isLike_29 : decode cX12_isLike 29 = .ok (.iload 5, 2) := by decide +kernel
theorem dX12_isLike_31 : decode cX12_isLike 31 = .ok (.iconst 0, 1) := by decide +kernel
theorem dX12_isLike_32 : decode cX12_isLike 32 = .ok (.iadd, 1) := by decide +kernel
theorem dX12_isLike_33 : decode cX12_isLike 33 = .ok (.iaload, 1) := by decide +kernel
theorem dX12_isLike_34 : decode cX12_isLike 34 = .ok (.iconst 4, 1) := by decide +kernel
theorem dX12_isLike_35 : decode cX12_isLike 35 = .ok (.if_icmp .ne 8, 3) := by decide +kernel
theorem dX12_isLike_38 : decode cX12_isLike 38 = .ok (.iload_n 2, 1) := by decide +kernel
theorem dX12_isLike_39 : decode cX12_isLike 39 = .ok (.ineg, 1) := by decide +kernel
theorem dX12_isLike_40 : decode cX12_isLike 40 = .ok (.goto 4, 3) := by decide +kernel
theorem dX12_isLike_43 : decode cX12_isLike 43 = .ok (.iload_n 2, 1) := by decide +kernel
theorem dX12_isLike_44 : decode cX12_isLike 44 = .ok (.iadd, 1) := by decide +kernel
theorem dX12_isLike_45 : decode cX12_isLike 45 = .ok (.invokevirtual 239, 3) := by decide +kernel
theorem dX12_isLike_48 : decode cX12_isLike 48 = .ok (.istore 7, 2) := by decide +kernel
theorem dX12_isLike_50 : decode cX12_isLike 50 = .ok (.iload 7, 2) := by decide +kernel
theorem dX12_isLike_52 : decode cX12_isLike 52 = .ok (.aload_n 0, 1) := by decide +kernel
theorem dX12_isLike_53 : decode cX12_isLike 53 = .ok (.getfield 22, 3) := by decide +kernel
theorem dX12_isLike_56 : decode cX12_isLike 56 = .ok (.iload 6, 2) := by decide +kernel
theorem dX12_isLike_58 : decode cX12_isLike 58 = .ok (.iconst 1, 1) := by decide +kernel
theorem dX12_isLike_59 : decode cX12_isLike 59 = .ok (.iadd, 1) := by decide +kernel
theorem dX12_isLike_60 : decode cX12_isLike 60 = .ok (.iaload, 1) := by decide +kernel
theorem dX12_isLike_61 : decode cX12_isLike 61 = .ok (.if_icmp .eq 5, 3) := by decide +kernel
theorem dX12_isLike_64 : decode cX12_isLike 64 = .ok (.iconst 0, 1) := by decide +kernel
theorem dX12_isLike_65 : decode cX12_isLike 65 = .ok (.ireturn, 1) := by decide +kernel
theorem dX12_isLike_66 : decode cX12_isLike 66 = .ok (.iconst 0, 1) := by decide +kernel
theorem dX12_isLike_67 : decode cX12_isLike 67 = .ok (.istore 8, 2) := by decide +kernel
theorem dX12_isLike_69 : decode cX12_isLike 69 = .ok (.iload 8, 2) := by decide +kernel
theorem dX12_isLike_71 : decode cX12_isLike 71 = .ok (.bipush 8, 2) := by decide +kernel
theorem dX12_isLike_73 : decode cX12_isLike 73 = .ok (.if_icmp .ge 40, 3) := by decide +kernel
theorem dX12_isLike_76 : decode cX12_isLike 76 = .ok (.iload 8, 2) := by decide +kernel
theorem dX12_isLike_78 : decode cX12_isLike 78 = .ok (.iconst 1, 1) := by decide +kernel
theorem dX12_isLike_79 : decode cX12_isLike 79 = .ok (.if_icmp .eq 28, 3) := by decide +kernel
theorem dX12_isLike_82 : decode cX12_isLike 82 = .ok (.aload_n 0, 1) := by decide +kernel
theorem dX12_isLike_83 : decode cX12_isLike 83 = .ok (.getfield 22, 3) := by decide +kernel
theorem dX12_isLike_86 : decode cX12_isLike 86 = .ok (.iload 5, 2) := by decide +kernel
theorem dX12_isLike_88 : decode cX12_isLike 88 = .ok (.iload 8, 2) := by decide +kernel
theorem dX12_isLike_90 : decode cX12_isLike 90 = .ok (.iadd, 1) := by decide +kernel
theorem dX12_isLike_91 : decode cX12_isLike 91 = .ok (.iaload, 1) := by decide +kernel
theorem dX12_isLike_92 : decode cX12_isLike 92 = .ok (.aload_n 0, 1) := by decide +kernel
theorem dX12_isLike_93 : decode cX12_isLike 93 = .ok (.getfield 22, 3) := by decide +kernel
theorem dX12_isLike_96 : decode cX12_isLike 96 = .ok (.iload 6, 2) := by decide +kernel
theorem dX12_isLike_98 : decode cX12_isLike 98 = .ok (.iload 8, 2) := by decide +kernel
theorem dX12_isLike_100 : decode cX12_isLike 100 = .ok (.iadd, 1) := by decide +kernel
theorem dX12_isLike_101 : decode cX12_isLike 101 = .ok (.iaload, 1) := by decide +kernel
theorem dX12_isLike_102 : decode cX12_isLike 102 = .ok (.if_icmp .eq 5, 3) := by decide +kernel
theorem dX12_isLike_105 : decode cX12_isLike 105 = .ok (.iconst 0, 1) := by decide +kernel
theorem dX12_isLike_106 : decode cX12_isLike 106 = .ok (.ireturn, 1) := by decide +kernel
theorem dX12_isLike_107 : decode cX12_isLike 107 = .ok (.iinc 8 1, 3) := by decide +kernel
theorem dX12_isLike_110 : decode cX12_isLike 110 = .ok (.goto (-41), 3) := by decide +kernel
theorem dX12_isLike_113 : decode cX12_isLike 113 = .ok (.iconst 1, 1) := by decide +kernel
theorem dX12_isLike_114 : decode cX12_isLike 114 = .ok (.ireturn, 1) := by decide +kernel
def E_X12_isLike_69 (G : GT) (d : Nat) (h0 hb : PH) (l0 : Nat) (l5 : Int32) (l6 : Int32) (Q : Int32 → PH → Prop) (s : Int32 × PH) : Prop := qEx hb s.2 ∧ qn s.2 = qn hb ∧ qz s.2 = qz hb → Ex G (qrm (1 + d) 0 0) mX12_isLike (qn h0) (qz h0) (ZN G h0 0 0 (qqb Q)) 69 [(0, .ref l0), (5, .int l5), (6, .int l6), (8, .int s.1)] [] s.2
def wb_X12_isLike_69 (l0 : Nat) (l5 : Int32) (l6 : Int32)  (Q : Int32 → PH → Prop) (bk69 : Int32 × PH → Prop) (l8 : Int32) (h : PH) : Prop := ((8 ≤ l8 → Q 1 h) ∧ (¬ (8 ≤ l8) → ((l8 = 1 → ∀ v20 : Int32, v20 = l8 + 1 → bk69 (v20, h)) ∧ (¬ (l8 = 1) → (∃ b21, qR h l0 17 = some b21 ∧ (vp_in (l5 + l8) (qL h b21) ∧ (∃ b24, qR h l0 17 = some b24 ∧ (vp_in (l6 + l8) (qL h b24) ∧ (((qI h b21 (l5 + l8).toNatClampNeg) = (qI h b24 (l6 + l8).toNatClampNeg) → ∀ v28 : Int32, v28 = l8 + 1 → bk69 (v28, h)) ∧ (¬ ((qI h b21 (l5 + l8).toNatClampNeg) = (qI h b24 (l6 + l8).toNatClampNeg)) → Q 0 h))))))))))
def wp_X12_isLike_69 (l0 : Nat) (l5 : Int32) (l6 : Int32)  (Q : Int32 → PH → Prop) (bk69 : Int32 × PH → Prop) (s : Int32 × PH) : Prop := wb_X12_isLike_69 l0 l5 l6 Q bk69 s.1 s.2
set_option maxHeartbeats 4000000 in
set_option maxRecDepth 100000 in
theorem bd_X12_isLike_69 (G : GT) (d : Nat) (h0 hb : PH) (l0 : Nat) (l5 : Int32) (l6 : Int32) (Q : Int32 → PH → Prop)  (hex : qEx h0 hb) (hnn : qn hb = qn h0 + 0) (hzz : qz hb = qz h0 + 0) (okl0 : qOK hb 11 l0) (bk69 : Int32 × PH → Prop) (hbk69 : ∀ s2, bk69 s2 → E_X12_isLike_69 G d h0 hb l0 l5 l6 Q s2) (l8 : Int32) (h : PH) (hwp : wb_X12_isLike_69 l0 l5 l6 Q bk69 l8 h) (hx69 : qEx hb h) (hn69 : qn h = qn hb) (hz69 : qz h = qz hb) : Ex G (qrm (1 + d) 0 0) mX12_isLike (qn h0) (qz h0) (ZN G h0 0 0 (qqb Q)) 69 [(0, .ref l0), (5, .int l5), (6, .int l6), (8, .int l8)] [] h := by
  unfold wb_X12_isLike_69 at hwp
  have hex := hex.tr hx69
  have hnn := hn69.trans hnn
  have hzz := hz69.trans hzz
  have okl0 := okl0.ex hx69
  refine x_iload (pc := 69) dX12_isLike_69 rfl ?_
  refine x_bipush (v := 8) (pc := 71) dX12_isLike_71 (by decide) ?_
  refine x_icmp_ge (tgt := 113) (pc := 73) dX12_isLike_73 (by decide) (fun c18 => ?_) (fun c18 => ?_)
  · have hwp := hwp.1 c18
    refine x_iconst (v := 1) (pc := 113) dX12_isLike_113 (by decide) ?_
    exact x_zret (pc := 114) dX12_isLike_114 rfl hex hnn hzz (by decide) ⟨_, rfl, by decide, hwp⟩
  · have hwp := hwp.2 c18
    refine x_iload (pc := 76) dX12_isLike_76 rfl ?_
    refine x_iconst (v := 1) (pc := 78) dX12_isLike_78 (by decide) ?_
    refine x_icmp_eq (tgt := 107) (pc := 79) dX12_isLike_79 (by decide) (fun c19 => ?_) (fun c19 => ?_)
    · have hwp := hwp.1 c19
      refine y_iinc (c := 1) (pc := 107) dX12_isLike_107 rfl (by decide) (by decide) (fun v20 ev20 => ?_)
      have hwp := hwp v20 ev20
      refine x_lvE (lv2 := [(8, .int v20), (0, .ref l0), (5, .int l5), (6, .int l6)]) rfl ?_
      refine x_goto (tgt := 69) (pc := 110) dX12_isLike_110 (by decide) ?_
      refine x_sub [1, 2, 3, 0] rfl ?_
      exact hbk69 _ hwp ⟨hx69, hn69, hz69⟩
    · have hwp := hwp.2 c19
      refine x_aload_n (pc := 82) dX12_isLike_82 rfl ?_
      obtain ⟨b21, e22, hwp⟩ := hwp
      refine x_getR (pc := 83) dX12_isLike_83 qRX12_22 okl0 e22 (fun okb21 => ?_)
      refine x_iload (pc := 86) dX12_isLike_86 rfl ?_
      refine x_iload (pc := 88) dX12_isLike_88 rfl ?_
      refine x_iadd (pc := 90) dX12_isLike_90 ?_
      obtain ⟨i23, hwp⟩ := hwp
      refine x_iaload (pc := 91) dX12_isLike_91 okb21 i23 ?_
      refine x_aload_n (pc := 92) dX12_isLike_92 rfl ?_
      obtain ⟨b24, e25, hwp⟩ := hwp
      refine x_getR (pc := 93) dX12_isLike_93 qRX12_22 okl0 e25 (fun okb24 => ?_)
      refine x_iload (pc := 96) dX12_isLike_96 rfl ?_
      refine x_iload (pc := 98) dX12_isLike_98 rfl ?_
      refine x_iadd (pc := 100) dX12_isLike_100 ?_
      obtain ⟨i26, hwp⟩ := hwp
      refine x_iaload (pc := 101) dX12_isLike_101 okb24 i26 ?_
      refine x_icmp_eq (tgt := 107) (pc := 102) dX12_isLike_102 (by decide) (fun c27 => ?_) (fun c27 => ?_)
      · have hwp := hwp.1 c27
        refine y_iinc (c := 1) (pc := 107) dX12_isLike_107 rfl (by decide) (by decide) (fun v28 ev28 => ?_)
        have hwp := hwp v28 ev28
        refine x_lvE (lv2 := [(8, .int v28), (0, .ref l0), (5, .int l5), (6, .int l6)]) rfl ?_
        refine x_goto (tgt := 69) (pc := 110) dX12_isLike_110 (by decide) ?_
        refine x_sub [1, 2, 3, 0] rfl ?_
        exact hbk69 _ hwp ⟨hx69, hn69, hz69⟩
      · have hwp := hwp.2 c27
        refine x_iconst (v := 0) (pc := 105) dX12_isLike_105 (by decide) ?_
        exact x_zret (pc := 106) dX12_isLike_106 rfl hex hnn hzz (by decide) ⟨_, rfl, by decide, hwp⟩
theorem lp_X12_isLike_69 (G : GT) (d : Nat) (h0 hb : PH) (l0 : Nat) (l5 : Int32) (l6 : Int32) (Q : Int32 → PH → Prop)  (hex : qEx h0 hb) (hnn : qn hb = qn h0 + 0) (hzz : qz hb = qz h0 + 0) (okl0 : qOK hb 11 l0) {s : Int32 × PH} (hwp : qLoop (wp_X12_isLike_69 l0 l5 l6 Q) s) : E_X12_isLike_69 G d h0 hb l0 l5 l6 Q s :=
  qLoop.use (E := E_X12_isLike_69 G d h0 hb l0 l5 l6 Q) (fun back s hbk hw hx => bd_X12_isLike_69 G d h0 hb l0 l5 l6 Q hex hnn hzz okl0 back hbk s.1 s.2 hw hx.1 hx.2.1 hx.2.2) hwp
def wp_X12_isLike_44 (l0 : Nat) (l5 : Int32) (l6 : Int32) (s0 : Int32) (s1 : Int32) (s2 : Nat)  (h : PH) (Q : Int32 → PH → Prop) : Prop := (wp_X12_round s2 (s1 + s0) h (fun r13 h12 => (∃ b14, qR h12 l0 17 = some b14 ∧ (vp_in (l6 + 1) (qL h12 b14) ∧ ((r13 = (qI h12 b14 (l6 + 1).toNatClampNeg) → (qLoop (wp_X12_isLike_69 l0 l5 l6 Q) (0, h12))) ∧ (¬ (r13 = (qI h12 b14 (l6 + 1).toNatClampNeg)) → Q 0 h12))))))
set_option maxHeartbeats 4000000 in
set_option maxRecDepth 100000 in
theorem sg_X12_isLike_44 (G : GT) (d : Nat) (h0 : PH) (l0 : Nat) (l5 : Int32) (l6 : Int32) (s0 : Int32) (s1 : Int32) (s2 : Nat) (h : PH) (Q : Int32 → PH → Prop) (hex : qEx h0 h) (hnn : qn h = qn h0 + 0) (hzz : qz h = qz h0 + 0) (okl0 : qOK h 11 l0) (oks2 : qOK h 11 s2) (hwp : wp_X12_isLike_44 l0 l5 l6 s0 s1 s2 h Q) : Ex G (qrm (1 + d) 0 0) mX12_isLike (qn h0) (qz h0) (ZN G h0 0 0 (qqb Q)) 44 [(0, .ref l0), (5, .int l5), (6, .int l6)] [.int s0, .int s1, .ref s2] h := by
  unfold wp_X12_isLike_44 at hwp
  refine x_iadd (pc := 44) dX12_isLike_44 ?_
  refine x_invV (As := [.int (s1 + s0)]) (st := []) (pc := 45) dX12_isLike_45 lRX12_239 fX12_round vX12_round oks2 rfl (Nat.le_of_ble_eq_true rfl) (q_R (by omega) (by decide)) (q_C hnn hzz (by decide) (by decide)) (sn_X12_round G (d + 0) s2 (s1 + s0) h _ oks2 hwp) (k_i (fun r13 h12 hwp cxh12 => ?_))
  have hex := hex.tr cxh12.1
  have hnn : qn h12 = qn h0 + 0 := by have := cxh12.2.1; omega
  have hzz : qz h12 = qz h0 + 0 := by have := cxh12.2.2; omega
  have okl0 := okl0.ex cxh12.1
  have oks2 := oks2.ex cxh12.1
  refine x_istore (lv2 := [(7, .int r13), (0, .ref l0), (5, .int l5), (6, .int l6)]) (pc := 48) dX12_isLike_48 (by decide) rfl ?_
  refine x_iload (pc := 50) dX12_isLike_50 rfl ?_
  refine x_aload_n (pc := 52) dX12_isLike_52 rfl ?_
  obtain ⟨b14, e15, hwp⟩ := hwp
  refine x_getR (pc := 53) dX12_isLike_53 qRX12_22 okl0 e15 (fun okb14 => ?_)
  refine x_iload (pc := 56) dX12_isLike_56 rfl ?_
  refine x_iconst (v := 1) (pc := 58) dX12_isLike_58 (by decide) ?_
  refine x_iadd (pc := 59) dX12_isLike_59 ?_
  obtain ⟨i16, hwp⟩ := hwp
  refine x_iaload (pc := 60) dX12_isLike_60 okb14 i16 ?_
  refine x_icmp_eq (tgt := 66) (pc := 61) dX12_isLike_61 (by decide) (fun c17 => ?_) (fun c17 => ?_)
  · have hwp := hwp.1 c17
    refine x_iconst (v := 0) (pc := 66) dX12_isLike_66 (by decide) ?_
    refine x_istore (lv2 := [(8, .int 0), (7, .int r13), (0, .ref l0), (5, .int l5), (6, .int l6)]) (pc := 67) dX12_isLike_67 (by decide) rfl ?_
    refine x_sub [2, 3, 4, 0] rfl ?_
    exact lp_X12_isLike_69 G d h0 h12 l0 l5 l6 Q hex hnn hzz okl0 hwp ⟨qEx.rf _, rfl, rfl⟩
  · have hwp := hwp.2 c17
    refine x_iconst (v := 0) (pc := 64) dX12_isLike_64 (by decide) ?_
    exact x_zret (pc := 65) dX12_isLike_65 rfl hex hnn hzz (by decide) ⟨_, rfl, by decide, hwp⟩
def wp_X12_isLike (l0 : Nat) (l1 : Int32) (l2 : Int32) (l3 : Int32) (l4 : Int32) (h : PH) (Q : Int32 → PH → Prop) : Prop := (wp_X12_slot 0 l1 h (fun r2 h1 => (wp_X12_slot l3 l4 h1 (fun r4 h3 => (∃ b5, qR h3 l0 17 = some b5 ∧ (vp_in (r2 + 1) (qL h3 b5) ∧ (∃ b8, qR h3 l0 17 = some b8 ∧ (vp_in (r2 + 0) (qL h3 b8) ∧ ((¬ (qI h3 b8 (r2 + 0).toNatClampNeg) = 4 → (wp_X12_isLike_44 l0 r2 r4 l2 (qI h3 b5 (r2 + 1).toNatClampNeg) l0 h3 Q)) ∧ ((qI h3 b8 (r2 + 0).toNatClampNeg) = 4 → (wp_X12_isLike_44 l0 r2 r4 (-l2) (qI h3 b5 (r2 + 1).toNatClampNeg) l0 h3 Q)))))))))))
set_option maxHeartbeats 4000000 in
set_option maxRecDepth 100000 in
theorem sn_X12_isLike (G : GT) (d : Nat) (l0 : Nat) (l1 : Int32) (l2 : Int32) (l3 : Int32) (l4 : Int32) (h : PH) (Q : Int32 → PH → Prop) (okl0 : qOK h 11 l0) (hwp : wp_X12_isLike l0 l1 l2 l3 l4 h Q) : Mt G (1 + d) 0 0 mX12_isLike [.ref l0, .int l1, .int l2, .int l3, .int l4] h (qqb Q) := by
  unfold wp_X12_isLike at hwp
  refine Mt.of (by decide) rfl (Nat.le_of_ble_eq_true rfl) ?_
  have hex := qEx.rf h
  have hnn : qn h = qn h + 0 := rfl
  have hzz : qz h = qz h + 0 := rfl
  refine x_lvE (lv2 := [(0, .ref l0), (1, .int l1), (2, .int l2), (3, .int l3), (4, .int l4)]) rfl ?_
  refine x_iconst (v := 0) (pc := 0) dX12_isLike_0 (by decide) ?_
  refine x_iload_n (pc := 1) dX12_isLike_1 rfl ?_
  refine x_invS (As := [.int 0, .int l1]) (st := []) (pc := 2) dX12_isLike_2 lRX12_194 fX12_slot sX12_slot rfl (Nat.le_of_ble_eq_true rfl) (q_R (by omega) (by decide)) (q_C hnn hzz (by decide) (by decide)) (sn_X12_slot G (d + 0) 0 l1 h _  hwp) (k_i (fun r2 h1 hwp cxh1 => ?_))
  have hex := hex.tr cxh1.1
  have hnn : qn h1 = qn h + 0 := by have := cxh1.2.1; omega
  have hzz : qz h1 = qz h + 0 := by have := cxh1.2.2; omega
  have okl0 := okl0.ex cxh1.1
  refine x_istore (lv2 := [(5, .int r2), (0, .ref l0), (1, .int l1), (2, .int l2), (3, .int l3), (4, .int l4)]) (pc := 5) dX12_isLike_5 (by decide) rfl ?_
  refine x_iload_n (pc := 7) dX12_isLike_7 rfl ?_
  refine x_iload (pc := 8) dX12_isLike_8 rfl ?_
  refine x_invS (As := [.int l3, .int l4]) (st := []) (pc := 10) dX12_isLike_10 lRX12_194 fX12_slot sX12_slot rfl (Nat.le_of_ble_eq_true rfl) (q_R (by omega) (by decide)) (q_C hnn hzz (by decide) (by decide)) (sn_X12_slot G (d + 0) l3 l4 h1 _  hwp) (k_i (fun r4 h3 hwp cxh3 => ?_))
  have hex := hex.tr cxh3.1
  have hnn : qn h3 = qn h + 0 := by have := cxh3.2.1; omega
  have hzz : qz h3 = qz h + 0 := by have := cxh3.2.2; omega
  have okl0 := okl0.ex cxh3.1
  refine x_istore (lv2 := [(6, .int r4), (5, .int r2), (0, .ref l0), (1, .int l1), (2, .int l2), (3, .int l3), (4, .int l4)]) (pc := 13) dX12_isLike_13 (by decide) rfl ?_
  refine x_aload_n (pc := 15) dX12_isLike_15 rfl ?_
  refine x_aload_n (pc := 16) dX12_isLike_16 rfl ?_
  obtain ⟨b5, e6, hwp⟩ := hwp
  refine x_getR (pc := 17) dX12_isLike_17 qRX12_22 okl0 e6 (fun okb5 => ?_)
  refine x_iload (pc := 20) dX12_isLike_20 rfl ?_
  refine x_iconst (v := 1) (pc := 22) dX12_isLike_22 (by decide) ?_
  refine x_iadd (pc := 23) dX12_isLike_23 ?_
  obtain ⟨i7, hwp⟩ := hwp
  refine x_iaload (pc := 24) dX12_isLike_24 okb5 i7 ?_
  refine x_aload_n (pc := 25) dX12_isLike_25 rfl ?_
  obtain ⟨b8, e9, hwp⟩ := hwp
  refine x_getR (pc := 26) dX12_isLike_26 qRX12_22 okl0 e9 (fun okb8 => ?_)
  refine x_iload (pc := 29) dX12_isLike_29 rfl ?_
  refine x_iconst (v := 0) (pc := 31) dX12_isLike_31 (by decide) ?_
  refine x_iadd (pc := 32) dX12_isLike_32 ?_
  obtain ⟨i10, hwp⟩ := hwp
  refine x_iaload (pc := 33) dX12_isLike_33 okb8 i10 ?_
  refine x_iconst (v := 4) (pc := 34) dX12_isLike_34 (by decide) ?_
  refine x_icmp_ne (tgt := 43) (pc := 35) dX12_isLike_35 (by decide) (fun c11 => ?_) (fun c11 => ?_)
  · have hwp := hwp.1 c11
    refine x_iload_n (pc := 43) dX12_isLike_43 rfl ?_
    refine x_sub [2, 1, 0] rfl ?_
    exact sg_X12_isLike_44 G d h l0 r2 r4 l2 (qI h3 b5 (r2 + 1).toNatClampNeg) l0 h3 Q hex hnn hzz okl0 okl0 hwp
  · have hwp := hwp.2 c11
    refine x_iload_n (pc := 38) dX12_isLike_38 rfl ?_
    refine x_ineg (pc := 39) dX12_isLike_39 ?_
    refine x_goto (tgt := 44) (pc := 40) dX12_isLike_40 (by decide) ?_
    refine x_sub [2, 1, 0] rfl ?_
    exact sg_X12_isLike_44 G d h l0 r2 r4 (-l2) (qI h3 b5 (r2 + 1).toNatClampNeg) l0 h3 Q hex hnn hzz okl0 okl0 hwp

theorem dX12_same_0 : decode cX12_same 0 = .ok (.aload_n 0, 1) := by decide +kernel
theorem dX12_same_1 : decode cX12_same 1 = .ok (.iconst 0, 1) := by decide +kernel
theorem dX12_same_2 : decode cX12_same 2 = .ok (.putfield 75, 3) := by decide +kernel
theorem dX12_same_5 : decode cX12_same 5 = .ok (.aload_n 0, 1) := by decide +kernel
theorem dX12_same_6 : decode cX12_same 6 = .ok (.invokevirtual 217, 3) := by decide +kernel
theorem dX12_same_9 : decode cX12_same 9 = .ok (.iload_n 1, 1) := by decide +kernel
theorem dX12_same_10 : decode cX12_same 10 = .ok (.iconst 0, 1) := by decide +kernel
theorem dX12_same_11 : decode cX12_same 11 = .ok (.iconst 5, 1) := by decide +kernel
theorem dX12_same_12 : decode cX12_same 12 = .ok (.invokestatic 139, 3) := by decide +kernel
theorem dX12_same_15 : decode cX12_same 15 = .ok (.ifCond .eq 12, 3) := by decide +kernel
theorem dX12_same_18 : decode cX12_same 18 = .ok (.aload_n 0, 1) := by decide +kernel
theorem dX12_same_19 : decode cX12_same 19 = .ok (.getfield 29, 3) := by decide +kernel
theorem dX12_same_22 : decode cX12_same 22 = .ok (.iload_n 1, 1) := by decide +kernel
theorem dX12_same_23 : decode cX12_same 23 = .ok (.baload, 1) := by decide +kernel
theorem dX12_same_24 : decode cX12_same 24 = .ok (.ifCond .ne 6, 3) := by decide +kernel
theorem dX12_same_27 : decode cX12_same 27 = .ok (.bipush (-2), 2) := by decide +kernel
theorem dX12_same_29 : decode cX12_same 29 = .ok (.ireturn, 1) := by decide +kernel
theorem dX12_same_30 : decode cX12_same 30 = .ok (.iconst 2, 1) := by decide +kernel
theorem dX12_same_31 : decode cX12_same 31 = .ok (.iload_n 1, 1) := by decide +kernel
theorem dX12_same_32 : decode cX12_same 32 = .ok (.iadd, 1) := by decide +kernel
theorem dX12_same_33 : decode cX12_same 33 = .ok (.istore_n 2, 1) := by decide +kernel
theorem dX12_same_34 : decode cX12_same 34 = .ok (.aload_n 0, 1) := by decide +kernel
theorem dX12_same_35 : decode cX12_same 35 = .ok (.getfield 13, 3) := by decide +kernel
theorem dX12_same_38 : decode cX12_same 38 = .ok (.iconst 0, 1) := by decide +kernel
theorem dX12_same_39 : decode cX12_same 39 = .ok (.iaload, 1) := by decide +kernel
theorem dX12_same_40 : decode cX12_same 40 = .ok (.aload_n 0, 1) := by decide +kernel
theorem dX12_same_41 : decode cX12_same 41 = .ok (.getfield 13, 3) := by decide +kernel
theorem dX12_same_44 : decode cX12_same 44 = .ok (.iload_n 2, 1) := by decide +kernel
theorem dX12_same_45 : decode cX12_same 45 = .ok (.iaload, 1) := by decide +kernel
theorem dX12_same_46 : decode cX12_same 46 = .ok (.if_icmp .ne 33, 3) := by decide +kernel
theorem dX12_same_49 : decode cX12_same 49 = .ok (.aload_n 0, 1) := by decide +kernel
theorem dX12_same_50 : decode cX12_same 50 = .ok (.getfield 16, 3) := by decide +kernel
theorem dX12_same_53 : decode cX12_same 53 = .ok (.iconst 0, 1) := by decide +kernel
theorem dX12_same_54 : decode cX12_same 54 = .ok (.iaload, 1) := by decide +kernel
theorem dX12_same_55 : decode cX12_same 55 = .ok (.aload_n 0, 1) := by decide +kernel
theorem dX12_same_56 : decode cX12_same 56 = .ok (.getfield 16, 3) := by decide +kernel
theorem dX12_same_59 : decode cX12_same 59 = .ok (.iload_n 2, 1) := by decide +kernel
theorem dX12_same_60 : decode cX12_same 60 = .ok (.iaload, 1) := by decide +kernel
theorem dX12_same_61 : decode cX12_same 61 = .ok (.if_icmp .ne 18, 3) := by decide +kernel
theorem dX12_same_64 : decode cX12_same 64 = .ok (.aload_n 0, 1) := by decide +kernel
theorem dX12_same_65 : decode cX12_same 65 = .ok (.getfield 19, 3) := by decide +kernel
theorem dX12_same_68 : decode cX12_same 68 = .ok (.iconst 0, 1) := by decide +kernel
theorem dX12_same_69 : decode cX12_same 69 = .ok (.iaload, 1) := by decide +kernel
theorem dX12_same_70 : decode cX12_same 70 = .ok (.aload_n 0, 1) := by decide +kernel
theorem dX12_same_71 : decode cX12_same 71 = .ok (.getfield 19, 3) := by decide +kernel
theorem dX12_same_74 : decode cX12_same 74 = .ok (.iload_n 2, 1) := by decide +kernel
theorem dX12_same_75 : decode cX12_same 75 = .ok (.iaload, 1) := by decide +kernel
theorem dX12_same_76 : decode cX12_same 76 = .ok (.if_icmp .eq 5, 3) := by decide +kernel
theorem dX12_same_79 : decode cX12_same 79 = .ok (.iconst (-1), 1) := by decide +kernel
theorem dX12_same_80 : decode cX12_same 80 = .ok (.ireturn, 1) := by decide +kernel
theorem dX12_same_81 : decode cX12_same 81 = .ok (.iconst 0, 1) := by decide +kernel
theorem dX12_same_82 : decode cX12_same 82 = .ok (.istore_n 3, 1) := by decide +kernel
theorem dX12_same_83 : decode cX12_same 83 = .ok (.iload_n 3, 1) := by decide +kernel
theorem dX12_same_84 : decode cX12_same 84 = .ok (.aload_n 0, 1) := by decide +kernel
theorem dX12_same_85 : decode cX12_same 85 = .ok (.getfield 13, 3) := by decide +kernel
theorem dX12_same_88 : decode cX12_same 88 = .ok (.iconst 0, 1) := by decide +kernel
theorem dX12_same_89 : decode cX12_same 89 = .ok (.iaload, 1) := by decide +kernel
theorem dX12_same_90 : decode cX12_same 90 = .ok (.if_icmp .ge 112, 3) := by decide +kernel
theorem dX12_same_93 : decode cX12_same 93 = .ok (.iconst 0, 1) := by decide +kernel
theorem dX12_same_94 : decode cX12_same 94 = .ok (.istore 4, 2) := by decide +kernel
theorem dX12_same_96 : decode cX12_same 96 = .ok (.iconst 0, 1) := by decide +kernel
theorem dX12_same_97 : decode cX12_same 97 = .ok (.istore 5, 2) := by decide +kernel
theorem dX12_same_99 : decode cX12_same 99 = .ok (.iload 5, 2) := by decide +kernel
theorem dX12_same_101 : decode cX12_same 101 = .ok (.aload_n 0, 1) := by decide +kernel
theorem dX12_same_102 : decode cX12_same 102 = .ok (.getfield 19, 3) := by decide +kernel
theorem dX12_same_105 : decode cX12_same 105 = .ok (.iconst 0, 1) := by decide +kernel
theorem dX12_same_106 : decode cX12_same 106 = .ok (.iaload, 1) := by decide +kernel
theorem dX12_same_107 : decode cX12_same 107 = .ok (.if_icmp .ge 73, 3) := by decide +kernel
theorem dX12_same_110 : decode cX12_same 110 = .ok (.iconst 0, 1) := by decide +kernel
theorem dX12_same_111 : decode cX12_same 111 = .ok (.istore 6, 2) := by decide +kernel
theorem dX12_same_113 : decode cX12_same 113 = .ok (.iload 6, 2) := by decide +kernel
theorem dX12_same_115 : decode cX12_same 115 = .ok (.aload_n 0, 1) := by decide +kernel
theorem dX12_same_116 : decode cX12_same 116 = .ok (.getfield 19, 3) := by decide +kernel
theorem dX12_same_119 : decode cX12_same 119 = .ok (.iload_n 2, 1) := by decide +kernel
theorem dX12_same_120 : decode cX12_same 120 = .ok (.iaload, 1) := by decide +kernel
theorem dX12_same_121 : decode cX12_same 121 = .ok (.if_icmp .ge 33, 3) := by decide +kernel
theorem dX12_same_124 : decode cX12_same 124 = .ok (.iload 4, 2) := by decide +kernel
theorem dX12_same_126 : decode cX12_same 126 = .ok (.iload 6, 2) := by decide +kernel
theorem dX12_same_128 : decode cX12_same 128 = .ok (.ishr, 1) := by decide +kernel
theorem dX12_same_129 : decode cX12_same 129 = .ok (.iconst 1, 1) := by decide +kernel
theorem dX12_same_130 : decode cX12_same 130 = .ok (.iand, 1) := by decide +kernel
theorem dX12_same_131 : decode cX12_same 131 = .ok (.iconst 1, 1) := by decide +kernel
theorem dX12_same_132 : decode cX12_same 132 = .ok (.if_icmp .eq 16, 3) := by decide +kernel
theorem dX12_same_135 : decode cX12_same 135 = .ok (.aload_n 0, 1) := by decide +kernel
theorem dX12_same_136 : decode cX12_same 136 = .ok (.iload 5, 2) := by decide +kernel
theorem dX12_same_138 : decode cX12_same 138 = .ok (.iload_n 3, 1) := by decide +kernel
theorem dX12_same_139 : decode cX12_same 139 = .ok (.iload_n 2, 1) := by decide +kernel
theorem dX12_same_140 : decode cX12_same 140 = .ok (.iload 6, 2) := by decide +kernel
theorem dX12_same_142 : decode cX12_same 142 = .ok (.invokevirtual 402, 3) := by decide +kernel
theorem dX12_same_145 : decode cX12_same 145 = .ok (.ifCond .ne 9, 3) := by decide +kernel
theorem dX12_same_148 : decode cX12_same 148 = .ok (.iinc 6 1, 3) := by decide +kernel
theorem dX12_same_151 : decode cX12_same 151 = .ok (.goto (-38), 3) := by decide +kernel
theorem dX12_same_154 : decode cX12_same 154 = .ok (.iload 6, 2) := by decide +kernel
theorem dX12_same_156 : decode cX12_same 156 = .ok (.aload_n 0, 1) := by decide +kernel
theorem dX12_same_157 : decode cX12_same 157 = .ok (.getfield 19, 3) := by decide +kernel
theorem dX12_same_160 : decode cX12_same 160 = .ok (.iload_n 2, 1) := by decide +kernel
theorem dX12_same_161 : decode cX12_same 161 = .ok (.iaload, 1) := by decide +kernel
theorem dX12_same_162 : decode cX12_same 162 = .ok (.if_icmp .ge 12, 3) := by decide +kernel
theorem dX12_same_165 : decode cX12_same 165 = .ok (.iload 4, 2) := by decide +kernel
theorem dX12_same_167 : decode cX12_same 167 = .ok (.iconst 1, 1) := by decide +kernel
theorem dX12_same_168 : decode cX12_same 168 = .ok (.iload 6, 2) := by decide +kernel
theorem dX12_same_170 : decode cX12_same 170 = .ok (.ishl, 1) := by decide +kernel
theorem dX12_same_171 : decode cX12_same 171 = .ok (.ior, 1) := by decide +kernel
theorem dX12_same_172 : decode cX12_same 172 = .ok (.istore 4, 2) := by decide +kernel
theorem dX12_same_174 : decode cX12_same 174 = .ok (.iinc 5 1, 3) := by decide +kernel
theorem dX12_same_177 : decode cX12_same 177 = .ok (.goto (-78), 3) := by decide +kernel
theorem dX12_same_180 : decode cX12_same 180 = .ok (.iload 4, 2) := by decide +kernel
theorem dX12_same_182 : decode cX12_same 182 = .ok (.invokestatic 394, 3) := by decide +kernel
theorem dX12_same_185 : decode cX12_same 185 = .ok (.aload_n 0, 1) := by decide +kernel
theorem dX12_same_186 : decode cX12_same 186 = .ok (.getfield 19, 3) := by decide +kernel
theorem dX12_same_189 : decode cX12_same 189 = .ok (.iconst 0, 1) := by decide +kernel
theorem dX12_same_190 : decode cX12_same 190 = .ok (.iaload, 1) := by decide +kernel
theorem dX12_same_191 : decode cX12_same 191 = .ok (.if_icmp .ne 5, 3) := by decide +kernel
theorem dX12_same_194 : decode cX12_same 194 = .ok (.iload_n 3, 1) := by decide +kernel
theorem dX12_same_195 : decode cX12_same 195 = .ok (.ireturn, 1) := by decide +kernel
theorem dX12_same_196 : decode cX12_same 196 = .ok (.iinc 3 1, 3) := by decide +kernel
theorem dX12_same_199 : decode cX12_same 199 = .ok (.goto (-116), 3) := by decide +kernel
theorem dX12_same_202 : decode cX12_same 202 = .ok (.iconst (-1), 1) := by decide +kernel
theorem dX12_same_203 : decode cX12_same 203 = .ok (.ireturn, 1) := by decide +kernel
def E_X12_same_83 (G : GT) (d : Nat) (h0 hb : PH) (l0 : Nat) (l2 : Int32) (Q : Int32 → PH → Prop) (s : Int32 × PH) : Prop := qEx hb s.2 ∧ qn s.2 = qn hb ∧ qz s.2 = qz hb → Ex G (qrm (2 + d) 0 0) mX12_same (qn h0) (qz h0) (ZN G h0 0 0 (qqi Q)) 83 [(0, .ref l0), (2, .int l2), (3, .int s.1)] [] s.2
def E_X12_same_99 (G : GT) (d : Nat) (h0 hb : PH) (l0 : Nat) (l2 : Int32) (l3 : Int32) (Q : Int32 → PH → Prop) (s : Int32 × Int32 × PH) : Prop := qEx hb s.2.2 ∧ qn s.2.2 = qn hb ∧ qz s.2.2 = qz hb → Ex G (qrm (2 + d) 0 0) mX12_same (qn h0) (qz h0) (ZN G h0 0 0 (qqi Q)) 99 [(0, .ref l0), (2, .int l2), (3, .int l3), (4, .int s.1), (5, .int s.2.1)] [] s.2.2
def E_X12_same_113 (G : GT) (d : Nat) (h0 hb : PH) (l0 : Nat) (l2 : Int32) (l3 : Int32) (l4 : Int32) (l5 : Int32) (Q : Int32 → PH → Prop) (s : Int32 × PH) : Prop := qEx hb s.2 ∧ qn s.2 = qn hb ∧ qz s.2 = qz hb → Ex G (qrm (2 + d) 0 0) mX12_same (qn h0) (qz h0) (ZN G h0 0 0 (qqi Q)) 113 [(0, .ref l0), (2, .int l2), (3, .int l3), (4, .int l4), (5, .int l5), (6, .int s.1)] [] s.2
def wp_X12_same_154 (l0 : Nat) (l2 : Int32) (l3 : Int32) (l4 : Int32) (l5 : Int32) (l6 : Int32) (bk83 : Int32 × PH → Prop) (bk99 : Int32 × Int32 × PH → Prop) (h : PH) (Q : Int32 → PH → Prop) : Prop := (∃ b58, qR h l0 16 = some b58 ∧ (vp_in l2 (qL h b58) ∧ (((qI h b58 l2.toNatClampNeg) ≤ l6 → ∀ v62 : Int32, v62 = l5 + 1 → bk99 (l4, v62, h)) ∧ (¬ ((qI h b58 l2.toNatClampNeg) ≤ l6) → ∀ v63 : Int32, v63 = l4 ||| (1 <<< (l6 &&& 31)) → ∀ v64 : Int32, v64 = l5 + 1 → bk99 (v63, v64, h)))))
set_option maxHeartbeats 4000000 in
set_option maxRecDepth 100000 in
theorem sg_X12_same_154 (G : GT) (d : Nat) (h0 : PH) (l0 : Nat) (l2 : Int32) (l3 : Int32) (l4 : Int32) (l5 : Int32) (l6 : Int32) (h : PH) (Q : Int32 → PH → Prop) (hb83 : PH) (bk83 : Int32 × PH → Prop) (hbk83 : ∀ s2, bk83 s2 → E_X12_same_83 G d h0 hb83 l0 l2 Q s2) (hx83 : qEx hb83 h) (hn83 : qn h = qn hb83) (hz83 : qz h = qz hb83) (hb99 : PH) (bk99 : Int32 × Int32 × PH → Prop) (hbk99 : ∀ s2, bk99 s2 → E_X12_same_99 G d h0 hb99 l0 l2 l3 Q s2) (hx99 : qEx hb99 h) (hn99 : qn h = qn hb99) (hz99 : qz h = qz hb99) (hex : qEx h0 h) (hnn : qn h = qn h0 + 0) (hzz : qz h = qz h0 + 0) (okl0 : qOK h 11 l0) (hwp : wp_X12_same_154 l0 l2 l3 l4 l5 l6 bk83 bk99 h Q) : Ex G (qrm (2 + d) 0 0) mX12_same (qn h0) (qz h0) (ZN G h0 0 0 (qqi Q)) 154 [(0, .ref l0), (2, .int l2), (3, .int l3), (4, .int l4), (5, .int l5), (6, .int l6)] [] h := by
  unfold wp_X12_same_154 at hwp
  refine x_iload (pc := 154) dX12_same_154 rfl ?_
  refine x_aload_n (pc := 156) dX12_same_156 rfl ?_
  obtain ⟨b58, e59, hwp⟩ := hwp
  refine x_getR (pc := 157) dX12_same_157 qRX12_19 okl0 e59 (fun okb58 => ?_)
  refine x_iload_n (pc := 160) dX12_same_160 rfl ?_
  obtain ⟨i60, hwp⟩ := hwp
  refine x_iaload (pc := 161) dX12_same_161 okb58 i60 ?_
  refine x_icmp_ge (tgt := 174) (pc := 162) dX12_same_162 (by decide) (fun c61 => ?_) (fun c61 => ?_)
  · have hwp := hwp.1 c61
    refine y_iinc (c := 1) (pc := 174) dX12_same_174 rfl (by decide) (by decide) (fun v62 ev62 => ?_)
    have hwp := hwp v62 ev62
    refine x_lvE (lv2 := [(5, .int v62), (0, .ref l0), (2, .int l2), (3, .int l3), (4, .int l4), (6, .int l6)]) rfl ?_
    refine x_goto (tgt := 99) (pc := 177) dX12_same_177 (by decide) ?_
    refine x_sub [1, 2, 3, 4, 0] rfl ?_
    exact hbk99 _ hwp ⟨hx99, hn99, hz99⟩
  · have hwp := hwp.2 c61
    refine x_iload (pc := 165) dX12_same_165 rfl ?_
    refine x_iconst (v := 1) (pc := 167) dX12_same_167 (by decide) ?_
    refine x_iload (pc := 168) dX12_same_168 rfl ?_
    refine x_ishl (pc := 170) dX12_same_170 ?_
    refine x_ior (pc := 171) dX12_same_171 ?_
    refine x_nmI (fun v63 ev63 => ?_)
    have hwp := hwp v63 ev63
    refine x_istore (lv2 := [(4, .int v63), (0, .ref l0), (2, .int l2), (3, .int l3), (5, .int l5), (6, .int l6)]) (pc := 172) dX12_same_172 (by decide) rfl ?_
    refine y_iinc (c := 1) (pc := 174) dX12_same_174 rfl (by decide) (by decide) (fun v64 ev64 => ?_)
    have hwp := hwp v64 ev64
    refine x_lvE (lv2 := [(5, .int v64), (4, .int v63), (0, .ref l0), (2, .int l2), (3, .int l3), (6, .int l6)]) rfl ?_
    refine x_goto (tgt := 99) (pc := 177) dX12_same_177 (by decide) ?_
    refine x_sub [2, 3, 4, 1, 0] rfl ?_
    exact hbk99 _ hwp ⟨hx99, hn99, hz99⟩
def wb_X12_same_113 (l0 : Nat) (l2 : Int32) (l3 : Int32) (l4 : Int32) (l5 : Int32) (bk83 : Int32 × PH → Prop) (bk99 : Int32 × Int32 × PH → Prop) (Q : Int32 → PH → Prop) (bk113 : Int32 × PH → Prop) (l6 : Int32) (h : PH) : Prop := (∃ b48, qR h l0 16 = some b48 ∧ (vp_in l2 (qL h b48) ∧ (((qI h b48 l2.toNatClampNeg) ≤ l6 → (wp_X12_same_154 l0 l2 l3 l4 l5 l6 bk83 bk99 h Q)) ∧ (¬ ((qI h b48 l2.toNatClampNeg) ≤ l6) → ((((l4 >>> (l6 &&& 31)) &&& 1) = 1 → ∀ v53 : Int32, v53 = l6 + 1 → bk113 (v53, h)) ∧ (¬ (((l4 >>> (l6 &&& 31)) &&& 1) = 1) → (wp_X12_isLike l0 l5 l3 l2 l6 h (fun r55 h54 => ((¬ r55 = 0 → (wp_X12_same_154 l0 l2 l3 l4 l5 l6 bk83 bk99 h54 Q)) ∧ (r55 = 0 → ∀ v57 : Int32, v57 = l6 + 1 → bk113 (v57, h54)))))))))))
def wp_X12_same_113 (l0 : Nat) (l2 : Int32) (l3 : Int32) (l4 : Int32) (l5 : Int32) (bk83 : Int32 × PH → Prop) (bk99 : Int32 × Int32 × PH → Prop) (Q : Int32 → PH → Prop) (bk113 : Int32 × PH → Prop) (s : Int32 × PH) : Prop := wb_X12_same_113 l0 l2 l3 l4 l5 bk83 bk99 Q bk113 s.1 s.2
set_option maxHeartbeats 4000000 in
set_option maxRecDepth 100000 in
theorem bd_X12_same_113 (G : GT) (d : Nat) (h0 hb : PH) (l0 : Nat) (l2 : Int32) (l3 : Int32) (l4 : Int32) (l5 : Int32) (Q : Int32 → PH → Prop) (hb83 : PH) (bk83 : Int32 × PH → Prop) (hbk83 : ∀ s2, bk83 s2 → E_X12_same_83 G d h0 hb83 l0 l2 Q s2) (hx83 : qEx hb83 hb) (hn83 : qn hb = qn hb83) (hz83 : qz hb = qz hb83) (hb99 : PH) (bk99 : Int32 × Int32 × PH → Prop) (hbk99 : ∀ s2, bk99 s2 → E_X12_same_99 G d h0 hb99 l0 l2 l3 Q s2) (hx99 : qEx hb99 hb) (hn99 : qn hb = qn hb99) (hz99 : qz hb = qz hb99) (hex : qEx h0 hb) (hnn : qn hb = qn h0 + 0) (hzz : qz hb = qz h0 + 0) (okl0 : qOK hb 11 l0) (bk113 : Int32 × PH → Prop) (hbk113 : ∀ s2, bk113 s2 → E_X12_same_113 G d h0 hb l0 l2 l3 l4 l5 Q s2) (l6 : Int32) (h : PH) (hwp : wb_X12_same_113 l0 l2 l3 l4 l5 bk83 bk99 Q bk113 l6 h) (hx113 : qEx hb h) (hn113 : qn h = qn hb) (hz113 : qz h = qz hb) : Ex G (qrm (2 + d) 0 0) mX12_same (qn h0) (qz h0) (ZN G h0 0 0 (qqi Q)) 113 [(0, .ref l0), (2, .int l2), (3, .int l3), (4, .int l4), (5, .int l5), (6, .int l6)] [] h := by
  unfold wb_X12_same_113 at hwp
  have hex := hex.tr hx113
  have hnn := hn113.trans hnn
  have hzz := hz113.trans hzz
  have hx83 := hx83.tr hx113
  have hn83 := hn113.trans hn83
  have hz83 := hz113.trans hz83
  have hx99 := hx99.tr hx113
  have hn99 := hn113.trans hn99
  have hz99 := hz113.trans hz99
  have okl0 := okl0.ex hx113
  refine x_iload (pc := 113) dX12_same_113 rfl ?_
  refine x_aload_n (pc := 115) dX12_same_115 rfl ?_
  obtain ⟨b48, e49, hwp⟩ := hwp
  refine x_getR (pc := 116) dX12_same_116 qRX12_19 okl0 e49 (fun okb48 => ?_)
  refine x_iload_n (pc := 119) dX12_same_119 rfl ?_
  obtain ⟨i50, hwp⟩ := hwp
  refine x_iaload (pc := 120) dX12_same_120 okb48 i50 ?_
  refine x_icmp_ge (tgt := 154) (pc := 121) dX12_same_121 (by decide) (fun c51 => ?_) (fun c51 => ?_)
  · have hwp := hwp.1 c51
    refine x_sub [0, 1, 2, 3, 4, 5] rfl ?_
    exact sg_X12_same_154 G d h0 l0 l2 l3 l4 l5 l6 h Q hb83 bk83 hbk83 hx83 hn83 hz83 hb99 bk99 hbk99 hx99 hn99 hz99 hex hnn hzz okl0 hwp
  · have hwp := hwp.2 c51
    refine x_iload (pc := 124) dX12_same_124 rfl ?_
    refine x_iload (pc := 126) dX12_same_126 rfl ?_
    refine x_ishr (pc := 128) dX12_same_128 ?_
    refine x_iconst (v := 1) (pc := 129) dX12_same_129 (by decide) ?_
    refine x_iand (pc := 130) dX12_same_130 ?_
    refine x_iconst (v := 1) (pc := 131) dX12_same_131 (by decide) ?_
    refine x_icmp_eq (tgt := 148) (pc := 132) dX12_same_132 (by decide) (fun c52 => ?_) (fun c52 => ?_)
    · have hwp := hwp.1 c52
      refine y_iinc (c := 1) (pc := 148) dX12_same_148 rfl (by decide) (by decide) (fun v53 ev53 => ?_)
      have hwp := hwp v53 ev53
      refine x_lvE (lv2 := [(6, .int v53), (0, .ref l0), (2, .int l2), (3, .int l3), (4, .int l4), (5, .int l5)]) rfl ?_
      refine x_goto (tgt := 113) (pc := 151) dX12_same_151 (by decide) ?_
      refine x_sub [1, 2, 3, 4, 5, 0] rfl ?_
      exact hbk113 _ hwp ⟨hx113, hn113, hz113⟩
    · have hwp := hwp.2 c52
      refine x_aload_n (pc := 135) dX12_same_135 rfl ?_
      refine x_iload (pc := 136) dX12_same_136 rfl ?_
      refine x_iload_n (pc := 138) dX12_same_138 rfl ?_
      refine x_iload_n (pc := 139) dX12_same_139 rfl ?_
      refine x_iload (pc := 140) dX12_same_140 rfl ?_
      refine x_invV (As := [.int l5, .int l3, .int l2, .int l6]) (st := []) (pc := 142) dX12_same_142 lRX12_402 fX12_isLike vX12_isLike okl0 rfl (Nat.le_of_ble_eq_true rfl) (q_R (by omega) (by decide)) (q_C hnn hzz (by decide) (by decide)) (sn_X12_isLike G (d + 0) l0 l5 l3 l2 l6 h _ okl0 hwp) (k_b (fun r55 h54 hwp zbr55 cxh54 => ?_))
      have hex := hex.tr cxh54.1
      have hnn : qn h54 = qn h0 + 0 := by have := cxh54.2.1; omega
      have hzz : qz h54 = qz h0 + 0 := by have := cxh54.2.2; omega
      have hx83 := hx83.tr cxh54.1
      have hn83 : qn h54 = qn hb83 := by have := cxh54.2.1; omega
      have hz83 : qz h54 = qz hb83 := by have := cxh54.2.2; omega
      have hx99 := hx99.tr cxh54.1
      have hn99 : qn h54 = qn hb99 := by have := cxh54.2.1; omega
      have hz99 : qz h54 = qz hb99 := by have := cxh54.2.2; omega
      have hx113 := hx113.tr cxh54.1
      have hn113 : qn h54 = qn hb := by have := cxh54.2.1; omega
      have hz113 : qz h54 = qz hb := by have := cxh54.2.2; omega
      have okl0 := okl0.ex cxh54.1
      have okb48 := okb48.ex cxh54.1
      refine x_if_ne (tgt := 154) (pc := 145) dX12_same_145 (by decide) (fun c56 => ?_) (fun c56 => ?_)
      · have hwp := hwp.1 c56
        refine x_sub [0, 1, 2, 3, 4, 5] rfl ?_
        exact sg_X12_same_154 G d h0 l0 l2 l3 l4 l5 l6 h54 Q hb83 bk83 hbk83 hx83 hn83 hz83 hb99 bk99 hbk99 hx99 hn99 hz99 hex hnn hzz okl0 hwp
      · have hwp := hwp.2 c56
        refine y_iinc (c := 1) (pc := 148) dX12_same_148 rfl (by decide) (by decide) (fun v57 ev57 => ?_)
        have hwp := hwp v57 ev57
        refine x_lvE (lv2 := [(6, .int v57), (0, .ref l0), (2, .int l2), (3, .int l3), (4, .int l4), (5, .int l5)]) rfl ?_
        refine x_goto (tgt := 113) (pc := 151) dX12_same_151 (by decide) ?_
        refine x_sub [1, 2, 3, 4, 5, 0] rfl ?_
        exact hbk113 _ hwp ⟨hx113, hn113, hz113⟩
theorem lp_X12_same_113 (G : GT) (d : Nat) (h0 hb : PH) (l0 : Nat) (l2 : Int32) (l3 : Int32) (l4 : Int32) (l5 : Int32) (Q : Int32 → PH → Prop) (hb83 : PH) (bk83 : Int32 × PH → Prop) (hbk83 : ∀ s2, bk83 s2 → E_X12_same_83 G d h0 hb83 l0 l2 Q s2) (hx83 : qEx hb83 hb) (hn83 : qn hb = qn hb83) (hz83 : qz hb = qz hb83) (hb99 : PH) (bk99 : Int32 × Int32 × PH → Prop) (hbk99 : ∀ s2, bk99 s2 → E_X12_same_99 G d h0 hb99 l0 l2 l3 Q s2) (hx99 : qEx hb99 hb) (hn99 : qn hb = qn hb99) (hz99 : qz hb = qz hb99) (hex : qEx h0 hb) (hnn : qn hb = qn h0 + 0) (hzz : qz hb = qz h0 + 0) (okl0 : qOK hb 11 l0) {s : Int32 × PH} (hwp : qLoop (wp_X12_same_113 l0 l2 l3 l4 l5 bk83 bk99 Q) s) : E_X12_same_113 G d h0 hb l0 l2 l3 l4 l5 Q s :=
  qLoop.use (E := E_X12_same_113 G d h0 hb l0 l2 l3 l4 l5 Q) (fun back s hbk hw hx => bd_X12_same_113 G d h0 hb l0 l2 l3 l4 l5 Q hb83 bk83 hbk83 hx83 hn83 hz83 hb99 bk99 hbk99 hx99 hn99 hz99 hex hnn hzz okl0 back hbk s.1 s.2 hw hx.1 hx.2.1 hx.2.2) hwp
def wb_X12_same_99 (l0 : Nat) (l2 : Int32) (l3 : Int32) (bk83 : Int32 × PH → Prop) (Q : Int32 → PH → Prop) (bk99 : Int32 × Int32 × PH → Prop) (l4 : Int32) (l5 : Int32) (h : PH) : Prop := (∃ b37, qR h l0 16 = some b37 ∧ (vp_in 0 (qL h b37) ∧ (((qI h b37 (0 : Int32).toNatClampNeg) ≤ l5 → (wp_X12_bits l4 h (fun r42 h41 => (∃ b43, qR h41 l0 16 = some b43 ∧ (vp_in 0 (qL h41 b43) ∧ ((¬ r42 = (qI h41 b43 (0 : Int32).toNatClampNeg) → ∀ v47 : Int32, v47 = l3 + 1 → bk83 (v47, h41)) ∧ (r42 = (qI h41 b43 (0 : Int32).toNatClampNeg) → Q l3 h41))))))) ∧ (¬ ((qI h b37 (0 : Int32).toNatClampNeg) ≤ l5) → (qLoop (wp_X12_same_113 l0 l2 l3 l4 l5 bk83 bk99 Q) (0, h))))))
def wp_X12_same_99 (l0 : Nat) (l2 : Int32) (l3 : Int32) (bk83 : Int32 × PH → Prop) (Q : Int32 → PH → Prop) (bk99 : Int32 × Int32 × PH → Prop) (s : Int32 × Int32 × PH) : Prop := wb_X12_same_99 l0 l2 l3 bk83 Q bk99 s.1 s.2.1 s.2.2
set_option maxHeartbeats 4000000 in
set_option maxRecDepth 100000 in
theorem bd_X12_same_99 (G : GT) (d : Nat) (h0 hb : PH) (l0 : Nat) (l2 : Int32) (l3 : Int32) (Q : Int32 → PH → Prop) (hb83 : PH) (bk83 : Int32 × PH → Prop) (hbk83 : ∀ s2, bk83 s2 → E_X12_same_83 G d h0 hb83 l0 l2 Q s2) (hx83 : qEx hb83 hb) (hn83 : qn hb = qn hb83) (hz83 : qz hb = qz hb83) (hex : qEx h0 hb) (hnn : qn hb = qn h0 + 0) (hzz : qz hb = qz h0 + 0) (okl0 : qOK hb 11 l0) (bk99 : Int32 × Int32 × PH → Prop) (hbk99 : ∀ s2, bk99 s2 → E_X12_same_99 G d h0 hb l0 l2 l3 Q s2) (l4 : Int32) (l5 : Int32) (h : PH) (hwp : wb_X12_same_99 l0 l2 l3 bk83 Q bk99 l4 l5 h) (hx99 : qEx hb h) (hn99 : qn h = qn hb) (hz99 : qz h = qz hb) : Ex G (qrm (2 + d) 0 0) mX12_same (qn h0) (qz h0) (ZN G h0 0 0 (qqi Q)) 99 [(0, .ref l0), (2, .int l2), (3, .int l3), (4, .int l4), (5, .int l5)] [] h := by
  unfold wb_X12_same_99 at hwp
  have hex := hex.tr hx99
  have hnn := hn99.trans hnn
  have hzz := hz99.trans hzz
  have hx83 := hx83.tr hx99
  have hn83 := hn99.trans hn83
  have hz83 := hz99.trans hz83
  have okl0 := okl0.ex hx99
  refine x_iload (pc := 99) dX12_same_99 rfl ?_
  refine x_aload_n (pc := 101) dX12_same_101 rfl ?_
  obtain ⟨b37, e38, hwp⟩ := hwp
  refine x_getR (pc := 102) dX12_same_102 qRX12_19 okl0 e38 (fun okb37 => ?_)
  refine x_iconst (v := 0) (pc := 105) dX12_same_105 (by decide) ?_
  obtain ⟨i39, hwp⟩ := hwp
  refine x_iaload (pc := 106) dX12_same_106 okb37 i39 ?_
  refine x_icmp_ge (tgt := 180) (pc := 107) dX12_same_107 (by decide) (fun c40 => ?_) (fun c40 => ?_)
  · have hwp := hwp.1 c40
    refine x_iload (pc := 180) dX12_same_180 rfl ?_
    refine x_invS (As := [.int l4]) (st := []) (pc := 182) dX12_same_182 lRX12_394 fX12_bits sX12_bits rfl (Nat.le_of_ble_eq_true rfl) (q_R (by omega) (by decide)) (q_C hnn hzz (by decide) (by decide)) (sn_X12_bits G (d + 1) l4 h _  hwp) (k_i (fun r42 h41 hwp cxh41 => ?_))
    have hex := hex.tr cxh41.1
    have hnn : qn h41 = qn h0 + 0 := by have := cxh41.2.1; omega
    have hzz : qz h41 = qz h0 + 0 := by have := cxh41.2.2; omega
    have hx83 := hx83.tr cxh41.1
    have hn83 : qn h41 = qn hb83 := by have := cxh41.2.1; omega
    have hz83 : qz h41 = qz hb83 := by have := cxh41.2.2; omega
    have hx99 := hx99.tr cxh41.1
    have hn99 : qn h41 = qn hb := by have := cxh41.2.1; omega
    have hz99 : qz h41 = qz hb := by have := cxh41.2.2; omega
    have okl0 := okl0.ex cxh41.1
    have okb37 := okb37.ex cxh41.1
    refine x_aload_n (pc := 185) dX12_same_185 rfl ?_
    obtain ⟨b43, e44, hwp⟩ := hwp
    refine x_getR (pc := 186) dX12_same_186 qRX12_19 okl0 e44 (fun okb43 => ?_)
    refine x_iconst (v := 0) (pc := 189) dX12_same_189 (by decide) ?_
    obtain ⟨i45, hwp⟩ := hwp
    refine x_iaload (pc := 190) dX12_same_190 okb43 i45 ?_
    refine x_icmp_ne (tgt := 196) (pc := 191) dX12_same_191 (by decide) (fun c46 => ?_) (fun c46 => ?_)
    · have hwp := hwp.1 c46
      refine y_iinc (c := 1) (pc := 196) dX12_same_196 rfl (by decide) (by decide) (fun v47 ev47 => ?_)
      have hwp := hwp v47 ev47
      refine x_lvE (lv2 := [(3, .int v47), (0, .ref l0), (2, .int l2), (4, .int l4), (5, .int l5)]) rfl ?_
      refine x_goto (tgt := 83) (pc := 199) dX12_same_199 (by decide) ?_
      refine x_sub [1, 2, 0] rfl ?_
      exact hbk83 _ hwp ⟨hx83, hn83, hz83⟩
    · have hwp := hwp.2 c46
      refine x_iload_n (pc := 194) dX12_same_194 rfl ?_
      exact x_iret (pc := 195) dX12_same_195 rfl hex hnn hzz ⟨_, rfl, hwp⟩
  · have hwp := hwp.2 c40
    refine x_iconst (v := 0) (pc := 110) dX12_same_110 (by decide) ?_
    refine x_istore (lv2 := [(6, .int 0), (0, .ref l0), (2, .int l2), (3, .int l3), (4, .int l4), (5, .int l5)]) (pc := 111) dX12_same_111 (by decide) rfl ?_
    refine x_sub [1, 2, 3, 4, 5, 0] rfl ?_
    exact lp_X12_same_113 G d h0 h l0 l2 l3 l4 l5 Q hb83 bk83 hbk83 hx83 hn83 hz83 hb bk99 hbk99 hx99 hn99 hz99 hex hnn hzz okl0 hwp ⟨qEx.rf _, rfl, rfl⟩
theorem lp_X12_same_99 (G : GT) (d : Nat) (h0 hb : PH) (l0 : Nat) (l2 : Int32) (l3 : Int32) (Q : Int32 → PH → Prop) (hb83 : PH) (bk83 : Int32 × PH → Prop) (hbk83 : ∀ s2, bk83 s2 → E_X12_same_83 G d h0 hb83 l0 l2 Q s2) (hx83 : qEx hb83 hb) (hn83 : qn hb = qn hb83) (hz83 : qz hb = qz hb83) (hex : qEx h0 hb) (hnn : qn hb = qn h0 + 0) (hzz : qz hb = qz h0 + 0) (okl0 : qOK hb 11 l0) {s : Int32 × Int32 × PH} (hwp : qLoop (wp_X12_same_99 l0 l2 l3 bk83 Q) s) : E_X12_same_99 G d h0 hb l0 l2 l3 Q s :=
  qLoop.use (E := E_X12_same_99 G d h0 hb l0 l2 l3 Q) (fun back s hbk hw hx => bd_X12_same_99 G d h0 hb l0 l2 l3 Q hb83 bk83 hbk83 hx83 hn83 hz83 hex hnn hzz okl0 back hbk s.1 s.2.1 s.2.2 hw hx.1 hx.2.1 hx.2.2) hwp
def wb_X12_same_83 (l0 : Nat) (l2 : Int32)  (Q : Int32 → PH → Prop) (bk83 : Int32 × PH → Prop) (l3 : Int32) (h : PH) : Prop := (∃ b33, qR h l0 14 = some b33 ∧ (vp_in 0 (qL h b33) ∧ (((qI h b33 (0 : Int32).toNatClampNeg) ≤ l3 → Q (-1) h) ∧ (¬ ((qI h b33 (0 : Int32).toNatClampNeg) ≤ l3) → (qLoop (wp_X12_same_99 l0 l2 l3 bk83 Q) (0, 0, h))))))
def wp_X12_same_83 (l0 : Nat) (l2 : Int32)  (Q : Int32 → PH → Prop) (bk83 : Int32 × PH → Prop) (s : Int32 × PH) : Prop := wb_X12_same_83 l0 l2 Q bk83 s.1 s.2
set_option maxHeartbeats 4000000 in
set_option maxRecDepth 100000 in
theorem bd_X12_same_83 (G : GT) (d : Nat) (h0 hb : PH) (l0 : Nat) (l2 : Int32) (Q : Int32 → PH → Prop)  (hex : qEx h0 hb) (hnn : qn hb = qn h0 + 0) (hzz : qz hb = qz h0 + 0) (okl0 : qOK hb 11 l0) (bk83 : Int32 × PH → Prop) (hbk83 : ∀ s2, bk83 s2 → E_X12_same_83 G d h0 hb l0 l2 Q s2) (l3 : Int32) (h : PH) (hwp : wb_X12_same_83 l0 l2 Q bk83 l3 h) (hx83 : qEx hb h) (hn83 : qn h = qn hb) (hz83 : qz h = qz hb) : Ex G (qrm (2 + d) 0 0) mX12_same (qn h0) (qz h0) (ZN G h0 0 0 (qqi Q)) 83 [(0, .ref l0), (2, .int l2), (3, .int l3)] [] h := by
  unfold wb_X12_same_83 at hwp
  have hex := hex.tr hx83
  have hnn := hn83.trans hnn
  have hzz := hz83.trans hzz
  have okl0 := okl0.ex hx83
  refine x_iload_n (pc := 83) dX12_same_83 rfl ?_
  refine x_aload_n (pc := 84) dX12_same_84 rfl ?_
  obtain ⟨b33, e34, hwp⟩ := hwp
  refine x_getR (pc := 85) dX12_same_85 qRX12_13 okl0 e34 (fun okb33 => ?_)
  refine x_iconst (v := 0) (pc := 88) dX12_same_88 (by decide) ?_
  obtain ⟨i35, hwp⟩ := hwp
  refine x_iaload (pc := 89) dX12_same_89 okb33 i35 ?_
  refine x_icmp_ge (tgt := 202) (pc := 90) dX12_same_90 (by decide) (fun c36 => ?_) (fun c36 => ?_)
  · have hwp := hwp.1 c36
    refine x_iconst (v := (-1)) (pc := 202) dX12_same_202 (by decide) ?_
    exact x_iret (pc := 203) dX12_same_203 rfl hex hnn hzz ⟨_, rfl, hwp⟩
  · have hwp := hwp.2 c36
    refine x_iconst (v := 0) (pc := 93) dX12_same_93 (by decide) ?_
    refine x_istore (lv2 := [(4, .int 0), (0, .ref l0), (2, .int l2), (3, .int l3)]) (pc := 94) dX12_same_94 (by decide) rfl ?_
    refine x_iconst (v := 0) (pc := 96) dX12_same_96 (by decide) ?_
    refine x_istore (lv2 := [(5, .int 0), (4, .int 0), (0, .ref l0), (2, .int l2), (3, .int l3)]) (pc := 97) dX12_same_97 (by decide) rfl ?_
    refine x_sub [2, 3, 4, 1, 0] rfl ?_
    exact lp_X12_same_99 G d h0 h l0 l2 l3 Q hb bk83 hbk83 hx83 hn83 hz83 hex hnn hzz okl0 hwp ⟨qEx.rf _, rfl, rfl⟩
theorem lp_X12_same_83 (G : GT) (d : Nat) (h0 hb : PH) (l0 : Nat) (l2 : Int32) (Q : Int32 → PH → Prop)  (hex : qEx h0 hb) (hnn : qn hb = qn h0 + 0) (hzz : qz hb = qz h0 + 0) (okl0 : qOK hb 11 l0) {s : Int32 × PH} (hwp : qLoop (wp_X12_same_83 l0 l2 Q) s) : E_X12_same_83 G d h0 hb l0 l2 Q s :=
  qLoop.use (E := E_X12_same_83 G d h0 hb l0 l2 Q) (fun back s hbk hw hx => bd_X12_same_83 G d h0 hb l0 l2 Q hex hnn hzz okl0 back hbk s.1 s.2 hw hx.1 hx.2.1 hx.2.2) hwp
def wp_X12_same (l0 : Nat) (l1 : Int32) (h : PH) (Q : Int32 → PH → Prop) : Prop := (∀ h1, h1 = qsI h l0 0 0 → (wp_X12_lay l0 h1 (fun h2 => (wp_X12_isIn l1 0 5 h2 (fun r5 h4 => ((r5 = 0 → Q (-2) h4) ∧ (¬ (r5 = 0) → (∃ b7, qR h4 l0 19 = some b7 ∧ (vp_in l1 (qL h4 b7) ∧ ((¬ (qI h4 b7 l1.toNatClampNeg) = 0 → ∀ v11 : Int32, v11 = 2 + l1 → (∃ b12, qR h4 l0 14 = some b12 ∧ (vp_in 0 (qL h4 b12) ∧ (∃ b15, qR h4 l0 14 = some b15 ∧ (vp_in v11 (qL h4 b15) ∧ ((¬ (qI h4 b12 (0 : Int32).toNatClampNeg) = (qI h4 b15 v11.toNatClampNeg) → Q (-1) h4) ∧ ((qI h4 b12 (0 : Int32).toNatClampNeg) = (qI h4 b15 v11.toNatClampNeg) → (∃ b19, qR h4 l0 15 = some b19 ∧ (vp_in 0 (qL h4 b19) ∧ (∃ b22, qR h4 l0 15 = some b22 ∧ (vp_in v11 (qL h4 b22) ∧ ((¬ (qI h4 b19 (0 : Int32).toNatClampNeg) = (qI h4 b22 v11.toNatClampNeg) → Q (-1) h4) ∧ ((qI h4 b19 (0 : Int32).toNatClampNeg) = (qI h4 b22 v11.toNatClampNeg) → (∃ b26, qR h4 l0 16 = some b26 ∧ (vp_in 0 (qL h4 b26) ∧ (∃ b29, qR h4 l0 16 = some b29 ∧ (vp_in v11 (qL h4 b29) ∧ (((qI h4 b26 (0 : Int32).toNatClampNeg) = (qI h4 b29 v11.toNatClampNeg) → (qLoop (wp_X12_same_83 l0 v11 Q) (0, h4))) ∧ (¬ ((qI h4 b26 (0 : Int32).toNatClampNeg) = (qI h4 b29 v11.toNatClampNeg)) → Q (-1) h4))))))))))))))))))) ∧ ((qI h4 b7 l1.toNatClampNeg) = 0 → Q (-2) h4)))))))))))
set_option maxHeartbeats 4000000 in
set_option maxRecDepth 100000 in
theorem sn_X12_same (G : GT) (d : Nat) (l0 : Nat) (l1 : Int32) (h : PH) (Q : Int32 → PH → Prop) (okl0 : qOK h 11 l0) (hwp : wp_X12_same l0 l1 h Q) : Mt G (2 + d) 0 0 mX12_same [.ref l0, .int l1] h (qqi Q) := by
  unfold wp_X12_same at hwp
  refine Mt.of (by decide) rfl (Nat.le_of_ble_eq_true rfl) ?_
  have hex := qEx.rf h
  have hnn : qn h = qn h + 0 := rfl
  have hzz : qz h = qz h + 0 := rfl
  refine x_lvE (lv2 := [(0, .ref l0), (1, .int l1)]) rfl ?_
  refine x_aload_n (pc := 0) dX12_same_0 rfl ?_
  refine x_iconst (v := 0) (pc := 1) dX12_same_1 (by decide) ?_
  refine y_putI (pc := 2) dX12_same_2 qRX12_75 okl0 (fun h1 eh1 nxh1 => ?_)
  have hwp := hwp h1 eh1
  have hex := hex.tr nxh1.1
  have hnn := nxh1.2.1.trans hnn
  have hzz := nxh1.2.2.trans hzz
  have okl0 := okl0.ex nxh1.1
  refine x_aload_n (pc := 5) dX12_same_5 rfl ?_
  refine x_invV (As := []) (st := []) (pc := 6) dX12_same_6 lRX12_217 fX12_lay vX12_lay okl0 rfl (Nat.le_of_ble_eq_true rfl) (q_R (by omega) (by decide)) (q_C hnn hzz (by decide) (by decide)) (sn_X12_lay G (d + 1) l0 h1 _ okl0 hwp) (k_v (fun h2 hwp cxh2 => ?_))
  have hex := hex.tr cxh2.1
  have hnn : qn h2 = qn h + 0 := by have := cxh2.2.1; omega
  have hzz : qz h2 = qz h + 0 := by have := cxh2.2.2; omega
  have okl0 := okl0.ex cxh2.1
  refine x_iload_n (pc := 9) dX12_same_9 rfl ?_
  refine x_iconst (v := 0) (pc := 10) dX12_same_10 (by decide) ?_
  refine x_iconst (v := 5) (pc := 11) dX12_same_11 (by decide) ?_
  refine x_invS (As := [.int l1, .int 0, .int 5]) (st := []) (pc := 12) dX12_same_12 lRX12_139 fX12_isIn sX12_isIn rfl (Nat.le_of_ble_eq_true rfl) (q_R (by omega) (by decide)) (q_C hnn hzz (by decide) (by decide)) (sn_X12_isIn G (d + 1) l1 0 5 h2 _  hwp) (k_b (fun r5 h4 hwp zbr5 cxh4 => ?_))
  have hex := hex.tr cxh4.1
  have hnn : qn h4 = qn h + 0 := by have := cxh4.2.1; omega
  have hzz : qz h4 = qz h + 0 := by have := cxh4.2.2; omega
  have okl0 := okl0.ex cxh4.1
  refine x_if_eq (tgt := 27) (pc := 15) dX12_same_15 (by decide) (fun c6 => ?_) (fun c6 => ?_)
  · have hwp := hwp.1 c6
    refine x_bipush (v := (-2)) (pc := 27) dX12_same_27 (by decide) ?_
    exact x_iret (pc := 29) dX12_same_29 rfl hex hnn hzz ⟨_, rfl, hwp⟩
  · have hwp := hwp.2 c6
    refine x_aload_n (pc := 18) dX12_same_18 rfl ?_
    obtain ⟨b7, e8, hwp⟩ := hwp
    refine x_getR (pc := 19) dX12_same_19 qRX12_29 okl0 e8 (fun okb7 => ?_)
    refine x_iload_n (pc := 22) dX12_same_22 rfl ?_
    obtain ⟨i9, hwp⟩ := hwp
    refine x_zaload (pc := 23) dX12_same_23 okb7 i9 ?_
    refine x_if_ne (tgt := 30) (pc := 24) dX12_same_24 (by decide) (fun c10 => ?_) (fun c10 => ?_)
    · have hwp := hwp.1 c10
      refine x_iconst (v := 2) (pc := 30) dX12_same_30 (by decide) ?_
      refine x_iload_n (pc := 31) dX12_same_31 rfl ?_
      refine x_iadd (pc := 32) dX12_same_32 ?_
      refine x_nmI (fun v11 ev11 => ?_)
      have hwp := hwp v11 ev11
      refine x_istore_n (lv2 := [(2, .int v11), (0, .ref l0), (1, .int l1)]) (pc := 33) dX12_same_33 (by decide) rfl ?_
      refine x_aload_n (pc := 34) dX12_same_34 rfl ?_
      obtain ⟨b12, e13, hwp⟩ := hwp
      refine x_getR (pc := 35) dX12_same_35 qRX12_13 okl0 e13 (fun okb12 => ?_)
      refine x_iconst (v := 0) (pc := 38) dX12_same_38 (by decide) ?_
      obtain ⟨i14, hwp⟩ := hwp
      refine x_iaload (pc := 39) dX12_same_39 okb12 i14 ?_
      refine x_aload_n (pc := 40) dX12_same_40 rfl ?_
      obtain ⟨b15, e16, hwp⟩ := hwp
      refine x_getR (pc := 41) dX12_same_41 qRX12_13 okl0 e16 (fun okb15 => ?_)
      refine x_iload_n (pc := 44) dX12_same_44 rfl ?_
      obtain ⟨i17, hwp⟩ := hwp
      refine x_iaload (pc := 45) dX12_same_45 okb15 i17 ?_
      refine x_icmp_ne (tgt := 79) (pc := 46) dX12_same_46 (by decide) (fun c18 => ?_) (fun c18 => ?_)
      · have hwp := hwp.1 c18
        refine x_iconst (v := (-1)) (pc := 79) dX12_same_79 (by decide) ?_
        exact x_iret (pc := 80) dX12_same_80 rfl hex hnn hzz ⟨_, rfl, hwp⟩
      · have hwp := hwp.2 c18
        refine x_aload_n (pc := 49) dX12_same_49 rfl ?_
        obtain ⟨b19, e20, hwp⟩ := hwp
        refine x_getR (pc := 50) dX12_same_50 qRX12_16 okl0 e20 (fun okb19 => ?_)
        refine x_iconst (v := 0) (pc := 53) dX12_same_53 (by decide) ?_
        obtain ⟨i21, hwp⟩ := hwp
        refine x_iaload (pc := 54) dX12_same_54 okb19 i21 ?_
        refine x_aload_n (pc := 55) dX12_same_55 rfl ?_
        obtain ⟨b22, e23, hwp⟩ := hwp
        refine x_getR (pc := 56) dX12_same_56 qRX12_16 okl0 e23 (fun okb22 => ?_)
        refine x_iload_n (pc := 59) dX12_same_59 rfl ?_
        obtain ⟨i24, hwp⟩ := hwp
        refine x_iaload (pc := 60) dX12_same_60 okb22 i24 ?_
        refine x_icmp_ne (tgt := 79) (pc := 61) dX12_same_61 (by decide) (fun c25 => ?_) (fun c25 => ?_)
        · have hwp := hwp.1 c25
          refine x_iconst (v := (-1)) (pc := 79) dX12_same_79 (by decide) ?_
          exact x_iret (pc := 80) dX12_same_80 rfl hex hnn hzz ⟨_, rfl, hwp⟩
        · have hwp := hwp.2 c25
          refine x_aload_n (pc := 64) dX12_same_64 rfl ?_
          obtain ⟨b26, e27, hwp⟩ := hwp
          refine x_getR (pc := 65) dX12_same_65 qRX12_19 okl0 e27 (fun okb26 => ?_)
          refine x_iconst (v := 0) (pc := 68) dX12_same_68 (by decide) ?_
          obtain ⟨i28, hwp⟩ := hwp
          refine x_iaload (pc := 69) dX12_same_69 okb26 i28 ?_
          refine x_aload_n (pc := 70) dX12_same_70 rfl ?_
          obtain ⟨b29, e30, hwp⟩ := hwp
          refine x_getR (pc := 71) dX12_same_71 qRX12_19 okl0 e30 (fun okb29 => ?_)
          refine x_iload_n (pc := 74) dX12_same_74 rfl ?_
          obtain ⟨i31, hwp⟩ := hwp
          refine x_iaload (pc := 75) dX12_same_75 okb29 i31 ?_
          refine x_icmp_eq (tgt := 81) (pc := 76) dX12_same_76 (by decide) (fun c32 => ?_) (fun c32 => ?_)
          · have hwp := hwp.1 c32
            refine x_iconst (v := 0) (pc := 81) dX12_same_81 (by decide) ?_
            refine x_istore_n (lv2 := [(3, .int 0), (2, .int v11), (0, .ref l0), (1, .int l1)]) (pc := 82) dX12_same_82 (by decide) rfl ?_
            refine x_sub [2, 1, 0] rfl ?_
            exact lp_X12_same_83 G d h h4 l0 v11 Q hex hnn hzz okl0 hwp ⟨qEx.rf _, rfl, rfl⟩
          · have hwp := hwp.2 c32
            refine x_iconst (v := (-1)) (pc := 79) dX12_same_79 (by decide) ?_
            exact x_iret (pc := 80) dX12_same_80 rfl hex hnn hzz ⟨_, rfl, hwp⟩
    · have hwp := hwp.2 c10
      refine x_bipush (v := (-2)) (pc := 27) dX12_same_27 (by decide) ?_
      exact x_iret (pc := 29) dX12_same_29 rfl hex hnn hzz ⟨_, rfl, hwp⟩

theorem dX12_isFed_0 : decode cX12_isFed 0 = .ok (.iload_n 3, 1) := by decide +kernel
theorem dX12_isFed_1 : decode cX12_isFed 1 = .ok (.istore 6, 2) := by decide +kernel
theorem dX12_isFed_3 : decode cX12_isFed 3 = .ok (.iconst 0, 1) := by decide +kernel
theorem dX12_isFed_4 : decode cX12_isFed 4 = .ok (.istore 7, 2) := by decide +kernel
theorem dX12_isFed_6 : decode cX12_isFed 6 = .ok (.iload 7, 2) := by decide +kernel
theorem dX12_isFed_8 : decode cX12_isFed 8 = .ok (.bipush 20, 2) := by decide +kernel
theorem dX12_isFed_10 : decode cX12_isFed 10 = .ok (.aload_n 0, 1) := by decide +kernel
theorem dX12_isFed_11 : decode cX12_isFed 11 = .ok (.getfield 13, 3) := by decide +kernel
theorem dX12_isFed_14 : decode cX12_isFed 14 = .ok (.iconst 0, 1) := by decide +kernel
theorem dX12_isFed_15 : decode cX12_isFed 15 = .ok (.iaload, 1) := by decide +kernel
theorem dX12_isFed_16 : decode cX12_isFed 16 = .ok (.imul, 1) := by decide +kernel
theorem dX12_isFed_17 : decode cX12_isFed 17 = .ok (.if_icmp .ge 63, 3) := by decide +kernel
theorem dX12_isFed_20 : decode cX12_isFed 20 = .ok (.aload_n 0, 1) := by decide +kernel
theorem dX12_isFed_21 : decode cX12_isFed 21 = .ok (.iload_n 2, 1) := by decide +kernel
theorem dX12_isFed_22 : decode cX12_isFed 22 = .ok (.iload 7, 2) := by decide +kernel
theorem dX12_isFed_24 : decode cX12_isFed 24 = .ok (.iadd, 1) := by decide +kernel
theorem dX12_isFed_25 : decode cX12_isFed 25 = .ok (.invokevirtual 239, 3) := by decide +kernel
theorem dX12_isFed_28 : decode cX12_isFed 28 = .ok (.istore 8, 2) := by decide +kernel
theorem dX12_isFed_30 : decode cX12_isFed 30 = .ok (.iload 6, 2) := by decide +kernel
theorem dX12_isFed_32 : decode cX12_isFed 32 = .ok (.aload_n 0, 1) := by decide +kernel
theorem dX12_isFed_33 : decode cX12_isFed 33 = .ok (.getfield 33, 3) := by decide +kernel
theorem dX12_isFed_36 : decode cX12_isFed 36 = .ok (.iload 8, 2) := by decide +kernel
theorem dX12_isFed_38 : decode cX12_isFed 38 = .ok (.iaload, 1) := by decide +kernel
theorem dX12_isFed_39 : decode cX12_isFed 39 = .ok (.iload 8, 2) := by decide +kernel
theorem dX12_isFed_41 : decode cX12_isFed 41 = .ok (.iload_n 1, 1) := by decide +kernel
theorem dX12_isFed_42 : decode cX12_isFed 42 = .ok (.if_icmp .ne 8, 3) := by decide +kernel
theorem dX12_isFed_45 : decode cX12_isFed 45 = .ok (.iload 5, 2) := by decide +kernel
theorem dX12_isFed_47 : decode cX12_isFed 47 = .ok (.goto 4, 3) := by decide +kernel
theorem dX12_isFed_50 : decode cX12_isFed 50 = .ok (.iconst 0, 1) := by decide +kernel
theorem dX12_isFed_51 : decode cX12_isFed 51 = .ok (.iadd, 1) := by decide +kernel
theorem dX12_isFed_52 : decode cX12_isFed 52 = .ok (.iload 8, 2) := by decide +kernel
theorem dX12_isFed_54 : decode cX12_isFed 54 = .ok (.ifCond .ne 8, 3) := by decide +kernel
theorem dX12_isFed_57 : decode cX12_isFed 57 = .ok (.iload 4, 2) := by decide +kernel
theorem dX12_isFed_59 : decode cX12_isFed 59 = .ok (.goto 4, 3) := by decide +kernel
theorem dX12_isFed_62 : decode cX12_isFed 62 = .ok (.iconst 0, 1) := by decide +kernel
theorem dX12_isFed_63 : decode cX12_isFed 63 = .ok (.isub, 1) := by decide +kernel
theorem dX12_isFed_64 : decode cX12_isFed 64 = .ok (.iadd, 1) := by decide +kernel
theorem dX12_isFed_65 : decode cX12_isFed 65 = .ok (.istore 6, 2) := by decide +kernel
theorem dX12_isFed_67 : decode cX12_isFed 67 = .ok (.iload 6, 2) := by decide +kernel
theorem dX12_isFed_69 : decode cX12_isFed 69 = .ok (.ifCond .ge 5, 3) := by decide +kernel
theorem dX12_isFed_72 : decode cX12_isFed 72 = .ok (.iconst 0, 1) := by decide +kernel
theorem dX12_isFed_73 : decode cX12_isFed 73 = .ok (.ireturn, 1) := by decide +kernel
theorem dX12_isFed_74 : decode cX12_isFed 74 = .ok (.iinc 7 1, 3) := by decide +kernel
theorem dX12_isFed_77 : decode cX12_isFed 77 = .ok (.goto (-71), 3) := by decide +kernel
theorem dX12_isFed_80 : decode cX12_isFed 80 = .ok (.iconst 1, 1) := by decide +kernel
theorem dX12_isFed_81 : decode cX12_isFed 81 = .ok (.ireturn, 1) := by decide +kernel
def E_X12_isFed_6 (G : GT) (d : Nat) (h0 hb : PH) (l0 : Nat) (l1 : Int32) (l2 : Int32) (l4 : Int32) (l5 : Int32) (Q : Int32 → PH → Prop) (s : Int32 × Int32 × PH) : Prop := qEx hb s.2.2 ∧ qn s.2.2 = qn hb ∧ qz s.2.2 = qz hb → Ex G (qrm (1 + d) 0 0) mX12_isFed (qn h0) (qz h0) (ZN G h0 0 0 (qqb Q)) 6 [(0, .ref l0), (1, .int l1), (2, .int l2), (4, .int l4), (5, .int l5), (6, .int s.1), (7, .int s.2.1)] [] s.2.2
def wp_X12_isFed_51 (l0 : Nat) (l1 : Int32) (l2 : Int32) (l4 : Int32) (l5 : Int32) (l7 : Int32) (l8 : Int32) (s0 : Int32) (s1 : Int32) (s2 : Int32) (bk6 : Int32 × Int32 × PH → Prop) (h : PH) (Q : Int32 → PH → Prop) : Prop := ((¬ l8 = 0 → ∀ v12 : Int32, v12 = s2 + ((s1 + s0) - 0) → ((0 ≤ v12 → ∀ v14 : Int32, v14 = l7 + 1 → bk6 (v12, v14, h)) ∧ (¬ (0 ≤ v12) → Q 0 h))) ∧ (l8 = 0 → ∀ v15 : Int32, v15 = s2 + ((s1 + s0) - l4) → ((0 ≤ v15 → ∀ v17 : Int32, v17 = l7 + 1 → bk6 (v15, v17, h)) ∧ (¬ (0 ≤ v15) → Q 0 h))))
set_option maxHeartbeats 4000000 in
set_option maxRecDepth 100000 in
theorem sg_X12_isFed_51 (G : GT) (d : Nat) (h0 : PH) (l0 : Nat) (l1 : Int32) (l2 : Int32) (l4 : Int32) (l5 : Int32) (l7 : Int32) (l8 : Int32) (s0 : Int32) (s1 : Int32) (s2 : Int32) (h : PH) (Q : Int32 → PH → Prop) (hb6 : PH) (bk6 : Int32 × Int32 × PH → Prop) (hbk6 : ∀ s2, bk6 s2 → E_X12_isFed_6 G d h0 hb6 l0 l1 l2 l4 l5 Q s2) (hx6 : qEx hb6 h) (hn6 : qn h = qn hb6) (hz6 : qz h = qz hb6) (hex : qEx h0 h) (hnn : qn h = qn h0 + 0) (hzz : qz h = qz h0 + 0) (okl0 : qOK h 11 l0) (hwp : wp_X12_isFed_51 l0 l1 l2 l4 l5 l7 l8 s0 s1 s2 bk6 h Q) : Ex G (qrm (1 + d) 0 0) mX12_isFed (qn h0) (qz h0) (ZN G h0 0 0 (qqb Q)) 51 [(0, .ref l0), (1, .int l1), (2, .int l2), (4, .int l4), (5, .int l5), (7, .int l7), (8, .int l8)] [.int s0, .int s1, .int s2] h := by
  unfold wp_X12_isFed_51 at hwp
  refine x_iadd (pc := 51) dX12_isFed_51 ?_
  refine x_iload (pc := 52) dX12_isFed_52 rfl ?_
  refine x_if_ne (tgt := 62) (pc := 54) dX12_isFed_54 (by decide) (fun c11 => ?_) (fun c11 => ?_)
  · have hwp := hwp.1 c11
    refine x_iconst (v := 0) (pc := 62) dX12_isFed_62 (by decide) ?_
    refine x_isub (pc := 63) dX12_isFed_63 ?_
    refine x_iadd (pc := 64) dX12_isFed_64 ?_
    refine x_nmI (fun v12 ev12 => ?_)
    have hwp := hwp v12 ev12
    refine x_istore (lv2 := [(6, .int v12), (0, .ref l0), (1, .int l1), (2, .int l2), (4, .int l4), (5, .int l5), (7, .int l7), (8, .int l8)]) (pc := 65) dX12_isFed_65 (by decide) rfl ?_
    refine x_iload (pc := 67) dX12_isFed_67 rfl ?_
    refine x_if_ge (tgt := 74) (pc := 69) dX12_isFed_69 (by decide) (fun c13 => ?_) (fun c13 => ?_)
    · have hwp := hwp.1 c13
      refine y_iinc (c := 1) (pc := 74) dX12_isFed_74 rfl (by decide) (by decide) (fun v14 ev14 => ?_)
      have hwp := hwp v14 ev14
      refine x_lvE (lv2 := [(7, .int v14), (6, .int v12), (0, .ref l0), (1, .int l1), (2, .int l2), (4, .int l4), (5, .int l5), (8, .int l8)]) rfl ?_
      refine x_goto (tgt := 6) (pc := 77) dX12_isFed_77 (by decide) ?_
      refine x_sub [2, 3, 4, 5, 6, 1, 0] rfl ?_
      exact hbk6 _ hwp ⟨hx6, hn6, hz6⟩
    · have hwp := hwp.2 c13
      refine x_iconst (v := 0) (pc := 72) dX12_isFed_72 (by decide) ?_
      exact x_zret (pc := 73) dX12_isFed_73 rfl hex hnn hzz (by decide) ⟨_, rfl, by decide, hwp⟩
  · have hwp := hwp.2 c11
    refine x_iload (pc := 57) dX12_isFed_57 rfl ?_
    refine x_goto (tgt := 63) (pc := 59) dX12_isFed_59 (by decide) ?_
    refine x_isub (pc := 63) dX12_isFed_63 ?_
    refine x_iadd (pc := 64) dX12_isFed_64 ?_
    refine x_nmI (fun v15 ev15 => ?_)
    have hwp := hwp v15 ev15
    refine x_istore (lv2 := [(6, .int v15), (0, .ref l0), (1, .int l1), (2, .int l2), (4, .int l4), (5, .int l5), (7, .int l7), (8, .int l8)]) (pc := 65) dX12_isFed_65 (by decide) rfl ?_
    refine x_iload (pc := 67) dX12_isFed_67 rfl ?_
    refine x_if_ge (tgt := 74) (pc := 69) dX12_isFed_69 (by decide) (fun c16 => ?_) (fun c16 => ?_)
    · have hwp := hwp.1 c16
      refine y_iinc (c := 1) (pc := 74) dX12_isFed_74 rfl (by decide) (by decide) (fun v17 ev17 => ?_)
      have hwp := hwp v17 ev17
      refine x_lvE (lv2 := [(7, .int v17), (6, .int v15), (0, .ref l0), (1, .int l1), (2, .int l2), (4, .int l4), (5, .int l5), (8, .int l8)]) rfl ?_
      refine x_goto (tgt := 6) (pc := 77) dX12_isFed_77 (by decide) ?_
      refine x_sub [2, 3, 4, 5, 6, 1, 0] rfl ?_
      exact hbk6 _ hwp ⟨hx6, hn6, hz6⟩
    · have hwp := hwp.2 c16
      refine x_iconst (v := 0) (pc := 72) dX12_isFed_72 (by decide) ?_
      exact x_zret (pc := 73) dX12_isFed_73 rfl hex hnn hzz (by decide) ⟨_, rfl, by decide, hwp⟩
def wb_X12_isFed_6 (l0 : Nat) (l1 : Int32) (l2 : Int32) (l4 : Int32) (l5 : Int32)  (Q : Int32 → PH → Prop) (bk6 : Int32 × Int32 × PH → Prop) (l6 : Int32) (l7 : Int32) (h : PH) : Prop := (∃ b1, qR h l0 14 = some b1 ∧ (vp_in 0 (qL h b1) ∧ (((20 * (qI h b1 (0 : Int32).toNatClampNeg)) ≤ l7 → Q 1 h) ∧ (¬ ((20 * (qI h b1 (0 : Int32).toNatClampNeg)) ≤ l7) → (wp_X12_round l0 (l2 + l7) h (fun r6 h5 => (∃ b7, qR h5 l0 21 = some b7 ∧ (vp_in r6 (qL h5 b7) ∧ ((¬ r6 = l1 → (wp_X12_isFed_51 l0 l1 l2 l4 l5 l7 r6 0 (qI h5 b7 r6.toNatClampNeg) l6 bk6 h5 Q)) ∧ (r6 = l1 → (wp_X12_isFed_51 l0 l1 l2 l4 l5 l7 r6 l5 (qI h5 b7 r6.toNatClampNeg) l6 bk6 h5 Q)))))))))))
def wp_X12_isFed_6 (l0 : Nat) (l1 : Int32) (l2 : Int32) (l4 : Int32) (l5 : Int32)  (Q : Int32 → PH → Prop) (bk6 : Int32 × Int32 × PH → Prop) (s : Int32 × Int32 × PH) : Prop := wb_X12_isFed_6 l0 l1 l2 l4 l5 Q bk6 s.1 s.2.1 s.2.2
set_option maxHeartbeats 4000000 in
set_option maxRecDepth 100000 in
theorem bd_X12_isFed_6 (G : GT) (d : Nat) (h0 hb : PH) (l0 : Nat) (l1 : Int32) (l2 : Int32) (l4 : Int32) (l5 : Int32) (Q : Int32 → PH → Prop)  (hex : qEx h0 hb) (hnn : qn hb = qn h0 + 0) (hzz : qz hb = qz h0 + 0) (okl0 : qOK hb 11 l0) (bk6 : Int32 × Int32 × PH → Prop) (hbk6 : ∀ s2, bk6 s2 → E_X12_isFed_6 G d h0 hb l0 l1 l2 l4 l5 Q s2) (l6 : Int32) (l7 : Int32) (h : PH) (hwp : wb_X12_isFed_6 l0 l1 l2 l4 l5 Q bk6 l6 l7 h) (hx6 : qEx hb h) (hn6 : qn h = qn hb) (hz6 : qz h = qz hb) : Ex G (qrm (1 + d) 0 0) mX12_isFed (qn h0) (qz h0) (ZN G h0 0 0 (qqb Q)) 6 [(0, .ref l0), (1, .int l1), (2, .int l2), (4, .int l4), (5, .int l5), (6, .int l6), (7, .int l7)] [] h := by
  unfold wb_X12_isFed_6 at hwp
  have hex := hex.tr hx6
  have hnn := hn6.trans hnn
  have hzz := hz6.trans hzz
  have okl0 := okl0.ex hx6
  refine x_iload (pc := 6) dX12_isFed_6 rfl ?_
  refine x_bipush (v := 20) (pc := 8) dX12_isFed_8 (by decide) ?_
  refine x_aload_n (pc := 10) dX12_isFed_10 rfl ?_
  obtain ⟨b1, e2, hwp⟩ := hwp
  refine x_getR (pc := 11) dX12_isFed_11 qRX12_13 okl0 e2 (fun okb1 => ?_)
  refine x_iconst (v := 0) (pc := 14) dX12_isFed_14 (by decide) ?_
  obtain ⟨i3, hwp⟩ := hwp
  refine x_iaload (pc := 15) dX12_isFed_15 okb1 i3 ?_
  refine x_imul (pc := 16) dX12_isFed_16 ?_
  refine x_icmp_ge (tgt := 80) (pc := 17) dX12_isFed_17 (by decide) (fun c4 => ?_) (fun c4 => ?_)
  · have hwp := hwp.1 c4
    refine x_iconst (v := 1) (pc := 80) dX12_isFed_80 (by decide) ?_
    exact x_zret (pc := 81) dX12_isFed_81 rfl hex hnn hzz (by decide) ⟨_, rfl, by decide, hwp⟩
  · have hwp := hwp.2 c4
    refine x_aload_n (pc := 20) dX12_isFed_20 rfl ?_
    refine x_iload_n (pc := 21) dX12_isFed_21 rfl ?_
    refine x_iload (pc := 22) dX12_isFed_22 rfl ?_
    refine x_iadd (pc := 24) dX12_isFed_24 ?_
    refine x_invV (As := [.int (l2 + l7)]) (st := []) (pc := 25) dX12_isFed_25 lRX12_239 fX12_round vX12_round okl0 rfl (Nat.le_of_ble_eq_true rfl) (q_R (by omega) (by decide)) (q_C hnn hzz (by decide) (by decide)) (sn_X12_round G (d + 0) l0 (l2 + l7) h _ okl0 hwp) (k_i (fun r6 h5 hwp cxh5 => ?_))
    have hex := hex.tr cxh5.1
    have hnn : qn h5 = qn h0 + 0 := by have := cxh5.2.1; omega
    have hzz : qz h5 = qz h0 + 0 := by have := cxh5.2.2; omega
    have hx6 := hx6.tr cxh5.1
    have hn6 : qn h5 = qn hb := by have := cxh5.2.1; omega
    have hz6 : qz h5 = qz hb := by have := cxh5.2.2; omega
    have okl0 := okl0.ex cxh5.1
    have okb1 := okb1.ex cxh5.1
    refine x_istore (lv2 := [(8, .int r6), (0, .ref l0), (1, .int l1), (2, .int l2), (4, .int l4), (5, .int l5), (6, .int l6), (7, .int l7)]) (pc := 28) dX12_isFed_28 (by decide) rfl ?_
    refine x_iload (pc := 30) dX12_isFed_30 rfl ?_
    refine x_aload_n (pc := 32) dX12_isFed_32 rfl ?_
    obtain ⟨b7, e8, hwp⟩ := hwp
    refine x_getR (pc := 33) dX12_isFed_33 qRX12_33 okl0 e8 (fun okb7 => ?_)
    refine x_iload (pc := 36) dX12_isFed_36 rfl ?_
    obtain ⟨i9, hwp⟩ := hwp
    refine x_iaload (pc := 38) dX12_isFed_38 okb7 i9 ?_
    refine x_iload (pc := 39) dX12_isFed_39 rfl ?_
    refine x_iload_n (pc := 41) dX12_isFed_41 rfl ?_
    refine x_icmp_ne (tgt := 50) (pc := 42) dX12_isFed_42 (by decide) (fun c10 => ?_) (fun c10 => ?_)
    · have hwp := hwp.1 c10
      refine x_iconst (v := 0) (pc := 50) dX12_isFed_50 (by decide) ?_
      refine x_sub [1, 2, 3, 4, 5, 7, 0] rfl ?_
      exact sg_X12_isFed_51 G d h0 l0 l1 l2 l4 l5 l7 r6 0 (qI h5 b7 r6.toNatClampNeg) l6 h5 Q hb bk6 hbk6 hx6 hn6 hz6 hex hnn hzz okl0 hwp
    · have hwp := hwp.2 c10
      refine x_iload (pc := 45) dX12_isFed_45 rfl ?_
      refine x_goto (tgt := 51) (pc := 47) dX12_isFed_47 (by decide) ?_
      refine x_sub [1, 2, 3, 4, 5, 7, 0] rfl ?_
      exact sg_X12_isFed_51 G d h0 l0 l1 l2 l4 l5 l7 r6 l5 (qI h5 b7 r6.toNatClampNeg) l6 h5 Q hb bk6 hbk6 hx6 hn6 hz6 hex hnn hzz okl0 hwp
theorem lp_X12_isFed_6 (G : GT) (d : Nat) (h0 hb : PH) (l0 : Nat) (l1 : Int32) (l2 : Int32) (l4 : Int32) (l5 : Int32) (Q : Int32 → PH → Prop)  (hex : qEx h0 hb) (hnn : qn hb = qn h0 + 0) (hzz : qz hb = qz h0 + 0) (okl0 : qOK hb 11 l0) {s : Int32 × Int32 × PH} (hwp : qLoop (wp_X12_isFed_6 l0 l1 l2 l4 l5 Q) s) : E_X12_isFed_6 G d h0 hb l0 l1 l2 l4 l5 Q s :=
  qLoop.use (E := E_X12_isFed_6 G d h0 hb l0 l1 l2 l4 l5 Q) (fun back s hbk hw hx => bd_X12_isFed_6 G d h0 hb l0 l1 l2 l4 l5 Q hex hnn hzz okl0 back hbk s.1 s.2.1 s.2.2 hw hx.1 hx.2.1 hx.2.2) hwp
def wp_X12_isFed (l0 : Nat) (l1 : Int32) (l2 : Int32) (l3 : Int32) (l4 : Int32) (l5 : Int32) (h : PH) (Q : Int32 → PH → Prop) : Prop := (qLoop (wp_X12_isFed_6 l0 l1 l2 l4 l5 Q) (l3, 0, h))
set_option maxHeartbeats 4000000 in
set_option maxRecDepth 100000 in
theorem sn_X12_isFed (G : GT) (d : Nat) (l0 : Nat) (l1 : Int32) (l2 : Int32) (l3 : Int32) (l4 : Int32) (l5 : Int32) (h : PH) (Q : Int32 → PH → Prop) (okl0 : qOK h 11 l0) (hwp : wp_X12_isFed l0 l1 l2 l3 l4 l5 h Q) : Mt G (1 + d) 0 0 mX12_isFed [.ref l0, .int l1, .int l2, .int l3, .int l4, .int l5] h (qqb Q) := by
  unfold wp_X12_isFed at hwp
  refine Mt.of (by decide) rfl (Nat.le_of_ble_eq_true rfl) ?_
  have hex := qEx.rf h
  have hnn : qn h = qn h + 0 := rfl
  have hzz : qz h = qz h + 0 := rfl
  refine x_lvE (lv2 := [(0, .ref l0), (1, .int l1), (2, .int l2), (3, .int l3), (4, .int l4), (5, .int l5)]) rfl ?_
  refine x_iload_n (pc := 0) dX12_isFed_0 rfl ?_
  refine x_istore (lv2 := [(6, .int l3), (0, .ref l0), (1, .int l1), (2, .int l2), (3, .int l3), (4, .int l4), (5, .int l5)]) (pc := 1) dX12_isFed_1 (by decide) rfl ?_
  refine x_iconst (v := 0) (pc := 3) dX12_isFed_3 (by decide) ?_
  refine x_istore (lv2 := [(7, .int 0), (6, .int l3), (0, .ref l0), (1, .int l1), (2, .int l2), (3, .int l3), (4, .int l4), (5, .int l5)]) (pc := 4) dX12_isFed_4 (by decide) rfl ?_
  refine x_sub [2, 3, 4, 6, 7, 1, 0] rfl ?_
  exact lp_X12_isFed_6 G d h h l0 l1 l2 l4 l5 Q hex hnn hzz okl0 hwp ⟨qEx.rf _, rfl, rfl⟩

theorem dX12_feeding_0 : decode cX12_feeding 0 = .ok (.aload_n 0, 1) := by decide +kernel
theorem dX12_feeding_1 : decode cX12_feeding 1 = .ok (.iconst 0, 1) := by decide +kernel
theorem dX12_feeding_2 : decode cX12_feeding 2 = .ok (.putfield 75, 3) := by decide +kernel
theorem dX12_feeding_5 : decode cX12_feeding 5 = .ok (.aload_n 0, 1) := by decide +kernel
theorem dX12_feeding_6 : decode cX12_feeding 6 = .ok (.iload_n 1, 1) := by decide +kernel
theorem dX12_feeding_7 : decode cX12_feeding 7 = .ok (.invokevirtual 259, 3) := by decide +kernel
theorem dX12_feeding_10 : decode cX12_feeding 10 = .ok (.ifCond .eq 34, 3) := by decide +kernel
theorem dX12_feeding_13 : decode cX12_feeding 13 = .ok (.aload_n 0, 1) := by decide +kernel
theorem dX12_feeding_14 : decode cX12_feeding 14 = .ok (.iload_n 2, 1) := by decide +kernel
theorem dX12_feeding_15 : decode cX12_feeding 15 = .ok (.invokevirtual 259, 3) := by decide +kernel
theorem dX12_feeding_18 : decode cX12_feeding 18 = .ok (.ifCond .eq 26, 3) := by decide +kernel
theorem dX12_feeding_21 : decode cX12_feeding 21 = .ok (.iload_n 3, 1) := by decide +kernel
theorem dX12_feeding_22 : decode cX12_feeding 22 = .ok (.iconst 0, 1) := by decide +kernel
theorem dX12_feeding_23 : decode cX12_feeding 23 = .ok (.ldc_w 298, 3) := by decide +kernel
theorem dX12_feeding_26 : decode cX12_feeding 26 = .ok (.invokestatic 139, 3) := by decide +kernel
theorem dX12_feeding_29 : decode cX12_feeding 29 = .ok (.ifCond .eq 15, 3) := by decide +kernel
theorem dX12_feeding_32 : decode cX12_feeding 32 = .ok (.iload 4, 2) := by decide +kernel
theorem dX12_feeding_34 : decode cX12_feeding 34 = .ok (.iconst 0, 1) := by decide +kernel
theorem dX12_feeding_35 : decode cX12_feeding 35 = .ok (.sipush 9999, 3) := by decide +kernel
theorem dX12_feeding_38 : decode cX12_feeding 38 = .ok (.invokestatic 139, 3) := by decide +kernel
theorem dX12_feeding_41 : decode cX12_feeding 41 = .ok (.ifCond .ne 6, 3) := by decide +kernel
theorem dX12_feeding_44 : decode cX12_feeding 44 = .ok (.bipush (-2), 2) := by decide +kernel
theorem dX12_feeding_46 : decode cX12_feeding 46 = .ok (.ireturn, 1) := by decide +kernel
theorem dX12_feeding_47 : decode cX12_feeding 47 = .ok (.aload_n 0, 1) := by decide +kernel
theorem dX12_feeding_48 : decode cX12_feeding 48 = .ok (.iconst 0, 1) := by decide +kernel
theorem dX12_feeding_49 : decode cX12_feeding 49 = .ok (.invokevirtual 299, 3) := by decide +kernel
theorem dX12_feeding_52 : decode cX12_feeding 52 = .ok (.iconst 1, 1) := by decide +kernel
theorem dX12_feeding_53 : decode cX12_feeding 53 = .ok (.istore 5, 2) := by decide +kernel
theorem dX12_feeding_55 : decode cX12_feeding 55 = .ok (.iload 5, 2) := by decide +kernel
theorem dX12_feeding_57 : decode cX12_feeding 57 = .ok (.sipush 1000, 3) := by decide +kernel
theorem dX12_feeding_60 : decode cX12_feeding 60 = .ok (.if_icmp .ge 26, 3) := by decide +kernel
theorem dX12_feeding_63 : decode cX12_feeding 63 = .ok (.aload_n 0, 1) := by decide +kernel
theorem dX12_feeding_64 : decode cX12_feeding 64 = .ok (.iload_n 1, 1) := by decide +kernel
theorem dX12_feeding_65 : decode cX12_feeding 65 = .ok (.iload_n 2, 1) := by decide +kernel
theorem dX12_feeding_66 : decode cX12_feeding 66 = .ok (.iload_n 3, 1) := by decide +kernel
theorem dX12_feeding_67 : decode cX12_feeding 67 = .ok (.iload 4, 2) := by decide +kernel
theorem dX12_feeding_69 : decode cX12_feeding 69 = .ok (.iload 5, 2) := by decide +kernel
theorem dX12_feeding_71 : decode cX12_feeding 71 = .ok (.invokevirtual 405, 3) := by decide +kernel
theorem dX12_feeding_74 : decode cX12_feeding 74 = .ok (.ifCond .eq 6, 3) := by decide +kernel
theorem dX12_feeding_77 : decode cX12_feeding 77 = .ok (.iload 5, 2) := by decide +kernel
theorem dX12_feeding_79 : decode cX12_feeding 79 = .ok (.ireturn, 1) := by decide +kernel
theorem dX12_feeding_80 : decode cX12_feeding 80 = .ok (.iinc 5 1, 3) := by decide +kernel
theorem dX12_feeding_83 : decode cX12_feeding 83 = .ok (.goto (-28), 3) := by decide +kernel
theorem dX12_feeding_86 : decode cX12_feeding 86 = .ok (.iconst (-1), 1) := by decide +kernel
theorem dX12_feeding_87 : decode cX12_feeding 87 = .ok (.ireturn, 1) := by decide +kernel
def E_X12_feeding_55 (G : GT) (d : Nat) (h0 hb : PH) (l0 : Nat) (l1 : Int32) (l2 : Int32) (l3 : Int32) (l4 : Int32) (Q : Int32 → PH → Prop) (s : Int32 × PH) : Prop := qEx hb s.2 ∧ qn s.2 = qn hb ∧ qz s.2 = qz hb → Ex G (qrm (6 + d) 0 0) mX12_feeding (qn h0) (qz h0) (ZN G h0 0 0 (qqi Q)) 55 [(0, .ref l0), (1, .int l1), (2, .int l2), (3, .int l3), (4, .int l4), (5, .int s.1)] [] s.2
def wb_X12_feeding_55 (l0 : Nat) (l1 : Int32) (l2 : Int32) (l3 : Int32) (l4 : Int32)  (Q : Int32 → PH → Prop) (bk55 : Int32 × PH → Prop) (l5 : Int32) (h : PH) : Prop := ((1000 ≤ l5 → Q (-1) h) ∧ (¬ (1000 ≤ l5) → (wp_X12_isFed l0 l1 l2 l3 l4 l5 h (fun r18 h17 => ((r18 = 0 → ∀ v20 : Int32, v20 = l5 + 1 → bk55 (v20, h17)) ∧ (¬ (r18 = 0) → Q l5 h17))))))
def wp_X12_feeding_55 (l0 : Nat) (l1 : Int32) (l2 : Int32) (l3 : Int32) (l4 : Int32)  (Q : Int32 → PH → Prop) (bk55 : Int32 × PH → Prop) (s : Int32 × PH) : Prop := wb_X12_feeding_55 l0 l1 l2 l3 l4 Q bk55 s.1 s.2
set_option maxHeartbeats 4000000 in
set_option maxRecDepth 100000 in
theorem bd_X12_feeding_55 (G : GT) (d : Nat) (h0 hb : PH) (l0 : Nat) (l1 : Int32) (l2 : Int32) (l3 : Int32) (l4 : Int32) (Q : Int32 → PH → Prop)  (hex : qEx h0 hb) (hnn : qn hb = qn h0 + 0) (hzz : qz hb = qz h0 + 0) (okl0 : qOK hb 11 l0) (bk55 : Int32 × PH → Prop) (hbk55 : ∀ s2, bk55 s2 → E_X12_feeding_55 G d h0 hb l0 l1 l2 l3 l4 Q s2) (l5 : Int32) (h : PH) (hwp : wb_X12_feeding_55 l0 l1 l2 l3 l4 Q bk55 l5 h) (hx55 : qEx hb h) (hn55 : qn h = qn hb) (hz55 : qz h = qz hb) : Ex G (qrm (6 + d) 0 0) mX12_feeding (qn h0) (qz h0) (ZN G h0 0 0 (qqi Q)) 55 [(0, .ref l0), (1, .int l1), (2, .int l2), (3, .int l3), (4, .int l4), (5, .int l5)] [] h := by
  unfold wb_X12_feeding_55 at hwp
  have hex := hex.tr hx55
  have hnn := hn55.trans hnn
  have hzz := hz55.trans hzz
  have okl0 := okl0.ex hx55
  refine x_iload (pc := 55) dX12_feeding_55 rfl ?_
  refine x_sipush (v := 1000) (pc := 57) dX12_feeding_57 (by decide) ?_
  refine x_icmp_ge (tgt := 86) (pc := 60) dX12_feeding_60 (by decide) (fun c16 => ?_) (fun c16 => ?_)
  · have hwp := hwp.1 c16
    refine x_iconst (v := (-1)) (pc := 86) dX12_feeding_86 (by decide) ?_
    exact x_iret (pc := 87) dX12_feeding_87 rfl hex hnn hzz ⟨_, rfl, hwp⟩
  · have hwp := hwp.2 c16
    refine x_aload_n (pc := 63) dX12_feeding_63 rfl ?_
    refine x_iload_n (pc := 64) dX12_feeding_64 rfl ?_
    refine x_iload_n (pc := 65) dX12_feeding_65 rfl ?_
    refine x_iload_n (pc := 66) dX12_feeding_66 rfl ?_
    refine x_iload (pc := 67) dX12_feeding_67 rfl ?_
    refine x_iload (pc := 69) dX12_feeding_69 rfl ?_
    refine x_invV (As := [.int l1, .int l2, .int l3, .int l4, .int l5]) (st := []) (pc := 71) dX12_feeding_71 lRX12_405 fX12_isFed vX12_isFed okl0 rfl (Nat.le_of_ble_eq_true rfl) (q_R (by omega) (by decide)) (q_C hnn hzz (by decide) (by decide)) (sn_X12_isFed G (d + 4) l0 l1 l2 l3 l4 l5 h _ okl0 hwp) (k_b (fun r18 h17 hwp zbr18 cxh17 => ?_))
    have hex := hex.tr cxh17.1
    have hnn : qn h17 = qn h0 + 0 := by have := cxh17.2.1; omega
    have hzz : qz h17 = qz h0 + 0 := by have := cxh17.2.2; omega
    have hx55 := hx55.tr cxh17.1
    have hn55 : qn h17 = qn hb := by have := cxh17.2.1; omega
    have hz55 : qz h17 = qz hb := by have := cxh17.2.2; omega
    have okl0 := okl0.ex cxh17.1
    refine x_if_eq (tgt := 80) (pc := 74) dX12_feeding_74 (by decide) (fun c19 => ?_) (fun c19 => ?_)
    · have hwp := hwp.1 c19
      refine y_iinc (c := 1) (pc := 80) dX12_feeding_80 rfl (by decide) (by decide) (fun v20 ev20 => ?_)
      have hwp := hwp v20 ev20
      refine x_lvE (lv2 := [(5, .int v20), (0, .ref l0), (1, .int l1), (2, .int l2), (3, .int l3), (4, .int l4)]) rfl ?_
      refine x_goto (tgt := 55) (pc := 83) dX12_feeding_83 (by decide) ?_
      refine x_sub [1, 2, 3, 4, 5, 0] rfl ?_
      exact hbk55 _ hwp ⟨hx55, hn55, hz55⟩
    · have hwp := hwp.2 c19
      refine x_iload (pc := 77) dX12_feeding_77 rfl ?_
      exact x_iret (pc := 79) dX12_feeding_79 rfl hex hnn hzz ⟨_, rfl, hwp⟩
theorem lp_X12_feeding_55 (G : GT) (d : Nat) (h0 hb : PH) (l0 : Nat) (l1 : Int32) (l2 : Int32) (l3 : Int32) (l4 : Int32) (Q : Int32 → PH → Prop)  (hex : qEx h0 hb) (hnn : qn hb = qn h0 + 0) (hzz : qz hb = qz h0 + 0) (okl0 : qOK hb 11 l0) {s : Int32 × PH} (hwp : qLoop (wp_X12_feeding_55 l0 l1 l2 l3 l4 Q) s) : E_X12_feeding_55 G d h0 hb l0 l1 l2 l3 l4 Q s :=
  qLoop.use (E := E_X12_feeding_55 G d h0 hb l0 l1 l2 l3 l4 Q) (fun back s hbk hw hx => bd_X12_feeding_55 G d h0 hb l0 l1 l2 l3 l4 Q hex hnn hzz okl0 back hbk s.1 s.2 hw hx.1 hx.2.1 hx.2.2) hwp
def wp_X12_feeding (l0 : Nat) (l1 : Int32) (l2 : Int32) (l3 : Int32) (l4 : Int32) (h : PH) (Q : Int32 → PH → Prop) : Prop := (∀ h1, h1 = qsI h l0 0 0 → (wp_X12_isTime l0 l1 h1 (fun r3 h2 => ((r3 = 0 → Q (-2) h2) ∧ (¬ (r3 = 0) → (wp_X12_isTime l0 l2 h2 (fun r6 h5 => ((r6 = 0 → Q (-2) h5) ∧ (¬ (r6 = 0) → (wp_X12_isIn l3 0 100000 h5 (fun r9 h8 => ((r9 = 0 → Q (-2) h8) ∧ (¬ (r9 = 0) → (wp_X12_isIn l4 0 9999 h8 (fun r12 h11 => ((¬ r12 = 0 → (wp_X12_layWorld l0 0 h11 (fun h14 => (qLoop (wp_X12_feeding_55 l0 l1 l2 l3 l4 Q) (1, h14))))) ∧ (r12 = 0 → Q (-2) h11)))))))))))))))))
set_option maxHeartbeats 4000000 in
set_option maxRecDepth 100000 in
theorem sn_X12_feeding (G : GT) (d : Nat) (l0 : Nat) (l1 : Int32) (l2 : Int32) (l3 : Int32) (l4 : Int32) (h : PH) (Q : Int32 → PH → Prop) (okl0 : qOK h 11 l0) (hwp : wp_X12_feeding l0 l1 l2 l3 l4 h Q) : Mt G (6 + d) 0 0 mX12_feeding [.ref l0, .int l1, .int l2, .int l3, .int l4] h (qqi Q) := by
  unfold wp_X12_feeding at hwp
  refine Mt.of (by decide) rfl (Nat.le_of_ble_eq_true rfl) ?_
  have hex := qEx.rf h
  have hnn : qn h = qn h + 0 := rfl
  have hzz : qz h = qz h + 0 := rfl
  refine x_lvE (lv2 := [(0, .ref l0), (1, .int l1), (2, .int l2), (3, .int l3), (4, .int l4)]) rfl ?_
  refine x_aload_n (pc := 0) dX12_feeding_0 rfl ?_
  refine x_iconst (v := 0) (pc := 1) dX12_feeding_1 (by decide) ?_
  refine y_putI (pc := 2) dX12_feeding_2 qRX12_75 okl0 (fun h1 eh1 nxh1 => ?_)
  have hwp := hwp h1 eh1
  have hex := hex.tr nxh1.1
  have hnn := nxh1.2.1.trans hnn
  have hzz := nxh1.2.2.trans hzz
  have okl0 := okl0.ex nxh1.1
  refine x_aload_n (pc := 5) dX12_feeding_5 rfl ?_
  refine x_iload_n (pc := 6) dX12_feeding_6 rfl ?_
  refine x_invV (As := [.int l1]) (st := []) (pc := 7) dX12_feeding_7 lRX12_259 fX12_isTime vX12_isTime okl0 rfl (Nat.le_of_ble_eq_true rfl) (q_R (by omega) (by decide)) (q_C hnn hzz (by decide) (by decide)) (sn_X12_isTime G (d + 4) l0 l1 h1 _ okl0 hwp) (k_b (fun r3 h2 hwp zbr3 cxh2 => ?_))
  have hex := hex.tr cxh2.1
  have hnn : qn h2 = qn h + 0 := by have := cxh2.2.1; omega
  have hzz : qz h2 = qz h + 0 := by have := cxh2.2.2; omega
  have okl0 := okl0.ex cxh2.1
  refine x_if_eq (tgt := 44) (pc := 10) dX12_feeding_10 (by decide) (fun c4 => ?_) (fun c4 => ?_)
  · have hwp := hwp.1 c4
    refine x_bipush (v := (-2)) (pc := 44) dX12_feeding_44 (by decide) ?_
    exact x_iret (pc := 46) dX12_feeding_46 rfl hex hnn hzz ⟨_, rfl, hwp⟩
  · have hwp := hwp.2 c4
    refine x_aload_n (pc := 13) dX12_feeding_13 rfl ?_
    refine x_iload_n (pc := 14) dX12_feeding_14 rfl ?_
    refine x_invV (As := [.int l2]) (st := []) (pc := 15) dX12_feeding_15 lRX12_259 fX12_isTime vX12_isTime okl0 rfl (Nat.le_of_ble_eq_true rfl) (q_R (by omega) (by decide)) (q_C hnn hzz (by decide) (by decide)) (sn_X12_isTime G (d + 4) l0 l2 h2 _ okl0 hwp) (k_b (fun r6 h5 hwp zbr6 cxh5 => ?_))
    have hex := hex.tr cxh5.1
    have hnn : qn h5 = qn h + 0 := by have := cxh5.2.1; omega
    have hzz : qz h5 = qz h + 0 := by have := cxh5.2.2; omega
    have okl0 := okl0.ex cxh5.1
    refine x_if_eq (tgt := 44) (pc := 18) dX12_feeding_18 (by decide) (fun c7 => ?_) (fun c7 => ?_)
    · have hwp := hwp.1 c7
      refine x_bipush (v := (-2)) (pc := 44) dX12_feeding_44 (by decide) ?_
      exact x_iret (pc := 46) dX12_feeding_46 rfl hex hnn hzz ⟨_, rfl, hwp⟩
    · have hwp := hwp.2 c7
      refine x_iload_n (pc := 21) dX12_feeding_21 rfl ?_
      refine x_iconst (v := 0) (pc := 22) dX12_feeding_22 (by decide) ?_
      refine x_ldcw (v := 100000) (pc := 23) dX12_feeding_23 kRX12_298 ?_
      refine x_invS (As := [.int l3, .int 0, .int 100000]) (st := []) (pc := 26) dX12_feeding_26 lRX12_139 fX12_isIn sX12_isIn rfl (Nat.le_of_ble_eq_true rfl) (q_R (by omega) (by decide)) (q_C hnn hzz (by decide) (by decide)) (sn_X12_isIn G (d + 5) l3 0 100000 h5 _  hwp) (k_b (fun r9 h8 hwp zbr9 cxh8 => ?_))
      have hex := hex.tr cxh8.1
      have hnn : qn h8 = qn h + 0 := by have := cxh8.2.1; omega
      have hzz : qz h8 = qz h + 0 := by have := cxh8.2.2; omega
      have okl0 := okl0.ex cxh8.1
      refine x_if_eq (tgt := 44) (pc := 29) dX12_feeding_29 (by decide) (fun c10 => ?_) (fun c10 => ?_)
      · have hwp := hwp.1 c10
        refine x_bipush (v := (-2)) (pc := 44) dX12_feeding_44 (by decide) ?_
        exact x_iret (pc := 46) dX12_feeding_46 rfl hex hnn hzz ⟨_, rfl, hwp⟩
      · have hwp := hwp.2 c10
        refine x_iload (pc := 32) dX12_feeding_32 rfl ?_
        refine x_iconst (v := 0) (pc := 34) dX12_feeding_34 (by decide) ?_
        refine x_sipush (v := 9999) (pc := 35) dX12_feeding_35 (by decide) ?_
        refine x_invS (As := [.int l4, .int 0, .int 9999]) (st := []) (pc := 38) dX12_feeding_38 lRX12_139 fX12_isIn sX12_isIn rfl (Nat.le_of_ble_eq_true rfl) (q_R (by omega) (by decide)) (q_C hnn hzz (by decide) (by decide)) (sn_X12_isIn G (d + 5) l4 0 9999 h8 _  hwp) (k_b (fun r12 h11 hwp zbr12 cxh11 => ?_))
        have hex := hex.tr cxh11.1
        have hnn : qn h11 = qn h + 0 := by have := cxh11.2.1; omega
        have hzz : qz h11 = qz h + 0 := by have := cxh11.2.2; omega
        have okl0 := okl0.ex cxh11.1
        refine x_if_ne (tgt := 47) (pc := 41) dX12_feeding_41 (by decide) (fun c13 => ?_) (fun c13 => ?_)
        · have hwp := hwp.1 c13
          refine x_aload_n (pc := 47) dX12_feeding_47 rfl ?_
          refine x_iconst (v := 0) (pc := 48) dX12_feeding_48 (by decide) ?_
          refine x_invV (As := [.int 0]) (st := []) (pc := 49) dX12_feeding_49 lRX12_299 fX12_layWorld vX12_layWorld okl0 rfl (Nat.le_of_ble_eq_true rfl) (q_R (by omega) (by decide)) (q_C hnn hzz (by decide) (by decide)) (sn_X12_layWorld G (d + 0) l0 0 h11 _ okl0 hwp) (k_v (fun h14 hwp cxh14 => ?_))
          have hex := hex.tr cxh14.1
          have hnn : qn h14 = qn h + 0 := by have := cxh14.2.1; omega
          have hzz : qz h14 = qz h + 0 := by have := cxh14.2.2; omega
          have okl0 := okl0.ex cxh14.1
          refine x_iconst (v := 1) (pc := 52) dX12_feeding_52 (by decide) ?_
          refine x_istore (lv2 := [(5, .int 1), (0, .ref l0), (1, .int l1), (2, .int l2), (3, .int l3), (4, .int l4)]) (pc := 53) dX12_feeding_53 (by decide) rfl ?_
          refine x_sub [1, 2, 3, 4, 5, 0] rfl ?_
          exact lp_X12_feeding_55 G d h h14 l0 l1 l2 l3 l4 Q hex hnn hzz okl0 hwp ⟨qEx.rf _, rfl, rfl⟩
        · have hwp := hwp.2 c13
          refine x_bipush (v := (-2)) (pc := 44) dX12_feeding_44 (by decide) ?_
          exact x_iret (pc := 46) dX12_feeding_46 rfl hex hnn hzz ⟨_, rfl, hwp⟩

theorem dX12_invent_0 : decode cX12_invent 0 = .ok (.iconst 0, 1) := by decide +kernel
theorem dX12_invent_1 : decode cX12_invent 1 = .ok (.istore_n 2, 1) := by decide +kernel
theorem dX12_invent_2 : decode cX12_invent 2 = .ok (.iload_n 2, 1) := by decide +kernel
theorem dX12_invent_3 : decode cX12_invent 3 = .ok (.bipush 70, 2) := by decide +kernel
theorem dX12_invent_5 : decode cX12_invent 5 = .ok (.if_icmp .ge 18, 3) := by decide +kernel
theorem dX12_invent_8 : decode cX12_invent 8 = .ok (.aload_n 0, 1) := by decide +kernel
theorem dX12_invent_9 : decode cX12_invent 9 = .ok (.getfield 66, 3) := by decide +kernel
theorem dX12_invent_12 : decode cX12_invent 12 = .ok (.iload_n 1, 1) := by decide +kernel
theorem dX12_invent_13 : decode cX12_invent 13 = .ok (.iload_n 2, 1) := by decide +kernel
theorem dX12_invent_14 : decode cX12_invent 14 = .ok (.iadd, 1) := by decide +kernel
theorem dX12_invent_15 : decode cX12_invent 15 = .ok (.iconst (-1), 1) := by decide +kernel
theorem dX12_invent_16 : decode cX12_invent 16 = .ok (.iastore, 1) := by decide +kernel
theorem dX12_invent_17 : decode cX12_invent 17 = .ok (.iinc 2 1, 3) := by decide +kernel
theorem dX12_invent_20 : decode cX12_invent 20 = .ok (.goto (-18), 3) := by decide +kernel
theorem dX12_invent_23 : decode cX12_invent 23 = .ok (.return_, 1) := by decide +kernel
def E_X12_invent_2 (G : GT) (d : Nat) (h0 hb : PH) (l0 : Nat) (l1 : Int32) (Q : PH → Prop) (s : Int32 × PH) : Prop := qEx hb s.2 ∧ qn s.2 = qn hb ∧ qz s.2 = qz hb → Ex G (qrm (0 + d) 0 0) mX12_invent (qn h0) (qz h0) (ZN G h0 0 0 (qqv Q)) 2 [(0, .ref l0), (1, .int l1), (2, .int s.1)] [] s.2
def wb_X12_invent_2 (l0 : Nat) (l1 : Int32)  (Q : PH → Prop) (bk2 : Int32 × PH → Prop) (l2 : Int32) (h : PH) : Prop := ((70 ≤ l2 → Q h) ∧ (¬ (70 ≤ l2) → (∃ b2, qR h l0 57 = some b2 ∧ (vp_in (l1 + l2) (qL h b2) ∧ ∀ h4, h4 = qsI h b2 (l1 + l2).toNatClampNeg (-1) → ∀ v6 : Int32, v6 = l2 + 1 → bk2 (v6, h4)))))
def wp_X12_invent_2 (l0 : Nat) (l1 : Int32)  (Q : PH → Prop) (bk2 : Int32 × PH → Prop) (s : Int32 × PH) : Prop := wb_X12_invent_2 l0 l1 Q bk2 s.1 s.2
set_option maxHeartbeats 4000000 in
set_option maxRecDepth 100000 in
theorem bd_X12_invent_2 (G : GT) (d : Nat) (h0 hb : PH) (l0 : Nat) (l1 : Int32) (Q : PH → Prop)  (hex : qEx h0 hb) (hnn : qn hb = qn h0 + 0) (hzz : qz hb = qz h0 + 0) (okl0 : qOK hb 11 l0) (bk2 : Int32 × PH → Prop) (hbk2 : ∀ s2, bk2 s2 → E_X12_invent_2 G d h0 hb l0 l1 Q s2) (l2 : Int32) (h : PH) (hwp : wb_X12_invent_2 l0 l1 Q bk2 l2 h) (hx2 : qEx hb h) (hn2 : qn h = qn hb) (hz2 : qz h = qz hb) : Ex G (qrm (0 + d) 0 0) mX12_invent (qn h0) (qz h0) (ZN G h0 0 0 (qqv Q)) 2 [(0, .ref l0), (1, .int l1), (2, .int l2)] [] h := by
  unfold wb_X12_invent_2 at hwp
  have hex := hex.tr hx2
  have hnn := hn2.trans hnn
  have hzz := hz2.trans hzz
  have okl0 := okl0.ex hx2
  refine x_iload_n (pc := 2) dX12_invent_2 rfl ?_
  refine x_bipush (v := 70) (pc := 3) dX12_invent_3 (by decide) ?_
  refine x_icmp_ge (tgt := 23) (pc := 5) dX12_invent_5 (by decide) (fun c1 => ?_) (fun c1 => ?_)
  · have hwp := hwp.1 c1
    exact x_vret (pc := 23) dX12_invent_23 rfl hex hnn hzz ⟨rfl, hwp⟩
  · have hwp := hwp.2 c1
    refine x_aload_n (pc := 8) dX12_invent_8 rfl ?_
    obtain ⟨b2, e3, hwp⟩ := hwp
    refine x_getR (pc := 9) dX12_invent_9 qRX12_66 okl0 e3 (fun okb2 => ?_)
    refine x_iload_n (pc := 12) dX12_invent_12 rfl ?_
    refine x_iload_n (pc := 13) dX12_invent_13 rfl ?_
    refine x_iadd (pc := 14) dX12_invent_14 ?_
    refine x_iconst (v := (-1)) (pc := 15) dX12_invent_15 (by decide) ?_
    obtain ⟨i5, hwp⟩ := hwp
    refine y_iastore (pc := 16) dX12_invent_16 okb2 i5 (fun h4 eh4 nxh4 => ?_)
    have hwp := hwp h4 eh4
    have hex := hex.tr nxh4.1
    have hnn := nxh4.2.1.trans hnn
    have hzz := nxh4.2.2.trans hzz
    have hx2 := hx2.tr nxh4.1
    have hn2 := nxh4.2.1.trans hn2
    have hz2 := nxh4.2.2.trans hz2
    have okl0 := okl0.ex nxh4.1
    have okb2 := okb2.ex nxh4.1
    refine y_iinc (c := 1) (pc := 17) dX12_invent_17 rfl (by decide) (by decide) (fun v6 ev6 => ?_)
    have hwp := hwp v6 ev6
    refine x_lvE (lv2 := [(2, .int v6), (0, .ref l0), (1, .int l1)]) rfl ?_
    refine x_goto (tgt := 2) (pc := 20) dX12_invent_20 (by decide) ?_
    refine x_sub [1, 2, 0] rfl ?_
    exact hbk2 _ hwp ⟨hx2, hn2, hz2⟩
theorem lp_X12_invent_2 (G : GT) (d : Nat) (h0 hb : PH) (l0 : Nat) (l1 : Int32) (Q : PH → Prop)  (hex : qEx h0 hb) (hnn : qn hb = qn h0 + 0) (hzz : qz hb = qz h0 + 0) (okl0 : qOK hb 11 l0) {s : Int32 × PH} (hwp : qLoop (wp_X12_invent_2 l0 l1 Q) s) : E_X12_invent_2 G d h0 hb l0 l1 Q s :=
  qLoop.use (E := E_X12_invent_2 G d h0 hb l0 l1 Q) (fun back s hbk hw hx => bd_X12_invent_2 G d h0 hb l0 l1 Q hex hnn hzz okl0 back hbk s.1 s.2 hw hx.1 hx.2.1 hx.2.2) hwp
def wp_X12_invent (l0 : Nat) (l1 : Int32) (h : PH) (Q : PH → Prop) : Prop := (qLoop (wp_X12_invent_2 l0 l1 Q) (0, h))
set_option maxHeartbeats 4000000 in
set_option maxRecDepth 100000 in
theorem sn_X12_invent (G : GT) (d : Nat) (l0 : Nat) (l1 : Int32) (h : PH) (Q : PH → Prop) (okl0 : qOK h 11 l0) (hwp : wp_X12_invent l0 l1 h Q) : Mt G (0 + d) 0 0 mX12_invent [.ref l0, .int l1] h (qqv Q) := by
  unfold wp_X12_invent at hwp
  refine Mt.of (by decide) rfl (Nat.le_of_ble_eq_true rfl) ?_
  have hex := qEx.rf h
  have hnn : qn h = qn h + 0 := rfl
  have hzz : qz h = qz h + 0 := rfl
  refine x_lvE (lv2 := [(0, .ref l0), (1, .int l1)]) rfl ?_
  refine x_iconst (v := 0) (pc := 0) dX12_invent_0 (by decide) ?_
  refine x_istore_n (lv2 := [(2, .int 0), (0, .ref l0), (1, .int l1)]) (pc := 1) dX12_invent_1 (by decide) rfl ?_
  refine x_sub [1, 2, 0] rfl ?_
  exact lp_X12_invent_2 G d h h l0 l1 Q hex hnn hzz okl0 hwp ⟨qEx.rf _, rfl, rfl⟩

theorem dX12_sayingAtHand_0 : decode cX12_sayingAtHand 0 = .ok (.aload_n 0, 1) := by decide +kernel
theorem dX12_sayingAtHand_1 : decode cX12_sayingAtHand 1 = .ok (.bipush 99, 2) := by decide +kernel
theorem dX12_sayingAtHand_3 : decode cX12_sayingAtHand 3 = .ok (.bipush 111, 2) := by decide +kernel
theorem dX12_sayingAtHand_5 : decode cX12_sayingAtHand 5 = .ok (.bipush 117, 2) := by decide +kernel
theorem dX12_sayingAtHand_7 : decode cX12_sayingAtHand 7 = .ok (.bipush 110, 2) := by decide +kernel
theorem dX12_sayingAtHand_9 : decode cX12_sayingAtHand 9 = .ok (.bipush 116, 2) := by decide +kernel
theorem dX12_sayingAtHand_11 : decode cX12_sayingAtHand 11 = .ok (.invokestatic 126, 3) := by decide +kernel
theorem dX12_sayingAtHand_14 : decode cX12_sayingAtHand 14 = .ok (.invokevirtual 149, 3) := by decide +kernel
theorem dX12_sayingAtHand_17 : decode cX12_sayingAtHand 17 = .ok (.ifCond .eq 5, 3) := by decide +kernel
theorem dX12_sayingAtHand_20 : decode cX12_sayingAtHand 20 = .ok (.iconst 0, 1) := by decide +kernel
theorem dX12_sayingAtHand_21 : decode cX12_sayingAtHand 21 = .ok (.ireturn, 1) := by decide +kernel
theorem dX12_sayingAtHand_22 : decode cX12_sayingAtHand 22 = .ok (.aload_n 0, 1) := by decide +kernel
theorem dX12_sayingAtHand_23 : decode cX12_sayingAtHand 23 = .ok (.invokevirtual 171, 3) := by decide +kernel
theorem dX12_sayingAtHand_26 : decode cX12_sayingAtHand 26 = .ok (.ifCond .eq 5, 3) := by decide +kernel
theorem dX12_sayingAtHand_29 : decode cX12_sayingAtHand 29 = .ok (.iconst 1, 1) := by decide +kernel
theorem dX12_sayingAtHand_30 : decode cX12_sayingAtHand 30 = .ok (.ireturn, 1) := by decide +kernel
theorem dX12_sayingAtHand_31 : decode cX12_sayingAtHand 31 = .ok (.aload_n 0, 1) := by decide +kernel
theorem dX12_sayingAtHand_32 : decode cX12_sayingAtHand 32 = .ok (.bipush 100, 2) := by decide +kernel
theorem dX12_sayingAtHand_34 : decode cX12_sayingAtHand 34 = .ok (.bipush 111, 2) := by decide +kernel
theorem dX12_sayingAtHand_36 : decode cX12_sayingAtHand 36 = .ok (.bipush 111, 2) := by decide +kernel
theorem dX12_sayingAtHand_38 : decode cX12_sayingAtHand 38 = .ok (.bipush 114, 2) := by decide +kernel
theorem dX12_sayingAtHand_40 : decode cX12_sayingAtHand 40 = .ok (.iconst 0, 1) := by decide +kernel
theorem dX12_sayingAtHand_41 : decode cX12_sayingAtHand 41 = .ok (.invokestatic 126, 3) := by decide +kernel
theorem dX12_sayingAtHand_44 : decode cX12_sayingAtHand 44 = .ok (.invokevirtual 149, 3) := by decide +kernel
theorem dX12_sayingAtHand_47 : decode cX12_sayingAtHand 47 = .ok (.ifCond .eq 5, 3) := by decide +kernel
theorem dX12_sayingAtHand_50 : decode cX12_sayingAtHand 50 = .ok (.iconst 2, 1) := by decide +kernel
theorem dX12_sayingAtHand_51 : decode cX12_sayingAtHand 51 = .ok (.ireturn, 1) := by decide +kernel
theorem dX12_sayingAtHand_52 : decode cX12_sayingAtHand 52 = .ok (.aload_n 0, 1) := by decide +kernel
theorem dX12_sayingAtHand_53 : decode cX12_sayingAtHand 53 = .ok (.bipush 109, 2) := by decide +kernel
theorem dX12_sayingAtHand_55 : decode cX12_sayingAtHand 55 = .ok (.bipush 111, 2) := by decide +kernel
theorem dX12_sayingAtHand_57 : decode cX12_sayingAtHand 57 = .ok (.bipush 100, 2) := by decide +kernel
theorem dX12_sayingAtHand_59 : decode cX12_sayingAtHand 59 = .ok (.bipush 101, 2) := by decide +kernel
theorem dX12_sayingAtHand_61 : decode cX12_sayingAtHand 61 = .ok (.bipush 108, 2) := by decide +kernel
theorem dX12_sayingAtHand_63 : decode cX12_sayingAtHand 63 = .ok (.invokestatic 126, 3) := by decide +kernel
theorem dX12_sayingAtHand_66 : decode cX12_sayingAtHand 66 = .ok (.invokevirtual 149, 3) := by decide +kernel
theorem dX12_sayingAtHand_69 : decode cX12_sayingAtHand 69 = .ok (.ifCond .eq 5, 3) := by decide +kernel
theorem dX12_sayingAtHand_72 : decode cX12_sayingAtHand 72 = .ok (.iconst 3, 1) := by decide +kernel
theorem dX12_sayingAtHand_73 : decode cX12_sayingAtHand 73 = .ok (.ireturn, 1) := by decide +kernel
theorem dX12_sayingAtHand_74 : decode cX12_sayingAtHand 74 = .ok (.aload_n 0, 1) := by decide +kernel
theorem dX12_sayingAtHand_75 : decode cX12_sayingAtHand 75 = .ok (.invokevirtual 175, 3) := by decide +kernel
theorem dX12_sayingAtHand_78 : decode cX12_sayingAtHand 78 = .ok (.ifCond .eq 5, 3) := by decide +kernel
theorem dX12_sayingAtHand_81 : decode cX12_sayingAtHand 81 = .ok (.iconst 4, 1) := by decide +kernel
theorem dX12_sayingAtHand_82 : decode cX12_sayingAtHand 82 = .ok (.ireturn, 1) := by decide +kernel
theorem dX12_sayingAtHand_83 : decode cX12_sayingAtHand 83 = .ok (.aload_n 0, 1) := by decide +kernel
theorem dX12_sayingAtHand_84 : decode cX12_sayingAtHand 84 = .ok (.invokestatic 163, 3) := by decide +kernel
theorem dX12_sayingAtHand_87 : decode cX12_sayingAtHand 87 = .ok (.invokevirtual 149, 3) := by decide +kernel
theorem dX12_sayingAtHand_90 : decode cX12_sayingAtHand 90 = .ok (.ifCond .eq 5, 3) := by decide +kernel
theorem dX12_sayingAtHand_93 : decode cX12_sayingAtHand 93 = .ok (.iconst 5, 1) := by decide +kernel
theorem dX12_sayingAtHand_94 : decode cX12_sayingAtHand 94 = .ok (.ireturn, 1) := by decide +kernel
theorem dX12_sayingAtHand_95 : decode cX12_sayingAtHand 95 = .ok (.aload_n 0, 1) := by decide +kernel
theorem dX12_sayingAtHand_96 : decode cX12_sayingAtHand 96 = .ok (.bipush 108, 2) := by decide +kernel
theorem dX12_sayingAtHand_98 : decode cX12_sayingAtHand 98 = .ok (.bipush 97, 2) := by decide +kernel
theorem dX12_sayingAtHand_100 : decode cX12_sayingAtHand 100 = .ok (.bipush 119, 2) := by decide +kernel
theorem dX12_sayingAtHand_102 : decode cX12_sayingAtHand 102 = .ok (.iconst 0, 1) := by decide +kernel
theorem dX12_sayingAtHand_103 : decode cX12_sayingAtHand 103 = .ok (.iconst 0, 1) := by decide +kernel
theorem dX12_sayingAtHand_104 : decode cX12_sayingAtHand 104 = .ok (.invokestatic 126, 3) := by decide +kernel
theorem dX12_sayingAtHand_107 : decode cX12_sayingAtHand 107 = .ok (.invokevirtual 149, 3) := by decide +kernel
theorem dX12_sayingAtHand_110 : decode cX12_sayingAtHand 110 = .ok (.ifCond .eq 8, 3) := by decide +kernel
theorem dX12_sayingAtHand_113 : decode cX12_sayingAtHand 113 = .ok (.bipush 6, 2) := by decide +kernel
theorem dX12_sayingAtHand_115 : decode cX12_sayingAtHand 115 = .ok (.goto 4, 3) := by decide +kernel
theorem dX12_sayingAtHand_118 : decode cX12_sayingAtHand 118 = .ok (.iconst (-1), 1) := by decide +kernel
theorem dX12_sayingAtHand_119 : decode cX12_sayingAtHand 119 = .ok (.ireturn, 1) := by decide +kernel
def wp_X12_sayingAtHand (l0 : Nat) (h : PH) (Q : Int32 → PH → Prop) : Prop := (wp_X12_spelt 99 111 117 110 116 h (fun r2 h1 => (wp_X12_isKey l0 r2 h1 (fun r4 h3 => ((r4 = 0 → (wp_X12_isTurn l0 h3 (fun r7 h6 => ((r7 = 0 → (wp_X12_spelt 100 111 111 114 0 h6 (fun r10 h9 => (wp_X12_isKey l0 r10 h9 (fun r12 h11 => ((r12 = 0 → (wp_X12_spelt 109 111 100 101 108 h11 (fun r15 h14 => (wp_X12_isKey l0 r15 h14 (fun r17 h16 => ((r17 = 0 → (wp_X12_isRub l0 h16 (fun r20 h19 => ((r20 = 0 → (wp_X12_fed h19 (fun r23 h22 => (wp_X12_isKey l0 r23 h22 (fun r25 h24 => ((r25 = 0 → (wp_X12_spelt 108 97 119 0 0 h24 (fun r28 h27 => (wp_X12_isKey l0 r28 h27 (fun r30 h29 => ((r30 = 0 → Q (-1) h29) ∧ (¬ (r30 = 0) → Q 6 h29))))))) ∧ (¬ (r25 = 0) → Q 5 h24))))))) ∧ (¬ (r20 = 0) → Q 4 h19))))) ∧ (¬ (r17 = 0) → Q 3 h16))))))) ∧ (¬ (r12 = 0) → Q 2 h11))))))) ∧ (¬ (r7 = 0) → Q 1 h6))))) ∧ (¬ (r4 = 0) → Q 0 h3))))))
set_option maxHeartbeats 4000000 in
set_option maxRecDepth 100000 in
theorem sn_X12_sayingAtHand (G : GT) (d : Nat) (l0 : Nat) (h : PH) (Q : Int32 → PH → Prop) (okl0 : qOK h 11 l0) (hwp : wp_X12_sayingAtHand l0 h Q) : Mt G (2 + d) 0 0 mX12_sayingAtHand [.ref l0] h (qqi Q) := by
  unfold wp_X12_sayingAtHand at hwp
  refine Mt.of (by decide) rfl (Nat.le_of_ble_eq_true rfl) ?_
  have hex := qEx.rf h
  have hnn : qn h = qn h + 0 := rfl
  have hzz : qz h = qz h + 0 := rfl
  refine x_lvE (lv2 := [(0, .ref l0)]) rfl ?_
  refine x_aload_n (pc := 0) dX12_sayingAtHand_0 rfl ?_
  refine x_bipush (v := 99) (pc := 1) dX12_sayingAtHand_1 (by decide) ?_
  refine x_bipush (v := 111) (pc := 3) dX12_sayingAtHand_3 (by decide) ?_
  refine x_bipush (v := 117) (pc := 5) dX12_sayingAtHand_5 (by decide) ?_
  refine x_bipush (v := 110) (pc := 7) dX12_sayingAtHand_7 (by decide) ?_
  refine x_bipush (v := 116) (pc := 9) dX12_sayingAtHand_9 (by decide) ?_
  refine x_invS (As := [.int 99, .int 111, .int 117, .int 110, .int 116]) (st := [.ref l0]) (pc := 11) dX12_sayingAtHand_11 lRX12_126 fX12_spelt sX12_spelt rfl (Nat.le_of_ble_eq_true rfl) (q_R (by omega) (by decide)) (q_C hnn hzz (by decide) (by decide)) (sn_X12_spelt G (d + 1) 99 111 117 110 116 h _  hwp) (k_j (fun r2 h1 hwp cxh1 => ?_))
  have hex := hex.tr cxh1.1
  have hnn : qn h1 = qn h + 0 := by have := cxh1.2.1; omega
  have hzz : qz h1 = qz h + 0 := by have := cxh1.2.2; omega
  have okl0 := okl0.ex cxh1.1
  refine x_invV (As := [.long r2]) (st := []) (pc := 14) dX12_sayingAtHand_14 lRX12_149 fX12_isKey vX12_isKey okl0 rfl (Nat.le_of_ble_eq_true rfl) (q_R (by omega) (by decide)) (q_C hnn hzz (by decide) (by decide)) (sn_X12_isKey G (d + 1) l0 r2 h1 _ okl0 hwp) (k_b (fun r4 h3 hwp zbr4 cxh3 => ?_))
  have hex := hex.tr cxh3.1
  have hnn : qn h3 = qn h + 0 := by have := cxh3.2.1; omega
  have hzz : qz h3 = qz h + 0 := by have := cxh3.2.2; omega
  have okl0 := okl0.ex cxh3.1
  refine x_if_eq (tgt := 22) (pc := 17) dX12_sayingAtHand_17 (by decide) (fun c5 => ?_) (fun c5 => ?_)
  · have hwp := hwp.1 c5
    refine x_aload_n (pc := 22) dX12_sayingAtHand_22 rfl ?_
    refine x_invV (As := []) (st := []) (pc := 23) dX12_sayingAtHand_23 lRX12_171 fX12_isTurn vX12_isTurn okl0 rfl (Nat.le_of_ble_eq_true rfl) (q_R (by omega) (by decide)) (q_C hnn hzz (by decide) (by decide)) (sn_X12_isTurn G (d + 0) l0 h3 _ okl0 hwp) (k_b (fun r7 h6 hwp zbr7 cxh6 => ?_))
    have hex := hex.tr cxh6.1
    have hnn : qn h6 = qn h + 0 := by have := cxh6.2.1; omega
    have hzz : qz h6 = qz h + 0 := by have := cxh6.2.2; omega
    have okl0 := okl0.ex cxh6.1
    refine x_if_eq (tgt := 31) (pc := 26) dX12_sayingAtHand_26 (by decide) (fun c8 => ?_) (fun c8 => ?_)
    · have hwp := hwp.1 c8
      refine x_aload_n (pc := 31) dX12_sayingAtHand_31 rfl ?_
      refine x_bipush (v := 100) (pc := 32) dX12_sayingAtHand_32 (by decide) ?_
      refine x_bipush (v := 111) (pc := 34) dX12_sayingAtHand_34 (by decide) ?_
      refine x_bipush (v := 111) (pc := 36) dX12_sayingAtHand_36 (by decide) ?_
      refine x_bipush (v := 114) (pc := 38) dX12_sayingAtHand_38 (by decide) ?_
      refine x_iconst (v := 0) (pc := 40) dX12_sayingAtHand_40 (by decide) ?_
      refine x_invS (As := [.int 100, .int 111, .int 111, .int 114, .int 0]) (st := [.ref l0]) (pc := 41) dX12_sayingAtHand_41 lRX12_126 fX12_spelt sX12_spelt rfl (Nat.le_of_ble_eq_true rfl) (q_R (by omega) (by decide)) (q_C hnn hzz (by decide) (by decide)) (sn_X12_spelt G (d + 1) 100 111 111 114 0 h6 _  hwp) (k_j (fun r10 h9 hwp cxh9 => ?_))
      have hex := hex.tr cxh9.1
      have hnn : qn h9 = qn h + 0 := by have := cxh9.2.1; omega
      have hzz : qz h9 = qz h + 0 := by have := cxh9.2.2; omega
      have okl0 := okl0.ex cxh9.1
      refine x_invV (As := [.long r10]) (st := []) (pc := 44) dX12_sayingAtHand_44 lRX12_149 fX12_isKey vX12_isKey okl0 rfl (Nat.le_of_ble_eq_true rfl) (q_R (by omega) (by decide)) (q_C hnn hzz (by decide) (by decide)) (sn_X12_isKey G (d + 1) l0 r10 h9 _ okl0 hwp) (k_b (fun r12 h11 hwp zbr12 cxh11 => ?_))
      have hex := hex.tr cxh11.1
      have hnn : qn h11 = qn h + 0 := by have := cxh11.2.1; omega
      have hzz : qz h11 = qz h + 0 := by have := cxh11.2.2; omega
      have okl0 := okl0.ex cxh11.1
      refine x_if_eq (tgt := 52) (pc := 47) dX12_sayingAtHand_47 (by decide) (fun c13 => ?_) (fun c13 => ?_)
      · have hwp := hwp.1 c13
        refine x_aload_n (pc := 52) dX12_sayingAtHand_52 rfl ?_
        refine x_bipush (v := 109) (pc := 53) dX12_sayingAtHand_53 (by decide) ?_
        refine x_bipush (v := 111) (pc := 55) dX12_sayingAtHand_55 (by decide) ?_
        refine x_bipush (v := 100) (pc := 57) dX12_sayingAtHand_57 (by decide) ?_
        refine x_bipush (v := 101) (pc := 59) dX12_sayingAtHand_59 (by decide) ?_
        refine x_bipush (v := 108) (pc := 61) dX12_sayingAtHand_61 (by decide) ?_
        refine x_invS (As := [.int 109, .int 111, .int 100, .int 101, .int 108]) (st := [.ref l0]) (pc := 63) dX12_sayingAtHand_63 lRX12_126 fX12_spelt sX12_spelt rfl (Nat.le_of_ble_eq_true rfl) (q_R (by omega) (by decide)) (q_C hnn hzz (by decide) (by decide)) (sn_X12_spelt G (d + 1) 109 111 100 101 108 h11 _  hwp) (k_j (fun r15 h14 hwp cxh14 => ?_))
        have hex := hex.tr cxh14.1
        have hnn : qn h14 = qn h + 0 := by have := cxh14.2.1; omega
        have hzz : qz h14 = qz h + 0 := by have := cxh14.2.2; omega
        have okl0 := okl0.ex cxh14.1
        refine x_invV (As := [.long r15]) (st := []) (pc := 66) dX12_sayingAtHand_66 lRX12_149 fX12_isKey vX12_isKey okl0 rfl (Nat.le_of_ble_eq_true rfl) (q_R (by omega) (by decide)) (q_C hnn hzz (by decide) (by decide)) (sn_X12_isKey G (d + 1) l0 r15 h14 _ okl0 hwp) (k_b (fun r17 h16 hwp zbr17 cxh16 => ?_))
        have hex := hex.tr cxh16.1
        have hnn : qn h16 = qn h + 0 := by have := cxh16.2.1; omega
        have hzz : qz h16 = qz h + 0 := by have := cxh16.2.2; omega
        have okl0 := okl0.ex cxh16.1
        refine x_if_eq (tgt := 74) (pc := 69) dX12_sayingAtHand_69 (by decide) (fun c18 => ?_) (fun c18 => ?_)
        · have hwp := hwp.1 c18
          refine x_aload_n (pc := 74) dX12_sayingAtHand_74 rfl ?_
          refine x_invV (As := []) (st := []) (pc := 75) dX12_sayingAtHand_75 lRX12_175 fX12_isRub vX12_isRub okl0 rfl (Nat.le_of_ble_eq_true rfl) (q_R (by omega) (by decide)) (q_C hnn hzz (by decide) (by decide)) (sn_X12_isRub G (d + 0) l0 h16 _ okl0 hwp) (k_b (fun r20 h19 hwp zbr20 cxh19 => ?_))
          have hex := hex.tr cxh19.1
          have hnn : qn h19 = qn h + 0 := by have := cxh19.2.1; omega
          have hzz : qz h19 = qz h + 0 := by have := cxh19.2.2; omega
          have okl0 := okl0.ex cxh19.1
          refine x_if_eq (tgt := 83) (pc := 78) dX12_sayingAtHand_78 (by decide) (fun c21 => ?_) (fun c21 => ?_)
          · have hwp := hwp.1 c21
            refine x_aload_n (pc := 83) dX12_sayingAtHand_83 rfl ?_
            refine x_invS (As := []) (st := [.ref l0]) (pc := 84) dX12_sayingAtHand_84 lRX12_163 fX12_fed sX12_fed rfl (Nat.le_of_ble_eq_true rfl) (q_R (by omega) (by decide)) (q_C hnn hzz (by decide) (by decide)) (sn_X12_fed G (d + 0) h19 _  hwp) (k_j (fun r23 h22 hwp cxh22 => ?_))
            have hex := hex.tr cxh22.1
            have hnn : qn h22 = qn h + 0 := by have := cxh22.2.1; omega
            have hzz : qz h22 = qz h + 0 := by have := cxh22.2.2; omega
            have okl0 := okl0.ex cxh22.1
            refine x_invV (As := [.long r23]) (st := []) (pc := 87) dX12_sayingAtHand_87 lRX12_149 fX12_isKey vX12_isKey okl0 rfl (Nat.le_of_ble_eq_true rfl) (q_R (by omega) (by decide)) (q_C hnn hzz (by decide) (by decide)) (sn_X12_isKey G (d + 1) l0 r23 h22 _ okl0 hwp) (k_b (fun r25 h24 hwp zbr25 cxh24 => ?_))
            have hex := hex.tr cxh24.1
            have hnn : qn h24 = qn h + 0 := by have := cxh24.2.1; omega
            have hzz : qz h24 = qz h + 0 := by have := cxh24.2.2; omega
            have okl0 := okl0.ex cxh24.1
            refine x_if_eq (tgt := 95) (pc := 90) dX12_sayingAtHand_90 (by decide) (fun c26 => ?_) (fun c26 => ?_)
            · have hwp := hwp.1 c26
              refine x_aload_n (pc := 95) dX12_sayingAtHand_95 rfl ?_
              refine x_bipush (v := 108) (pc := 96) dX12_sayingAtHand_96 (by decide) ?_
              refine x_bipush (v := 97) (pc := 98) dX12_sayingAtHand_98 (by decide) ?_
              refine x_bipush (v := 119) (pc := 100) dX12_sayingAtHand_100 (by decide) ?_
              refine x_iconst (v := 0) (pc := 102) dX12_sayingAtHand_102 (by decide) ?_
              refine x_iconst (v := 0) (pc := 103) dX12_sayingAtHand_103 (by decide) ?_
              refine x_invS (As := [.int 108, .int 97, .int 119, .int 0, .int 0]) (st := [.ref l0]) (pc := 104) dX12_sayingAtHand_104 lRX12_126 fX12_spelt sX12_spelt rfl (Nat.le_of_ble_eq_true rfl) (q_R (by omega) (by decide)) (q_C hnn hzz (by decide) (by decide)) (sn_X12_spelt G (d + 1) 108 97 119 0 0 h24 _  hwp) (k_j (fun r28 h27 hwp cxh27 => ?_))
              have hex := hex.tr cxh27.1
              have hnn : qn h27 = qn h + 0 := by have := cxh27.2.1; omega
              have hzz : qz h27 = qz h + 0 := by have := cxh27.2.2; omega
              have okl0 := okl0.ex cxh27.1
              refine x_invV (As := [.long r28]) (st := []) (pc := 107) dX12_sayingAtHand_107 lRX12_149 fX12_isKey vX12_isKey okl0 rfl (Nat.le_of_ble_eq_true rfl) (q_R (by omega) (by decide)) (q_C hnn hzz (by decide) (by decide)) (sn_X12_isKey G (d + 1) l0 r28 h27 _ okl0 hwp) (k_b (fun r30 h29 hwp zbr30 cxh29 => ?_))
              have hex := hex.tr cxh29.1
              have hnn : qn h29 = qn h + 0 := by have := cxh29.2.1; omega
              have hzz : qz h29 = qz h + 0 := by have := cxh29.2.2; omega
              have okl0 := okl0.ex cxh29.1
              refine x_if_eq (tgt := 118) (pc := 110) dX12_sayingAtHand_110 (by decide) (fun c31 => ?_) (fun c31 => ?_)
              · have hwp := hwp.1 c31
                refine x_iconst (v := (-1)) (pc := 118) dX12_sayingAtHand_118 (by decide) ?_
                exact x_iret (pc := 119) dX12_sayingAtHand_119 rfl hex hnn hzz ⟨_, rfl, hwp⟩
              · have hwp := hwp.2 c31
                refine x_bipush (v := 6) (pc := 113) dX12_sayingAtHand_113 (by decide) ?_
                refine x_goto (tgt := 119) (pc := 115) dX12_sayingAtHand_115 (by decide) ?_
                exact x_iret (pc := 119) dX12_sayingAtHand_119 rfl hex hnn hzz ⟨_, rfl, hwp⟩
            · have hwp := hwp.2 c26
              refine x_iconst (v := 5) (pc := 93) dX12_sayingAtHand_93 (by decide) ?_
              exact x_iret (pc := 94) dX12_sayingAtHand_94 rfl hex hnn hzz ⟨_, rfl, hwp⟩
          · have hwp := hwp.2 c21
            refine x_iconst (v := 4) (pc := 81) dX12_sayingAtHand_81 (by decide) ?_
            exact x_iret (pc := 82) dX12_sayingAtHand_82 rfl hex hnn hzz ⟨_, rfl, hwp⟩
        · have hwp := hwp.2 c18
          refine x_iconst (v := 3) (pc := 72) dX12_sayingAtHand_72 (by decide) ?_
          exact x_iret (pc := 73) dX12_sayingAtHand_73 rfl hex hnn hzz ⟨_, rfl, hwp⟩
      · have hwp := hwp.2 c13
        refine x_iconst (v := 2) (pc := 50) dX12_sayingAtHand_50 (by decide) ?_
        exact x_iret (pc := 51) dX12_sayingAtHand_51 rfl hex hnn hzz ⟨_, rfl, hwp⟩
    · have hwp := hwp.2 c8
      refine x_iconst (v := 1) (pc := 29) dX12_sayingAtHand_29 (by decide) ?_
      exact x_iret (pc := 30) dX12_sayingAtHand_30 rfl hex hnn hzz ⟨_, rfl, hwp⟩
  · have hwp := hwp.2 c5
    refine x_iconst (v := 0) (pc := 20) dX12_sayingAtHand_20 (by decide) ?_
    exact x_iret (pc := 21) dX12_sayingAtHand_21 rfl hex hnn hzz ⟨_, rfl, hwp⟩

theorem dX12_readHearing_0 : decode cX12_readHearing 0 = .ok (.aload_n 0, 1) := by decide +kernel
theorem dX12_readHearing_1 : decode cX12_readHearing 1 = .ok (.bipush 105, 2) := by decide +kernel
theorem dX12_readHearing_3 : decode cX12_readHearing 3 = .ok (.bipush 110, 2) := by decide +kernel
theorem dX12_readHearing_5 : decode cX12_readHearing 5 = .ok (.iconst 0, 1) := by decide +kernel
theorem dX12_readHearing_6 : decode cX12_readHearing 6 = .ok (.iconst 0, 1) := by decide +kernel
theorem dX12_readHearing_7 : decode cX12_readHearing 7 = .ok (.iconst 0, 1) := by decide +kernel
theorem dX12_readHearing_8 : decode cX12_readHearing 8 = .ok (.invokestatic 126, 3) := by decide +kernel
theorem dX12_readHearing_11 : decode cX12_readHearing 11 = .ok (.invokevirtual 149, 3) := by decide +kernel
theorem dX12_readHearing_14 : decode cX12_readHearing 14 = .ok (.ifCond .ne 9, 3) := by decide +kernel
theorem dX12_readHearing_17 : decode cX12_readHearing 17 = .ok (.aload_n 0, 1) := by decide +kernel
theorem dX12_readHearing_18 : decode cX12_readHearing 18 = .ok (.iconst 1, 1) := by decide +kernel
theorem dX12_readHearing_19 : decode cX12_readHearing 19 = .ok (.invokevirtual 136, 3) := by decide +kernel
theorem dX12_readHearing_22 : decode cX12_readHearing 22 = .ok (.ireturn, 1) := by decide +kernel
theorem dX12_readHearing_23 : decode cX12_readHearing 23 = .ok (.iload_n 1, 1) := by decide +kernel
theorem dX12_readHearing_24 : decode cX12_readHearing 24 = .ok (.bipush 20, 2) := by decide +kernel
theorem dX12_readHearing_26 : decode cX12_readHearing 26 = .ok (.if_icmp .ne 9, 3) := by decide +kernel
theorem dX12_readHearing_29 : decode cX12_readHearing 29 = .ok (.aload_n 0, 1) := by decide +kernel
theorem dX12_readHearing_30 : decode cX12_readHearing 30 = .ok (.iconst 4, 1) := by decide +kernel
theorem dX12_readHearing_31 : decode cX12_readHearing 31 = .ok (.invokevirtual 136, 3) := by decide +kernel
theorem dX12_readHearing_34 : decode cX12_readHearing 34 = .ok (.ireturn, 1) := by decide +kernel
theorem dX12_readHearing_35 : decode cX12_readHearing 35 = .ok (.aload_n 0, 1) := by decide +kernel
theorem dX12_readHearing_36 : decode cX12_readHearing 36 = .ok (.invokevirtual 146, 3) := by decide +kernel
theorem dX12_readHearing_39 : decode cX12_readHearing 39 = .ok (.aload_n 0, 1) := by decide +kernel
theorem dX12_readHearing_40 : decode cX12_readHearing 40 = .ok (.iconst 0, 1) := by decide +kernel
theorem dX12_readHearing_41 : decode cX12_readHearing 41 = .ok (.bipush 9, 2) := by decide +kernel
theorem dX12_readHearing_43 : decode cX12_readHearing 43 = .ok (.invokevirtual 201, 3) := by decide +kernel
theorem dX12_readHearing_46 : decode cX12_readHearing 46 = .ok (.ifCond .ne 5, 3) := by decide +kernel
theorem dX12_readHearing_49 : decode cX12_readHearing 49 = .ok (.iconst 0, 1) := by decide +kernel
theorem dX12_readHearing_50 : decode cX12_readHearing 50 = .ok (.ireturn, 1) := by decide +kernel
theorem dX12_readHearing_51 : decode cX12_readHearing 51 = .ok (.aload_n 0, 1) := by decide +kernel
theorem dX12_readHearing_52 : decode cX12_readHearing 52 = .ok (.getfield 143, 3) := by decide +kernel
theorem dX12_readHearing_55 : decode cX12_readHearing 55 = .ok (.istore_n 2, 1) := by decide +kernel
theorem dX12_readHearing_56 : decode cX12_readHearing 56 = .ok (.aload_n 0, 1) := by decide +kernel
theorem dX12_readHearing_57 : decode cX12_readHearing 57 = .ok (.bipush 104, 2) := by decide +kernel
theorem dX12_readHearing_59 : decode cX12_readHearing 59 = .ok (.bipush 101, 2) := by decide +kernel
theorem dX12_readHearing_61 : decode cX12_readHearing 61 = .ok (.bipush 97, 2) := by decide +kernel
theorem dX12_readHearing_63 : decode cX12_readHearing 63 = .ok (.bipush 114, 2) := by decide +kernel
theorem dX12_readHearing_65 : decode cX12_readHearing 65 = .ok (.bipush 115, 2) := by decide +kernel
theorem dX12_readHearing_67 : decode cX12_readHearing 67 = .ok (.invokestatic 126, 3) := by decide +kernel
theorem dX12_readHearing_70 : decode cX12_readHearing 70 = .ok (.invokevirtual 156, 3) := by decide +kernel
theorem dX12_readHearing_73 : decode cX12_readHearing 73 = .ok (.ifCond .ne 5, 3) := by decide +kernel
theorem dX12_readHearing_76 : decode cX12_readHearing 76 = .ok (.iconst 0, 1) := by decide +kernel
theorem dX12_readHearing_77 : decode cX12_readHearing 77 = .ok (.ireturn, 1) := by decide +kernel
theorem dX12_readHearing_78 : decode cX12_readHearing 78 = .ok (.aload_n 0, 1) := by decide +kernel
theorem dX12_readHearing_79 : decode cX12_readHearing 79 = .ok (.invokevirtual 409, 3) := by decide +kernel
theorem dX12_readHearing_82 : decode cX12_readHearing 82 = .ok (.istore_n 3, 1) := by decide +kernel
theorem dX12_readHearing_83 : decode cX12_readHearing 83 = .ok (.iload_n 3, 1) := by decide +kernel
theorem dX12_readHearing_84 : decode cX12_readHearing 84 = .ok (.iconst (-1), 1) := by decide +kernel
theorem dX12_readHearing_85 : decode cX12_readHearing 85 = .ok (.if_icmp .ne 9, 3) := by decide +kernel
theorem dX12_readHearing_88 : decode cX12_readHearing 88 = .ok (.aload_n 0, 1) := by decide +kernel
theorem dX12_readHearing_89 : decode cX12_readHearing 89 = .ok (.iconst 1, 1) := by decide +kernel
theorem dX12_readHearing_90 : decode cX12_readHearing 90 = .ok (.invokevirtual 136, 3) := by decide +kernel
theorem dX12_readHearing_93 : decode cX12_readHearing 93 = .ok (.ireturn, 1) := by decide +kernel
theorem dX12_readHearing_94 : decode cX12_readHearing 94 = .ok (.aload_n 0, 1) := by decide +kernel
theorem dX12_readHearing_95 : decode cX12_readHearing 95 = .ok (.invokevirtual 146, 3) := by decide +kernel
theorem dX12_readHearing_98 : decode cX12_readHearing 98 = .ok (.aload_n 0, 1) := by decide +kernel
theorem dX12_readHearing_99 : decode cX12_readHearing 99 = .ok (.bipush 103, 2) := by decide +kernel
theorem dX12_readHearing_101 : decode cX12_readHearing 101 = .ok (.bipush 111, 2) := by decide +kernel
theorem dX12_readHearing_103 : decode cX12_readHearing 103 = .ok (.bipush 101, 2) := by decide +kernel
theorem dX12_readHearing_105 : decode cX12_readHearing 105 = .ok (.bipush 115, 2) := by decide +kernel
theorem dX12_readHearing_107 : decode cX12_readHearing 107 = .ok (.iconst 0, 1) := by decide +kernel
theorem dX12_readHearing_108 : decode cX12_readHearing 108 = .ok (.invokestatic 126, 3) := by decide +kernel
theorem dX12_readHearing_111 : decode cX12_readHearing 111 = .ok (.invokevirtual 156, 3) := by decide +kernel
theorem dX12_readHearing_114 : decode cX12_readHearing 114 = .ok (.ifCond .eq 13, 3) := by decide +kernel
theorem dX12_readHearing_117 : decode cX12_readHearing 117 = .ok (.aload_n 0, 1) := by decide +kernel
theorem dX12_readHearing_118 : decode cX12_readHearing 118 = .ok (.iconst 0, 1) := by decide +kernel
theorem dX12_readHearing_119 : decode cX12_readHearing 119 = .ok (.bipush 9, 2) := by decide +kernel
theorem dX12_readHearing_121 : decode cX12_readHearing 121 = .ok (.invokevirtual 201, 3) := by decide +kernel
theorem dX12_readHearing_124 : decode cX12_readHearing 124 = .ok (.ifCond .ne 5, 3) := by decide +kernel
theorem dX12_readHearing_127 : decode cX12_readHearing 127 = .ok (.iconst 0, 1) := by decide +kernel
theorem dX12_readHearing_128 : decode cX12_readHearing 128 = .ok (.ireturn, 1) := by decide +kernel
theorem dX12_readHearing_129 : decode cX12_readHearing 129 = .ok (.aload_n 0, 1) := by decide +kernel
theorem dX12_readHearing_130 : decode cX12_readHearing 130 = .ok (.getfield 66, 3) := by decide +kernel
theorem dX12_readHearing_133 : decode cX12_readHearing 133 = .ok (.bipush 70, 2) := by decide +kernel
theorem dX12_readHearing_135 : decode cX12_readHearing 135 = .ok (.bipush 7, 2) := by decide +kernel
theorem dX12_readHearing_137 : decode cX12_readHearing 137 = .ok (.iload_n 2, 1) := by decide +kernel
theorem dX12_readHearing_138 : decode cX12_readHearing 138 = .ok (.imul, 1) := by decide +kernel
theorem dX12_readHearing_139 : decode cX12_readHearing 139 = .ok (.iadd, 1) := by decide +kernel
theorem dX12_readHearing_140 : decode cX12_readHearing 140 = .ok (.iload_n 3, 1) := by decide +kernel
theorem dX12_readHearing_141 : decode cX12_readHearing 141 = .ok (.iadd, 1) := by decide +kernel
theorem dX12_readHearing_142 : decode cX12_readHearing 142 = .ok (.iaload, 1) := by decide +kernel
theorem dX12_readHearing_143 : decode cX12_readHearing 143 = .ok (.iconst (-1), 1) := by decide +kernel
theorem dX12_readHearing_144 : decode cX12_readHearing 144 = .ok (.if_icmp .ne 21, 3) := by decide +kernel
theorem dX12_readHearing_147 : decode cX12_readHearing 147 = .ok (.aload_n 0, 1) := by decide +kernel
theorem dX12_readHearing_148 : decode cX12_readHearing 148 = .ok (.getfield 66, 3) := by decide +kernel
theorem dX12_readHearing_151 : decode cX12_readHearing 151 = .ok (.bipush 70, 2) := by decide +kernel
theorem dX12_readHearing_153 : decode cX12_readHearing 153 = .ok (.bipush 7, 2) := by decide +kernel
theorem dX12_readHearing_155 : decode cX12_readHearing 155 = .ok (.iload_n 2, 1) := by decide +kernel
theorem dX12_readHearing_156 : decode cX12_readHearing 156 = .ok (.imul, 1) := by decide +kernel
theorem dX12_readHearing_157 : decode cX12_readHearing 157 = .ok (.iadd, 1) := by decide +kernel
theorem dX12_readHearing_158 : decode cX12_readHearing 158 = .ok (.iload_n 3, 1) := by decide +kernel
theorem dX12_readHearing_159 : decode cX12_readHearing 159 = .ok (.iadd, 1) := by decide +kernel
theorem dX12_readHearing_160 : decode cX12_readHearing 160 = .ok (.aload_n 0, 1) := by decide +kernel
theorem dX12_readHearing_161 : decode cX12_readHearing 161 = .ok (.getfield 143, 3) := by decide +kernel
theorem dX12_readHearing_164 : decode cX12_readHearing 164 = .ok (.iastore, 1) := by decide +kernel
theorem dX12_readHearing_165 : decode cX12_readHearing 165 = .ok (.aload_n 0, 1) := by decide +kernel
theorem dX12_readHearing_166 : decode cX12_readHearing 166 = .ok (.invokevirtual 223, 3) := by decide +kernel
theorem dX12_readHearing_169 : decode cX12_readHearing 169 = .ok (.ireturn, 1) := by decide +kernel
def wp_X12_readHearing (l0 : Nat) (l1 : Int32) (h : PH) (Q : Int32 → PH → Prop) : Prop := (wp_X12_spelt 105 110 0 0 0 h (fun r2 h1 => (wp_X12_isKey l0 r2 h1 (fun r4 h3 => ((¬ r4 = 0 → ((¬ l1 = 20 → (wp_X12_go l0 h3 (fun h7 => (wp_X12_readNumber l0 0 9 h7 (fun r10 h9 => ((¬ r10 = 0 → ∀ v12 : Int32, v12 = qI h9 l0 13 → (wp_X12_spelt 104 101 97 114 115 h9 (fun r14 h13 => (wp_X12_readKey l0 r14 h13 (fun r16 h15 => ((¬ r16 = 0 → (wp_X12_sayingAtHand l0 h15 (fun r19 h18 => ((¬ r19 = (-1) → (wp_X12_go l0 h18 (fun h21 => (wp_X12_spelt 103 111 101 115 0 h21 (fun r24 h23 => (wp_X12_readKey l0 r24 h23 (fun r26 h25 => ((r26 = 0 → Q 0 h25) ∧ (¬ (r26 = 0) → (wp_X12_readNumber l0 0 9 h25 (fun r29 h28 => ((¬ r29 = 0 → (∃ b31, qR h28 l0 57 = some b31 ∧ (vp_in ((70 + (7 * v12)) + r19) (qL h28 b31) ∧ ((¬ (qI h28 b31 ((70 + (7 * v12)) + r19).toNatClampNeg) = (-1) → (wp_X12_readEnd l0 h28 (fun r36 h35 => ((r36 = 0 ∨ r36 = 1) ∧ Q r36 h35)))) ∧ ((qI h28 b31 ((70 + (7 * v12)) + r19).toNatClampNeg) = (-1) → (∃ b38, qR h28 l0 57 = some b38 ∧ (vp_in ((70 + (7 * v12)) + r19) (qL h28 b38) ∧ ∀ h40, h40 = qsI h28 b38 ((70 + (7 * v12)) + r19).toNatClampNeg (qI h28 l0 13) → (wp_X12_readEnd l0 h40 (fun r43 h42 => ((r43 = 0 ∨ r43 = 1) ∧ Q r43 h42)))))))))) ∧ (r29 = 0 → Q 0 h28))))))))))))) ∧ (r19 = (-1) → (wp_X12_bad l0 1 h18 (fun r46 h45 => ((r46 = 0 ∨ r46 = 1) ∧ Q r46 h45)))))))) ∧ (r16 = 0 → Q 0 h15))))))) ∧ (r10 = 0 → Q 0 h9))))))) ∧ (l1 = 20 → (wp_X12_bad l0 4 h3 (fun r49 h48 => ((r49 = 0 ∨ r49 = 1) ∧ Q r49 h48)))))) ∧ (r4 = 0 → (wp_X12_bad l0 1 h3 (fun r52 h51 => ((r52 = 0 ∨ r52 = 1) ∧ Q r52 h51)))))))))
set_option maxHeartbeats 4000000 in
set_option maxRecDepth 100000 in
theorem sn_X12_readHearing (G : GT) (d : Nat) (l0 : Nat) (l1 : Int32) (h : PH) (Q : Int32 → PH → Prop) (okl0 : qOK h 11 l0) (hwp : wp_X12_readHearing l0 l1 h Q) : Mt G (3 + d) 0 0 mX12_readHearing [.ref l0, .int l1] h (qqb Q) := by
  unfold wp_X12_readHearing at hwp
  refine Mt.of (by decide) rfl (Nat.le_of_ble_eq_true rfl) ?_
  have hex := qEx.rf h
  have hnn : qn h = qn h + 0 := rfl
  have hzz : qz h = qz h + 0 := rfl
  refine x_lvE (lv2 := [(0, .ref l0), (1, .int l1)]) rfl ?_
  refine x_aload_n (pc := 0) dX12_readHearing_0 rfl ?_
  refine x_bipush (v := 105) (pc := 1) dX12_readHearing_1 (by decide) ?_
  refine x_bipush (v := 110) (pc := 3) dX12_readHearing_3 (by decide) ?_
  refine x_iconst (v := 0) (pc := 5) dX12_readHearing_5 (by decide) ?_
  refine x_iconst (v := 0) (pc := 6) dX12_readHearing_6 (by decide) ?_
  refine x_iconst (v := 0) (pc := 7) dX12_readHearing_7 (by decide) ?_
  refine x_invS (As := [.int 105, .int 110, .int 0, .int 0, .int 0]) (st := [.ref l0]) (pc := 8) dX12_readHearing_8 lRX12_126 fX12_spelt sX12_spelt rfl (Nat.le_of_ble_eq_true rfl) (q_R (by omega) (by decide)) (q_C hnn hzz (by decide) (by decide)) (sn_X12_spelt G (d + 2) 105 110 0 0 0 h _  hwp) (k_j (fun r2 h1 hwp cxh1 => ?_))
  have hex := hex.tr cxh1.1
  have hnn : qn h1 = qn h + 0 := by have := cxh1.2.1; omega
  have hzz : qz h1 = qz h + 0 := by have := cxh1.2.2; omega
  have okl0 := okl0.ex cxh1.1
  refine x_invV (As := [.long r2]) (st := []) (pc := 11) dX12_readHearing_11 lRX12_149 fX12_isKey vX12_isKey okl0 rfl (Nat.le_of_ble_eq_true rfl) (q_R (by omega) (by decide)) (q_C hnn hzz (by decide) (by decide)) (sn_X12_isKey G (d + 2) l0 r2 h1 _ okl0 hwp) (k_b (fun r4 h3 hwp zbr4 cxh3 => ?_))
  have hex := hex.tr cxh3.1
  have hnn : qn h3 = qn h + 0 := by have := cxh3.2.1; omega
  have hzz : qz h3 = qz h + 0 := by have := cxh3.2.2; omega
  have okl0 := okl0.ex cxh3.1
  refine x_if_ne (tgt := 23) (pc := 14) dX12_readHearing_14 (by decide) (fun c5 => ?_) (fun c5 => ?_)
  · have hwp := hwp.1 c5
    refine x_iload_n (pc := 23) dX12_readHearing_23 rfl ?_
    refine x_bipush (v := 20) (pc := 24) dX12_readHearing_24 (by decide) ?_
    refine x_icmp_ne (tgt := 35) (pc := 26) dX12_readHearing_26 (by decide) (fun c6 => ?_) (fun c6 => ?_)
    · have hwp := hwp.1 c6
      refine x_aload_n (pc := 35) dX12_readHearing_35 rfl ?_
      refine x_invV (As := []) (st := []) (pc := 36) dX12_readHearing_36 lRX12_146 fX12_go vX12_go okl0 rfl (Nat.le_of_ble_eq_true rfl) (q_R (by omega) (by decide)) (q_C hnn hzz (by decide) (by decide)) (sn_X12_go G (d + 1) l0 h3 _ okl0 hwp) (k_v (fun h7 hwp cxh7 => ?_))
      have hex := hex.tr cxh7.1
      have hnn : qn h7 = qn h + 0 := by have := cxh7.2.1; omega
      have hzz : qz h7 = qz h + 0 := by have := cxh7.2.2; omega
      have okl0 := okl0.ex cxh7.1
      refine x_aload_n (pc := 39) dX12_readHearing_39 rfl ?_
      refine x_iconst (v := 0) (pc := 40) dX12_readHearing_40 (by decide) ?_
      refine x_bipush (v := 9) (pc := 41) dX12_readHearing_41 (by decide) ?_
      refine x_invV (As := [.int 0, .int 9]) (st := []) (pc := 43) dX12_readHearing_43 lRX12_201 fX12_readNumber vX12_readNumber okl0 rfl (Nat.le_of_ble_eq_true rfl) (q_R (by omega) (by decide)) (q_C hnn hzz (by decide) (by decide)) (sn_X12_readNumber G (d + 0) l0 0 9 h7 _ okl0 hwp) (k_b (fun r10 h9 hwp zbr10 cxh9 => ?_))
      have hex := hex.tr cxh9.1
      have hnn : qn h9 = qn h + 0 := by have := cxh9.2.1; omega
      have hzz : qz h9 = qz h + 0 := by have := cxh9.2.2; omega
      have okl0 := okl0.ex cxh9.1
      refine x_if_ne (tgt := 51) (pc := 46) dX12_readHearing_46 (by decide) (fun c11 => ?_) (fun c11 => ?_)
      · have hwp := hwp.1 c11
        refine x_aload_n (pc := 51) dX12_readHearing_51 rfl ?_
        refine x_getI (pc := 52) dX12_readHearing_52 qRX12_143 okl0 (by decide) ?_
        refine x_nmI (fun v12 ev12 => ?_)
        have hwp := hwp v12 ev12
        refine x_istore_n (lv2 := [(2, .int v12), (0, .ref l0), (1, .int l1)]) (pc := 55) dX12_readHearing_55 (by decide) rfl ?_
        refine x_aload_n (pc := 56) dX12_readHearing_56 rfl ?_
        refine x_bipush (v := 104) (pc := 57) dX12_readHearing_57 (by decide) ?_
        refine x_bipush (v := 101) (pc := 59) dX12_readHearing_59 (by decide) ?_
        refine x_bipush (v := 97) (pc := 61) dX12_readHearing_61 (by decide) ?_
        refine x_bipush (v := 114) (pc := 63) dX12_readHearing_63 (by decide) ?_
        refine x_bipush (v := 115) (pc := 65) dX12_readHearing_65 (by decide) ?_
        refine x_invS (As := [.int 104, .int 101, .int 97, .int 114, .int 115]) (st := [.ref l0]) (pc := 67) dX12_readHearing_67 lRX12_126 fX12_spelt sX12_spelt rfl (Nat.le_of_ble_eq_true rfl) (q_R (by omega) (by decide)) (q_C hnn hzz (by decide) (by decide)) (sn_X12_spelt G (d + 2) 104 101 97 114 115 h9 _  hwp) (k_j (fun r14 h13 hwp cxh13 => ?_))
        have hex := hex.tr cxh13.1
        have hnn : qn h13 = qn h + 0 := by have := cxh13.2.1; omega
        have hzz : qz h13 = qz h + 0 := by have := cxh13.2.2; omega
        have okl0 := okl0.ex cxh13.1
        refine x_invV (As := [.long r14]) (st := []) (pc := 70) dX12_readHearing_70 lRX12_156 fX12_readKey vX12_readKey okl0 rfl (Nat.le_of_ble_eq_true rfl) (q_R (by omega) (by decide)) (q_C hnn hzz (by decide) (by decide)) (sn_X12_readKey G (d + 0) l0 r14 h13 _ okl0 hwp) (k_b (fun r16 h15 hwp zbr16 cxh15 => ?_))
        have hex := hex.tr cxh15.1
        have hnn : qn h15 = qn h + 0 := by have := cxh15.2.1; omega
        have hzz : qz h15 = qz h + 0 := by have := cxh15.2.2; omega
        have okl0 := okl0.ex cxh15.1
        refine x_if_ne (tgt := 78) (pc := 73) dX12_readHearing_73 (by decide) (fun c17 => ?_) (fun c17 => ?_)
        · have hwp := hwp.1 c17
          refine x_aload_n (pc := 78) dX12_readHearing_78 rfl ?_
          refine x_invV (As := []) (st := []) (pc := 79) dX12_readHearing_79 lRX12_409 fX12_sayingAtHand vX12_sayingAtHand okl0 rfl (Nat.le_of_ble_eq_true rfl) (q_R (by omega) (by decide)) (q_C hnn hzz (by decide) (by decide)) (sn_X12_sayingAtHand G (d + 0) l0 h15 _ okl0 hwp) (k_i (fun r19 h18 hwp cxh18 => ?_))
          have hex := hex.tr cxh18.1
          have hnn : qn h18 = qn h + 0 := by have := cxh18.2.1; omega
          have hzz : qz h18 = qz h + 0 := by have := cxh18.2.2; omega
          have okl0 := okl0.ex cxh18.1
          refine x_istore_n (lv2 := [(3, .int r19), (2, .int v12), (0, .ref l0), (1, .int l1)]) (pc := 82) dX12_readHearing_82 (by decide) rfl ?_
          refine x_iload_n (pc := 83) dX12_readHearing_83 rfl ?_
          refine x_iconst (v := (-1)) (pc := 84) dX12_readHearing_84 (by decide) ?_
          refine x_icmp_ne (tgt := 94) (pc := 85) dX12_readHearing_85 (by decide) (fun c20 => ?_) (fun c20 => ?_)
          · have hwp := hwp.1 c20
            refine x_aload_n (pc := 94) dX12_readHearing_94 rfl ?_
            refine x_invV (As := []) (st := []) (pc := 95) dX12_readHearing_95 lRX12_146 fX12_go vX12_go okl0 rfl (Nat.le_of_ble_eq_true rfl) (q_R (by omega) (by decide)) (q_C hnn hzz (by decide) (by decide)) (sn_X12_go G (d + 1) l0 h18 _ okl0 hwp) (k_v (fun h21 hwp cxh21 => ?_))
            have hex := hex.tr cxh21.1
            have hnn : qn h21 = qn h + 0 := by have := cxh21.2.1; omega
            have hzz : qz h21 = qz h + 0 := by have := cxh21.2.2; omega
            have okl0 := okl0.ex cxh21.1
            refine x_aload_n (pc := 98) dX12_readHearing_98 rfl ?_
            refine x_bipush (v := 103) (pc := 99) dX12_readHearing_99 (by decide) ?_
            refine x_bipush (v := 111) (pc := 101) dX12_readHearing_101 (by decide) ?_
            refine x_bipush (v := 101) (pc := 103) dX12_readHearing_103 (by decide) ?_
            refine x_bipush (v := 115) (pc := 105) dX12_readHearing_105 (by decide) ?_
            refine x_iconst (v := 0) (pc := 107) dX12_readHearing_107 (by decide) ?_
            refine x_invS (As := [.int 103, .int 111, .int 101, .int 115, .int 0]) (st := [.ref l0]) (pc := 108) dX12_readHearing_108 lRX12_126 fX12_spelt sX12_spelt rfl (Nat.le_of_ble_eq_true rfl) (q_R (by omega) (by decide)) (q_C hnn hzz (by decide) (by decide)) (sn_X12_spelt G (d + 2) 103 111 101 115 0 h21 _  hwp) (k_j (fun r24 h23 hwp cxh23 => ?_))
            have hex := hex.tr cxh23.1
            have hnn : qn h23 = qn h + 0 := by have := cxh23.2.1; omega
            have hzz : qz h23 = qz h + 0 := by have := cxh23.2.2; omega
            have okl0 := okl0.ex cxh23.1
            refine x_invV (As := [.long r24]) (st := []) (pc := 111) dX12_readHearing_111 lRX12_156 fX12_readKey vX12_readKey okl0 rfl (Nat.le_of_ble_eq_true rfl) (q_R (by omega) (by decide)) (q_C hnn hzz (by decide) (by decide)) (sn_X12_readKey G (d + 0) l0 r24 h23 _ okl0 hwp) (k_b (fun r26 h25 hwp zbr26 cxh25 => ?_))
            have hex := hex.tr cxh25.1
            have hnn : qn h25 = qn h + 0 := by have := cxh25.2.1; omega
            have hzz : qz h25 = qz h + 0 := by have := cxh25.2.2; omega
            have okl0 := okl0.ex cxh25.1
            refine x_if_eq (tgt := 127) (pc := 114) dX12_readHearing_114 (by decide) (fun c27 => ?_) (fun c27 => ?_)
            · have hwp := hwp.1 c27
              refine x_iconst (v := 0) (pc := 127) dX12_readHearing_127 (by decide) ?_
              exact x_zret (pc := 128) dX12_readHearing_128 rfl hex hnn hzz (by decide) ⟨_, rfl, by decide, hwp⟩
            · have hwp := hwp.2 c27
              refine x_aload_n (pc := 117) dX12_readHearing_117 rfl ?_
              refine x_iconst (v := 0) (pc := 118) dX12_readHearing_118 (by decide) ?_
              refine x_bipush (v := 9) (pc := 119) dX12_readHearing_119 (by decide) ?_
              refine x_invV (As := [.int 0, .int 9]) (st := []) (pc := 121) dX12_readHearing_121 lRX12_201 fX12_readNumber vX12_readNumber okl0 rfl (Nat.le_of_ble_eq_true rfl) (q_R (by omega) (by decide)) (q_C hnn hzz (by decide) (by decide)) (sn_X12_readNumber G (d + 0) l0 0 9 h25 _ okl0 hwp) (k_b (fun r29 h28 hwp zbr29 cxh28 => ?_))
              have hex := hex.tr cxh28.1
              have hnn : qn h28 = qn h + 0 := by have := cxh28.2.1; omega
              have hzz : qz h28 = qz h + 0 := by have := cxh28.2.2; omega
              have okl0 := okl0.ex cxh28.1
              refine x_if_ne (tgt := 129) (pc := 124) dX12_readHearing_124 (by decide) (fun c30 => ?_) (fun c30 => ?_)
              · have hwp := hwp.1 c30
                refine x_aload_n (pc := 129) dX12_readHearing_129 rfl ?_
                obtain ⟨b31, e32, hwp⟩ := hwp
                refine x_getR (pc := 130) dX12_readHearing_130 qRX12_66 okl0 e32 (fun okb31 => ?_)
                refine x_bipush (v := 70) (pc := 133) dX12_readHearing_133 (by decide) ?_
                refine x_bipush (v := 7) (pc := 135) dX12_readHearing_135 (by decide) ?_
                refine x_iload_n (pc := 137) dX12_readHearing_137 rfl ?_
                refine x_imul (pc := 138) dX12_readHearing_138 ?_
                refine x_iadd (pc := 139) dX12_readHearing_139 ?_
                refine x_iload_n (pc := 140) dX12_readHearing_140 rfl ?_
                refine x_iadd (pc := 141) dX12_readHearing_141 ?_
                obtain ⟨i33, hwp⟩ := hwp
                refine x_iaload (pc := 142) dX12_readHearing_142 okb31 i33 ?_
                refine x_iconst (v := (-1)) (pc := 143) dX12_readHearing_143 (by decide) ?_
                refine x_icmp_ne (tgt := 165) (pc := 144) dX12_readHearing_144 (by decide) (fun c34 => ?_) (fun c34 => ?_)
                · have hwp := hwp.1 c34
                  refine x_aload_n (pc := 165) dX12_readHearing_165 rfl ?_
                  refine x_invV (As := []) (st := []) (pc := 166) dX12_readHearing_166 lRX12_223 fX12_readEnd vX12_readEnd okl0 rfl (Nat.le_of_ble_eq_true rfl) (q_R (by omega) (by decide)) (q_C hnn hzz (by decide) (by decide)) (sn_X12_readEnd G (d + 0) l0 h28 _ okl0 hwp) (k_b (fun r36 h35 hwp zbr36 cxh35 => ?_))
                  have hex := hex.tr cxh35.1
                  have hnn : qn h35 = qn h + 0 := by have := cxh35.2.1; omega
                  have hzz : qz h35 = qz h + 0 := by have := cxh35.2.2; omega
                  have okl0 := okl0.ex cxh35.1
                  have okb31 := okb31.ex cxh35.1
                  exact x_zret (pc := 169) dX12_readHearing_169 rfl hex hnn hzz hwp.1 ⟨_, rfl, hwp.1, hwp.2⟩
                · have hwp := hwp.2 c34
                  refine x_aload_n (pc := 147) dX12_readHearing_147 rfl ?_
                  obtain ⟨b38, e39, hwp⟩ := hwp
                  refine x_getR (pc := 148) dX12_readHearing_148 qRX12_66 okl0 e39 (fun okb38 => ?_)
                  refine x_bipush (v := 70) (pc := 151) dX12_readHearing_151 (by decide) ?_
                  refine x_bipush (v := 7) (pc := 153) dX12_readHearing_153 (by decide) ?_
                  refine x_iload_n (pc := 155) dX12_readHearing_155 rfl ?_
                  refine x_imul (pc := 156) dX12_readHearing_156 ?_
                  refine x_iadd (pc := 157) dX12_readHearing_157 ?_
                  refine x_iload_n (pc := 158) dX12_readHearing_158 rfl ?_
                  refine x_iadd (pc := 159) dX12_readHearing_159 ?_
                  refine x_aload_n (pc := 160) dX12_readHearing_160 rfl ?_
                  refine x_getI (pc := 161) dX12_readHearing_161 qRX12_143 okl0 (by decide) ?_
                  obtain ⟨i41, hwp⟩ := hwp
                  refine y_iastore (pc := 164) dX12_readHearing_164 okb38 i41 (fun h40 eh40 nxh40 => ?_)
                  have hwp := hwp h40 eh40
                  have hex := hex.tr nxh40.1
                  have hnn := nxh40.2.1.trans hnn
                  have hzz := nxh40.2.2.trans hzz
                  have okl0 := okl0.ex nxh40.1
                  have okb31 := okb31.ex nxh40.1
                  have okb38 := okb38.ex nxh40.1
                  refine x_aload_n (pc := 165) dX12_readHearing_165 rfl ?_
                  refine x_invV (As := []) (st := []) (pc := 166) dX12_readHearing_166 lRX12_223 fX12_readEnd vX12_readEnd okl0 rfl (Nat.le_of_ble_eq_true rfl) (q_R (by omega) (by decide)) (q_C hnn hzz (by decide) (by decide)) (sn_X12_readEnd G (d + 0) l0 h40 _ okl0 hwp) (k_b (fun r43 h42 hwp zbr43 cxh42 => ?_))
                  have hex := hex.tr cxh42.1
                  have hnn : qn h42 = qn h + 0 := by have := cxh42.2.1; omega
                  have hzz : qz h42 = qz h + 0 := by have := cxh42.2.2; omega
                  have okl0 := okl0.ex cxh42.1
                  have okb31 := okb31.ex cxh42.1
                  have okb38 := okb38.ex cxh42.1
                  exact x_zret (pc := 169) dX12_readHearing_169 rfl hex hnn hzz hwp.1 ⟨_, rfl, hwp.1, hwp.2⟩
              · have hwp := hwp.2 c30
                refine x_iconst (v := 0) (pc := 127) dX12_readHearing_127 (by decide) ?_
                exact x_zret (pc := 128) dX12_readHearing_128 rfl hex hnn hzz (by decide) ⟨_, rfl, by decide, hwp⟩
          · have hwp := hwp.2 c20
            refine x_aload_n (pc := 88) dX12_readHearing_88 rfl ?_
            refine x_iconst (v := 1) (pc := 89) dX12_readHearing_89 (by decide) ?_
            refine x_invV (As := [.int 1]) (st := []) (pc := 90) dX12_readHearing_90 lRX12_136 fX12_bad vX12_bad okl0 rfl (Nat.le_of_ble_eq_true rfl) (q_R (by omega) (by decide)) (q_C hnn hzz (by decide) (by decide)) (sn_X12_bad G (d + 2) l0 1 h18 _ okl0 hwp) (k_b (fun r46 h45 hwp zbr46 cxh45 => ?_))
            have hex := hex.tr cxh45.1
            have hnn : qn h45 = qn h + 0 := by have := cxh45.2.1; omega
            have hzz : qz h45 = qz h + 0 := by have := cxh45.2.2; omega
            have okl0 := okl0.ex cxh45.1
            exact x_zret (pc := 93) dX12_readHearing_93 rfl hex hnn hzz hwp.1 ⟨_, rfl, hwp.1, hwp.2⟩
        · have hwp := hwp.2 c17
          refine x_iconst (v := 0) (pc := 76) dX12_readHearing_76 (by decide) ?_
          exact x_zret (pc := 77) dX12_readHearing_77 rfl hex hnn hzz (by decide) ⟨_, rfl, by decide, hwp⟩
      · have hwp := hwp.2 c11
        refine x_iconst (v := 0) (pc := 49) dX12_readHearing_49 (by decide) ?_
        exact x_zret (pc := 50) dX12_readHearing_50 rfl hex hnn hzz (by decide) ⟨_, rfl, by decide, hwp⟩
    · have hwp := hwp.2 c6
      refine x_aload_n (pc := 29) dX12_readHearing_29 rfl ?_
      refine x_iconst (v := 4) (pc := 30) dX12_readHearing_30 (by decide) ?_
      refine x_invV (As := [.int 4]) (st := []) (pc := 31) dX12_readHearing_31 lRX12_136 fX12_bad vX12_bad okl0 rfl (Nat.le_of_ble_eq_true rfl) (q_R (by omega) (by decide)) (q_C hnn hzz (by decide) (by decide)) (sn_X12_bad G (d + 2) l0 4 h3 _ okl0 hwp) (k_b (fun r49 h48 hwp zbr49 cxh48 => ?_))
      have hex := hex.tr cxh48.1
      have hnn : qn h48 = qn h + 0 := by have := cxh48.2.1; omega
      have hzz : qz h48 = qz h + 0 := by have := cxh48.2.2; omega
      have okl0 := okl0.ex cxh48.1
      exact x_zret (pc := 34) dX12_readHearing_34 rfl hex hnn hzz hwp.1 ⟨_, rfl, hwp.1, hwp.2⟩
  · have hwp := hwp.2 c5
    refine x_aload_n (pc := 17) dX12_readHearing_17 rfl ?_
    refine x_iconst (v := 1) (pc := 18) dX12_readHearing_18 (by decide) ?_
    refine x_invV (As := [.int 1]) (st := []) (pc := 19) dX12_readHearing_19 lRX12_136 fX12_bad vX12_bad okl0 rfl (Nat.le_of_ble_eq_true rfl) (q_R (by omega) (by decide)) (q_C hnn hzz (by decide) (by decide)) (sn_X12_bad G (d + 2) l0 1 h3 _ okl0 hwp) (k_b (fun r52 h51 hwp zbr52 cxh51 => ?_))
    have hex := hex.tr cxh51.1
    have hnn : qn h51 = qn h + 0 := by have := cxh51.2.1; omega
    have hzz : qz h51 = qz h + 0 := by have := cxh51.2.2; omega
    have okl0 := okl0.ex cxh51.1
    exact x_zret (pc := 22) dX12_readHearing_22 rfl hex hnn hzz hwp.1 ⟨_, rfl, hwp.1, hwp.2⟩

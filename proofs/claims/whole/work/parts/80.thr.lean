/-! ===== throws: what one needs of the start, the contract of a method that throws, its row; calls that are caught ===== -/
abbrev nse : String := "java/util/NoSuchElementException"
def th_n : List String := ["java/lang/RuntimeException", "java/lang/Exception"]
def th_S : List (Nat × String) := [(139, "no such part or t"), (157, "no such part or place"), (165, "no such part, t or laws"), (171, "no such part or laws"), (238, "no such value or t")]
def th_B : List Cond := [.castable nse nse, .declares ⟨"java/lang/RuntimeException", "<init>", "(Ljava/lang/String;)V"⟩, .declares ⟨"java/lang/Exception", "<init>", "(Ljava/lang/String;)V"⟩, .declares ⟨"java/lang/Throwable", "<init>", "(Ljava/lang/String;)V"⟩]
set_option maxRecDepth 50000 in
theorem th_good : ∀ w ∈ (vy_at "ForeverOffice" 141 nse 13 prog_23_method_4_code th_n).filter goodWord, w ∈ qw_good := fun w hw => List.mem_filter.mpr ⟨(by decide +kernel : ∀ w ∈ (vy_at "ForeverOffice" 141 nse 13 prog_23_method_4_code th_n).filter goodWord, w ∈ lw_tbl) w hw, (List.mem_filter.mp hw).2⟩
theorem th_bad : ∀ w ∈ (vy_at "ForeverOffice" 141 nse 13 prog_23_method_4_code th_n).filter (fun w => !goodWord w), w ∈ th_B := by decide +kernel
theorem th_ot : ∀ w ∈ Cond.classLink "ForeverOffice" 137 nse :: Cond.initialized nse :: vy_at "ForeverOffice" 141 nse 13 prog_23_method_4_code th_n, vx_ot w = true := by decide +kernel
theorem th_x0 : decode prog_23_method_4_code 0 = .ok (.aload_n 0, 1) := by decide +kernel
theorem th_x1 : decode prog_23_method_4_code 1 = .ok (.aload_n 1, 1) := by decide +kernel
theorem th_x2 : decode prog_23_method_4_code 2 = .ok (.invokespecial 13, 3) := by decide +kernel
theorem th_x5 : decode prog_23_method_4_code 5 = .ok (.return_, 1) := by decide +kernel
def qTh (G : GT) (U : State) : Prop := G.1.stackTraces = false ∧ vx_Zq Bundle.tN "UNASSIGNED_STACK" Bundle.steD (qA G) U U.heap ∧ vx_Zq Bundle.tN "SUPPRESSED_SENTINEL" Bundle.listD (qA G) U U.heap ∧ (∀ q ∈ th_S, ∃ sa, vk_R "ForeverOffice" q.1 q.2 sa U) ∧ ∀ w ∈ th_B, va_Nw w U
theorem qTh.moved {G : GT} {s U : State} (hW : s.WarmedH U.vm) (hk : ∀ a : Nat, a < s.heap.size → ¬ qA G a → U.heap[a]? = s.heap[a]?) (v : qTh G s) : qTh G U := by
  refine ⟨v.1, (vx_Zq.moved hW.alike v.2.1).kept hk, (vx_Zq.moved hW.alike v.2.2.1).kept hk, fun q hq => ?_, fun w hw => ?_⟩
  · obtain ⟨sa, h⟩ := v.2.2.2.1 q hq
    exact ⟨sa, vk_R.warm hW h⟩
  · have h := v.2.2.2.2 w hw
    simp only [th_B, List.mem_cons, List.not_mem_nil, or_false] at hw
    rcases hw with rfl | rfl | rfl | rfl
    · exact va_Nw.warmC hW h
    · exact va_Nw.warmD hW h
    · exact va_Nw.warmD hW h
    · exact va_Nw.warmD hW h
theorem qTh.use {G : GT} {U : State} {args : Array Value} (v : qTh G U) : ∀ w ∈ th_B, w.before args U = true := by
  intro w hw
  have h := v.2.2.2.2 w hw
  simp only [th_B, List.mem_cons, List.not_mem_nil, or_false] at hw
  rcases hw with rfl | rfl | rfl | rfl <;> exact va_Nw.use rfl h
def qPx (G : GT) (As : List Value) (h : PH) : Array Value → State → Prop := fun a U => qPc G As h a U ∧ qTh G U
theorem qPx_blind {G : GT} {h : PH} (As : List Value) : FrameBlind (qPx G As h) := fun a U g mk q => ⟨qPc_blind As a U g mk q.1, q.2.moved (s := U) (U := U.calling g mk a) (State.WarmedH.refl U) (fun _ _ _ => rfl)⟩
def qXC (G : GT) (h : PH) (T : PH → Prop) : String → State → State → Prop := fun E st t => E = nse ∧ va_F (qA G) st t ∧ ∃ h1, T h1 ∧ qRel G h1 t.heap ∧ qn h1 = qn h + 1 ∧ qz h1 = qz h + 6 ∧ qEx h h1
def qNo : Array Value → State → Outcome → State → Prop := fun _ _ _ _ => False
/-- method M, from the arguments As over h: it throws, with T of the heap behind it: one cell of 6 slots is new -/
def Mx (G : GT) (d : Nat) (M : MI) (As : List Value) (h : PH) (T : PH → Prop) : Prop :=
  vx_Met G.1 M.2.2.2.2 (Cond.code M.2.2.2.2 M.2.1 M.2.2.1 M.2.2.2.1 :: qw_good) (qrm d 1 6) (qPx G As h) qNo (qXC G h T) 1 6 (qA G)
/-- the method that runs is M -/
def qNm (M : MI) (below : List Frame) (args : Array Value) (s : State) : Prop := ∀ m, s.frames = .invoking m args :: below → s.methodNamed? M.2.2.2.2 = some m
theorem qNm.of {M : MI} {below : List Frame} {args : Array Value} {s : State} {m : MethodId} (hf : s.frames = .invoking m args :: below) (hn : s.methodNamed? M.2.2.2.2 = some m) : qNm M below args s := by
  intro m9 e9
  rw [hf] at e9
  injection e9 with e7 e6
  injection e7 with e5 e4
  rw [← e5]
  exact hn
def ZX (G : GT) (M : MI) (h : PH) (T : PH → Prop) : List Frame → Array Value → State → State → Prop := fun below args s t => qTh G s → qNm M below args s → vx_MQ below qNo (qXC G h T) args s 1 6 (qA G) t
theorem Mx.of {G : GT} {d : Nat} {M : MI} {As : List Value} {h : PH} {T : PH → Prop} (hy : plainName M.2.2.2.2.cls = true) (ho : M.1 = M.2.2.2.2.cls) (hlen : (lg_sl As).length ≤ M.2.2.1) (k : Ex G (qrm d 1 6) M (qn h) (qz h) (ZX G M h T) 0 (lv_args 0 As) [] h) : Mx G d M As h T := by
  refine vx_ofW (cc := M.2.1) (maxL := M.2.2.1) (ret := M.2.2.2.1) hy rfl ?_
  intro p e s m args below meth c s₁ B hml _ hv
  obtain ⟨⟨rfl, hr, hV, hsz⟩, hth⟩ := hv
  have hts := atoms_spec (ws := Cond.code M.2.2.2.2 M.2.1 M.2.2.1 M.2.2.2.1 :: qw_good) B.pre
  have hown : s.vm.findClass M.1 = some m.cls := by rw [ho]; exact findClass_of_methodNamed B.named
  have hl := lv_entry (As.map (qtv G)) (n := M.2.2.1) (by rw [lg_sl_len]; exact hlen)
  rw [lg_entry_eq]
  rw [lv_args_map] at hl
  have k2 := k p e s m _ below meth c s.heap [] _ ⟨B.exec, B.bytes, hml, B.returns, B.notSynchronized, hown, fun w hw => hts w (List.mem_cons_of_mem _ hw), hV, hsz, (name_of_methodNamed B.named B.method).1⟩ (Nat.le_refl _) (Nat.le_refl _) hr va_S.rf hl
  rw [Nat.sub_self, Nat.sub_self] at k2
  intro T9 hT9 X9
  obtain ⟨t, a1, a2⟩ := k2 T9 hT9 X9
  exact ⟨t, a1, a2 hth (qNm.of X9.frames B.named)⟩
theorem x_throw {G : GT} {d : Nat} {M : MI} {h0 h : PH} {T : PH → Prop} {pc : Nat} {lv : List (Nat × Value)} {is : Nat} {text : String} (hM : M.1 = "ForeverOffice") (hcd : Cond.code M.2.2.2.2 M.2.1 M.2.2.1 M.2.2.2.1 ∈ qw_good)
    (d0 : decode M.2.1 pc = .ok (.new 137, 3)) (d3 : decode M.2.1 (pc + 3) = .ok (.dup, 1)) (d4 : decode M.2.1 (pc + 4) = .ok (.ldc is, 2)) (d6 : decode M.2.1 (pc + 6) = .ok (.invokespecial 141, 3)) (d9 : decode M.2.1 (pc + 9) = .ok (.athrow, 1))
    (hs : (is, text) ∈ th_S) (hd : 6 ≤ d) (e : qEx h0 h) (hn1 : qn h = qn h0) (hz1 : qz h = qz h0) (hmx : qn h + 1 ≤ 1000000) (hT : T (qnew h 12 0 6)) : Ex G (qrm d 1 6) M (qn h0) (qz h0) (ZX G M h0 T) pc lv [] h := by
  intro p e9 s m args below meth c H locs ls C hn hz r hS hl
  refine qsz C hn r hS (fun hsz => ?_)
  intro T9 hT9 X9
  by_cases hq : qTh G s ∧ qNm M below args s
  · obtain ⟨hth, hnm⟩ := hq
    have hnamed := hnm m X9.frames
    have hout : ∀ x ∈ c.exceptionTable.toList, covers x (pc + 9) = false := by
      obtain ⟨meth9, c9, h1, h2, -, -, -, -, h7, -⟩ := Cond.code_spec hnamed (C.hts _ hcd)
      cases Option.some.inj (h1.symm.trans X9.method)
      cases Option.some.inj (h2.symm.trans X9.code)
      intro x hx
      rw [Array.isEmpty_iff.mp h7] at hx
      cases hx
    obtain ⟨sa, hsa⟩ := hth.2.2.2.1 _ hs
    have key : W p G.1 e9 (qrm d 1 6) s m args below meth c H locs (qn h - qn h0) (qz h - qz h0) (vx_MQ below qNo (qXC G h0 T) args s 1 6 (qA G)) (F0 m pc ls []) := by
      refine vy_throwS (ix := 13) (rx := prog_23_method_4_code) (own := "ForeverOffice") (cls := nse) (text := text) (names := th_n) (ik := 137) (is := is) (ic := 141) (sa := sa) (A := qA G) C.1 C.2.1 hth.1 th_x0 th_x1 th_x2 th_x5 (by rw [← hM]; exact C.own) (by decide +kernel) (by decide +kernel) (C.hts _ cRX11_137) (C.hts _ wk_it_java_util_NoSuchElementException) hsa (vx_hat (fun w hw => C.hts _ (th_good w hw)) th_bad hth.use) th_ot hth.2.1 hth.2.2.1 hS (by rw [C.mlen]; exact hl.1) d0 d3 d4 d6 d9 hout ?_ ?_ ?_ ?_ C.locks ?_ hS.2.2 ?_ ?_
      · show 2 + 3 < d
        omega
      · show 0 + (13 * (2 + 1) + 43) ≤ 40 * d
        omega
      · show qn h - qn h0 + 1 ≤ 1
        omega
      · show qz h - qz h0 + 6 ≤ 6
        omega
      · intro t ce al f1 f2 hce hcv hcl
        refine ⟨rfl, ⟨Nat.le_trans hS.1 f1, fun q h1 h2 => by rw [f2 q (Nat.lt_of_lt_of_le h1 hS.1)]; exact hS.2.1 q h1 h2⟩, qnew h 12 0 6, hT, ⟨?_, r.2.1.new 12 0 6, hmx⟩, by show qn h + 1 = _; omega, by show qz h + 6 = _; omega, e.tr (qEx.new h 12 0 6)⟩
        have hKn : qK (qnew h 12 0 6) (qn h) = 12 := if_pos rfl
        have hcn : qce G (qnew h 12 0 6) (qn h) = .inr (12, []) := by
          rw [qce_obj (by rw [hKn]; decide), hKn]; rfl
        rw [← qws_new (h1 := qnew h 12 0 6) rfl hcn (fun b hb => qce_new hb)]
        intro k q hk
        by_cases hk2 : k < (qws G h).length
        · rw [List.getElem?_append_left hk2] at hk
          exact (r.1 k q hk).kept (f2 _ (r.1 k q hk).lt)
        · rw [List.getElem?_append_right (by omega)] at hk
          obtain ⟨i, hi⟩ : ∃ i, i = k - (qws G h).length := ⟨_, rfl⟩
          rw [← hi] at hk
          cases i with
          | zero =>
            have hk3 : q = (qB G + qn h, .inr (12, [])) := (Option.some.inj hk).symm
            subst hk3
            exact ⟨_, rfl, ce, by rw [← hsz]; exact hce, Option.some.inj (hcl.symm.trans (C.hK.1 12 _ rfl).2.1), hcv, fun k hk => absurd hk (Nat.not_lt_zero k)⟩
          | succ i => simp at hk
      · show qn h - qn h0 + 1 ≤ 1
        omega
      · show qz h - qz h0 + 6 ≤ 6
        omega
    obtain ⟨t, a1, b1⟩ := key T9 hT9 X9
    exact ⟨t, a1, fun _ _ => b1⟩
  · exact ⟨_, Steps.refl _, fun a b => absurd ⟨a, b⟩ hq⟩
def ZH (G : GT) (M : MI) (h : PH) (mc ms : Nat) (Q : Option Value → PH → Prop) : List Frame → Array Value → State → State → Prop := fun below args s t => qTh G s → qNm M below args s → MQ below (qQc G h mc ms Q) args s mc ms (qA G) t
theorem ZH.up {G : GT} {R : Room} {M : MI} {h0 h : PH} {mc ms ns zs pc : Nat} {lv : List (Nat × Value)} {st : List Value} {Q : Option Value → PH → Prop} (k : Ex G R M ns zs (ZN G h0 mc ms Q) pc lv st h) : Ex G R M ns zs (ZH G M h0 mc ms Q) pc lv st h := by
  intro p e9 s m args below meth c H locs ls C hn hz r hS hl T9 hT9 X9
  obtain ⟨t, a1, b1⟩ := k p e9 s m args below meth c H locs ls C hn hz r hS hl T9 hT9 X9
  exact ⟨t, a1, fun _ _ => b1⟩
/-- .. a method with a table of handlers, that returns -/
def Mh (G : GT) (d mc ms : Nat) (M : MI) (hh : List (Nat × Nat × Nat × Nat)) (As : List Value) (h : PH) (Q : Option Value → PH → Prop) : Prop :=
  Met G.1 M.2.2.2.2 (Cond.codeWith M.2.2.2.2 M.2.1 M.2.2.1 M.2.2.2.1 hh :: qw_good) (qrm d mc ms) (qPx G As h) (qQc G h mc ms Q) mc ms (qA G)
theorem Mh.of {G : GT} {d mc ms : Nat} {M : MI} {hh : List (Nat × Nat × Nat × Nat)} {As : List Value} {h : PH} {Q : Option Value → PH → Prop} (hy : plainName M.2.2.2.2.cls = true) (ho : M.1 = M.2.2.2.2.cls) (hlen : (lg_sl As).length ≤ M.2.2.1) (k : Ex G (qrm d mc ms) M (qn h) (qz h) (ZH G M h mc ms Q) 0 (lv_args 0 As) [] h) : Mh G d mc ms M hh As h Q := by
  refine va_MetW (cc := M.2.1) (maxL := M.2.2.1) (ret := M.2.2.2.1) (hh := hh) hy rfl ?_
  intro p e s m args below meth c s₁ B hml hv
  obtain ⟨⟨rfl, hr, hV, hsz⟩, hth⟩ := hv
  have hts := atoms_spec (ws := Cond.codeWith M.2.2.2.2 M.2.1 M.2.2.1 M.2.2.2.1 hh :: qw_good) B.pre
  have hown : s.vm.findClass M.1 = some m.cls := by rw [ho]; exact findClass_of_methodNamed B.named
  have hl := lv_entry (As.map (qtv G)) (n := M.2.2.1) (by rw [lg_sl_len]; exact hlen)
  rw [lg_entry_eq]
  rw [lv_args_map] at hl
  have k2 := k p e s m _ below meth c s.heap [] _ ⟨B.exec, B.bytes, hml, B.returns, B.notSynchronized, hown, fun w hw => hts w (List.mem_cons_of_mem _ hw), hV, hsz, (name_of_methodNamed B.named B.method).1⟩ (Nat.le_refl _) (Nat.le_refl _) hr va_S.rf hl
  rw [Nat.sub_self, Nat.sub_self] at k2
  intro T9 hT9 X9
  obtain ⟨t, a1, a2⟩ := k2 T9 hT9 X9
  exact ⟨t, a1, a2 hth (qNm.of X9.frames B.named)⟩
theorem qS_join {G : GT} {H0 H : Heap} {st0 t T1 : State} {locs L : List Loc} (h0 : st0.heap = H) (e1 : T1.heap = t.heap) (hS : va_S (qA G) H0 H locs) (hF : va_F (qA G) st0 t) (hL : ∀ q ∈ L, qA G q.base) : va_S (qA G) H0 T1.heap (locs ++ L) := by
  obtain ⟨hz9, hk9⟩ := hF
  rw [h0] at hz9 hk9
  exact ⟨Nat.le_trans hS.1 (by rw [e1]; exact hz9), fun q h1 h2 => by rw [e1, hk9 q (Nat.lt_of_lt_of_le h1 hS.1) h2]; exact hS.2.1 q h1 h2, fun q hq => by
    rcases List.mem_append.mp hq with h | h
    · exact hS.2.2 q h
    · exact hL q h⟩
/-- a call that throws, caught: the handler stores what was thrown, and answers 1 -/
theorem x_invX {G : GT} {d d2 : Nat} {M M2 : MI} {n ix ci b hp k9 s9 e9 pc : Nat} {As st : List Value} {h0 h : PH} {T : PH → Prop} {Q : Option Value → PH → Prop} {lv : List (Nat × Value)}
    (hd : decode M.2.1 pc = .ok (.invokevirtual ix, 3)) (hw : Cond.methodLink M.1 ix M2.2.2.2.2 ∈ qw_good) (hf : qmf M2 n) (hv : qmv M2 ci) (ok : qOK h ci b) (hA : As.length = n) (hst : (st.map fun v => v.category).sum ≤ 8) (hR : d2 + 1 ≤ (qrm d 1 6).frames ∧ 8 + (M2.2.2.1 + 11) + 40 * d2 ≤ (qrm d 1 6).locals) (hM : Mx G d2 M2 (.ref b :: As) h T)
    (hcw : Cond.codeWith M.2.2.2.2 M.2.1 M.2.2.1 M.2.2.2.1 [(s9, e9, hp, 13)] ∈ qw_good) (hcov : (decide (s9 ≤ pc) && decide (pc < e9)) = true) (hlk : Cond.classLink M.1 13 nse ∈ qw_good)
    (e : qEx h0 h) (hn1 : qn h = qn h0) (hz1 : qz h = qz h0) (dh : decode M.2.1 hp = .ok (.astore k9, 2)) (hk9 : k9 < M.2.2.1) (dh2 : decode M.2.1 (hp + 2) = .ok (.iconst 1, 1)) (dh3 : decode M.2.1 (hp + 3) = .ok (.ireturn, 1)) (hr : M.2.2.2.1 = some .int)
    (kk : ∀ h1, T h1 → Q (some (.int 1)) h1) : Ex G (qrm d 1 6) M (qn h0) (qz h0) (ZH G M h0 1 6 Q) pc lv (As.reverse ++ .ref b :: st) h := by
  intro p en s m args below meth c H locs ls C hn hz r hS hl
  refine qsz C hn r hS (fun hsz => ?_)
  intro T9 hT9 X9
  by_cases hq : qTh G s ∧ qNm M below args s
  · obtain ⟨hth, hnm⟩ := hq
    have hnamed := hnm m X9.frames
    have htab : c.exceptionTable.toList = tableOf [(s9, e9, hp, 13)] := by
      obtain ⟨m9, meth9, c9, hn9, h1, h2, -, -, h6, -⟩ := Cond.codeWith_spec (C.hts _ hcw)
      cases Option.some.inj (hn9.symm.trans hnamed)
      cases Option.some.inj (h1.symm.trans X9.method)
      cases Option.some.inj (h2.symm.trans X9.code)
      rw [← h6, table_eq]
    obtain ⟨Tn, N, hc9, hlt, hi, hs⟩ := hv
    have run : vx_Run p G.1 en (qrm d 1 6) s m args below meth c H locs (qn h - qn h0) (qz h - qz h0) 1 6 (F0 m pc ls ((As.reverse ++ .ref b :: st).map (qtv G))) (st.map (qtv G)) (qNo (Value.ref (qtr G b) :: As.map (qtv G)).toArray) (qXC G h T) (qA G) := by
      refine vx_runV (b := qtr G b) (C := M2.2.2.2.2.cls) (As := As.map (qtv G)) (rest := st.map (qtv G)) ⟨C.1, C.2.1, C.mlen, C.own, C.hts⟩ hM ⟨qcallB C hw hf hR, C.hts _ hi, C.hts _ hs⟩ ⟨qPx_blind _, ?_, ?_⟩ rfl (by rw [List.length_map]; exact hA) hl.1 ?_ ?_ hd ?_
      · rw [qtr_lo (ok.lo r)]
        exact va_recv C.hK r.1 hc9 (qrel_at (H := H) ok hlt)
      · intro U hU hW
        exact ⟨⟨rfl, by rw [hU]; exact r, C.v.moved hW (fun a h1 h2 => by rw [hU]; exact hS.2.1 a h1 h2), by rw [hU]; exact hsz⟩, hth.moved hW (fun a h1 h2 => by rw [hU]; exact hS.2.1 a h1 h2)⟩
      · show List.map (qtv G) (As.reverse ++ .ref b :: st) = _
        rw [List.map_append, List.map_reverse]; rfl
      · show 2 * 0 + _ ≤ 8
        rw [List.map_map, show ((fun v : Value => v.category) ∘ qtv G) = (fun v => v.category) from funext (qtv_cat G)]
        omega
      · exact ⟨by show qn h - qn h0 + 1 ≤ 1; omega, by show qz h - qz h0 + 6 ≤ 6; omega⟩
    rcases run T9 hT9 X9 with ⟨v, st0, t, T', L, h0', X', hL, e1, e2, hno, -⟩ | ⟨q, st0, t, T', L, E, ce, h0', X', hL, e1, e2, ⟨rfl, hF, h1, hT1, hrel, hn9, hz9, hex⟩, hce, hcv, hcl, stp⟩
    · exact absurd hno (fun w => w)
    · have hS2 : va_S (qA G) s.heap T'.heap (locs ++ L) := qS_join h0' e1 hS hF hL
      have key : vx_W p G.1 en (qrm d 1 6) s m args below meth c T'.heap (locs ++ L) (qn h - qn h0 + 1) (qz h - qz h0 + 6) (MQ below (qQc G h0 1 6 Q) args s 1 6 (qA G)) (F0 m pc ls (st.map (qtv G))) q := by
        refine vx_catch (own := M.1) (name := nse) (E := nse) (ce := ce) C.own [] ⟨s9, e9, hp, 13⟩ [] htab (fun z hz => absurd hz List.not_mem_nil) hcov (show (13 : Nat) ≠ 0 by decide) (C.hts _ hlk) (hth.use _ List.mem_cons_self) (by rw [e1]; exact hce) hcv hcl ?_
        refine lv_astore C.1 C.2.1 dh (C.ml hl) (by rw [C.mlen]; exact hk9) rfl (fun ls2 hl2 => ?_)
        refine lv_iconst (v := 1) C.1 C.2.1 dh2 rfl ?_
        have k := W.iret (p := p) (l := G.1) (e := en) (R := qrm d 1 6) (m := m) (args := args) (below := below) (H := T'.heap) (locs := locs ++ L) (cells := qn h - qn h0 + 1) (slots := qz h - qz h0 + 6) (pc := hp + 2 + 1) (ls := ls2) (v := 1) C.1 C.2.1 (C.ret.trans hr) (qret (G := G) (h := h1) (h0 := h0) (mc := 1) (ms := 6) (Q := Q) (rv := some (.int 1)) (args := args) (by rw [e1]; exact hrel) hS2 (kk h1 hT1) (e.tr hex) (by omega) (by omega)) hS2.2.2 dh3 C.locks
        rw [show qn h - qn h0 + 1 = 1 by omega, show qz h - qz h0 + 6 = 6 by omega] at k ⊢
        exact k
      obtain ⟨t2, a1, b1⟩ := key T' rfl X'
      exact ⟨t2, stp.trans a1, fun _ _ => b1⟩
  · exact ⟨_, Steps.refl _, fun a b => absurd ⟨a, b⟩ hq⟩
/-- a static call of a method with a table of handlers -/
theorem x_invSH {G : GT} {R : Room} {M M2 : MI} {ns zs n d mc ms ix pc : Nat} {Zf : List Frame → Array Value → State → State → Prop} {hh : List (Nat × Nat × Nat × Nat)} {lv : List (Nat × Value)} {As st : List Value} {h : PH} {Q : Option Value → PH → Prop} (hd : decode M.2.1 pc = .ok (.invokestatic ix, 3)) (hw : Cond.methodLink M.1 ix M2.2.2.2.2 ∈ qw_good) (hcw : Cond.codeWith M2.2.2.2.2 M2.2.1 M2.2.2.1 M2.2.2.2.1 hh ∈ qw_good) (hini : Cond.initialized M2.2.2.2.2.cls ∈ qw_good)
    (hds : M2.2.2.2.2.cls ≠ "java/lang/invoke/MethodHandle" ∧ M2.2.2.2.2.cls ≠ "java/lang/invoke/VarHandle" ∧ (parseMethodDescriptor M2.2.2.2.2.desc).map (fun d => d.parameters.length) = some n) (hs : Cond.static M2.2.2.2.2 ∈ qw_good) (hA : As.length = n) (hst : (st.map fun v => v.category).sum ≤ 8) (hR : d + 1 ≤ R.frames ∧ 8 + (M2.2.2.1 + 11) + 40 * d ≤ R.locals) (hc : qn h - ns + mc ≤ R.cells ∧ qz h - zs + ms ≤ R.slots) (hM : Mh G d mc ms M2 hh As h Q)
    (hZ : ∀ below args s t, (qTh G s → Zf below args s t) → Zf below args s t)
    (kk : ∀ rv h1, Q rv h1 → qEx h h1 → qn h1 = qn h + mc → qz h1 = qz h + ms → Ex G R M ns zs Zf (pc + 3) lv (rv.toList ++ st) h1) : Ex G R M ns zs Zf pc lv (As.reverse ++ st) h := by
  intro p e s m args below meth c H locs ls C hn hz r hS hl
  refine qsz C hn r hS (fun hsz => ?_)
  by_cases hth : qTh G s
  · refine qcall (a := (As.map (qtv G)).toArray) C hn hz hS hl ?_ kk
    refine vx_runSW (hh := hh) (As := As.map (qtv G)) (rest := st.map (qtv G)) ⟨C.1, C.2.1, C.mlen, C.own, C.hts⟩ hM (vx_cwSW (Ts := qw_good) (ws' := qw_good) n C.hts ?_ rfl rfl rfl hds hR) ⟨qPx_blind _, ?_⟩ rfl (by rw [List.length_map]; exact hA) hl.1 ?_ ?_ hd hc
    · intro w hw9
      refine qw_gi w ?_
      unfold va_wsS at hw9
      rcases List.mem_append.mp hw9 with h9 | h9
      · simp only [List.mem_cons, List.not_mem_nil, or_false] at h9
        rcases h9 with rfl | rfl | rfl
        · exact hw
        · exact hs
        · exact hini
      · rcases List.mem_cons.mp h9 with rfl | h8
        · exact hcw
        · exact h8
    · intro U hU hW
      exact ⟨⟨rfl, by rw [hU]; exact r, C.v.moved hW (fun a h1 h2 => by rw [hU]; exact hS.2.1 a h1 h2), by rw [hU]; exact hsz⟩, hth.moved hW (fun a h1 h2 => by rw [hU]; exact hS.2.1 a h1 h2)⟩
    · show List.map (qtv G) (As.reverse ++ st) = _
      rw [List.map_append, List.map_reverse]
    · show 2 * 0 + _ ≤ 8
      rw [List.map_map, show ((fun v : Value => v.category) ∘ qtv G) = (fun v => v.category) from funext (qtv_cat G)]
      omega
  · intro T hT X
    exact ⟨_, Steps.refl _, hZ _ _ _ _ (fun w => absurd w hth)⟩

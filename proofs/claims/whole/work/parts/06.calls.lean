/-! ===== methods: start, end, calls ===== -/
def qrm (d mc ms : Nat) : Room := { frames := d, cells := mc, slots := ms, locals := 40 * d }
def qPc (G : GT) (As : List Value) (h : PH) : Array Value → State → Prop := fun a U => a = (As.map (qtv G)).toArray ∧ qRel G h U.heap ∧ qV G U ∧ U.heap.size = qB G + qn h
def qQc (G : GT) (h : PH) (mc ms : Nat) (Q : Option Value → PH → Prop) : Array Value → State → Outcome → State → Prop := fun _ st o t => (∃ (rv : Option Value) (h1 : PH), o = .returned (rv.map (qtv G)) ∧ Q rv h1 ∧ qRel G h1 t.heap ∧ qn h1 = qn h + mc ∧ qz h1 = qz h + ms ∧ qEx h h1) ∧ va_F (qA G) st t
/-- method M, from the arguments As over the pure heap h: it returns, with Q of its answer and of the heap behind it; mc cells of ms slots are new -/
def Mt (G : GT) (d mc ms : Nat) (M : MI) (As : List Value) (h : PH) (Q : Option Value → PH → Prop) : Prop :=
  Met G.1 M.2.2.2.2 (Cond.code M.2.2.2.2 M.2.1 M.2.2.1 M.2.2.2.1 :: qw_good) (qrm d mc ms) (qPc G As h) (qQc G h mc ms Q) mc ms (qA G)
def ZN (G : GT) (h : PH) (mc ms : Nat) (Q : Option Value → PH → Prop) : List Frame → Array Value → State → State → Prop := fun below args s => MQ below (qQc G h mc ms Q) args s mc ms (qA G)
theorem lv_args_map (G : GT) : ∀ (As : List Value) (i : Nat), lv_args i (As.map (qtv G)) = qtq G (lv_args i As)
  | [], _ => rfl
  | v :: vs, i => by
    show (i, qtv G v) :: lv_args (if (qtv G v).category = 2 then i + 2 else i + 1) (vs.map (qtv G)) = (i, qtv G v) :: qtq G (lv_args (if v.category = 2 then i + 2 else i + 1) vs)
    rw [qtv_cat, lv_args_map G vs]
def qlen (As : List Value) : Nat := (As.map (fun v => v.category)).sum
theorem lg_sl_len (G : GT) : ∀ As : List Value, (lg_sl (As.map (qtv G))).length = (lg_sl As).length
  | [] => rfl
  | v :: vs => by
    have h := lg_sl_len G vs
    simp only [lg_sl, List.map_cons, List.flatMap_cons, List.length_append] at h ⊢
    rw [h]
    congr 1
    cases v <;> rfl
theorem Mt.of {G : GT} {d mc ms : Nat} {M : MI} {As : List Value} {h : PH} {Q : Option Value → PH → Prop} (hy : plainName M.2.2.2.2.cls = true) (ho : M.1 = M.2.2.2.2.cls) (hlen : (lg_sl As).length ≤ M.2.2.1) (k : Ex G (qrm d mc ms) M (qn h) (qz h) (ZN G h mc ms Q) 0 (lv_args 0 As) [] h) : Mt G d mc ms M As h Q := by
  refine Met.ofW (cc := M.2.1) (maxL := M.2.2.1) (ret := M.2.2.2.1) hy rfl ?_
  intro p e s m args below meth c s₁ B hml hv
  obtain ⟨rfl, hr, hV, hsz⟩ := hv
  have hts := atoms_spec (ws := Cond.code M.2.2.2.2 M.2.1 M.2.2.1 M.2.2.2.1 :: qw_good) B.pre
  have hown : s.vm.findClass M.1 = some m.cls := by rw [ho]; exact findClass_of_methodNamed B.named
  have hl := lv_entry (As.map (qtv G)) (n := M.2.2.1) (by rw [lg_sl_len]; exact hlen)
  rw [lg_entry_eq]
  rw [lv_args_map] at hl
  have k2 := k p e s m _ below meth c s.heap [] _ ⟨B.exec, B.bytes, hml, B.returns, B.notSynchronized, hown, fun w hw => hts w (List.mem_cons_of_mem _ hw), hV, hsz, (name_of_methodNamed B.named B.method).1⟩ (Nat.le_refl _) (Nat.le_refl _) hr va_S.rf hl
  rw [Nat.sub_self, Nat.sub_self] at k2
  exact k2
section
variable {G : GT} {R : Room} {M : MI} {ns zs : Nat} {Zf : List Frame → Array Value → State → State → Prop} {pc : Nat} {lv : List (Nat × Value)} {st : List Value} {h : PH}
theorem qret {h0 : PH} {mc ms : Nat} {Q : Option Value → PH → Prop} {H : Heap} {locs : List Loc} {s : State} {args : Array Value} {rv : Option Value} (r : qRel G h H) (hS : va_S (qA G) s.heap H locs) (hq : Q rv h) (e : qEx h0 h) (hn1 : qn h = qn h0 + mc) (hz1 : qz h = qz h0 + ms) : ∀ t : State, t.heap = H → s.WarmedH t.vm → qQc G h0 mc ms Q args s (.returned (rv.map (qtv G))) t := fun t ht _ => ⟨⟨rv, h, rfl, hq, by rw [ht]; exact r, hn1, hz1, e⟩, hS.F ht⟩
theorem x_iret {h0 : PH} {mc ms : Nat} {Q : Option Value → PH → Prop} {v : Int32} (hd : decode M.2.1 pc = .ok (.ireturn, 1)) (hr : M.2.2.2.1 = some .int) (e : qEx h0 h) (hn1 : qn h = qn h0 + mc) (hz1 : qz h = qz h0 + ms) (hq : Q (some (.int v)) h) : Ex G R M (qn h0) (qz h0) (ZN G h0 mc ms Q) pc lv [.int v] h := by
  intro p e2 s m args below meth c H locs ls C hn hz r hS hl
  have k := W.iret (p := p) (l := G.1) (e := e2) (R := R) (m := m) (args := args) (below := below) (H := H) (locs := locs) (cells := qn h - qn h0) (slots := qz h - qz h0) (pc := pc) (ls := ls) (v := v) C.1 C.2.1 (C.ret.trans hr) (qret r hS hq e hn1 hz1) hS.2.2 hd C.locks
  rw [show qn h - qn h0 = mc by omega, show qz h - qz h0 = ms by omega] at k ⊢
  exact k
theorem x_zret {h0 : PH} {mc ms : Nat} {Q : Option Value → PH → Prop} {v : Int32} (hd : decode M.2.1 pc = .ok (.ireturn, 1)) (hr : M.2.2.2.1 = some .boolean) (e : qEx h0 h) (hn1 : qn h = qn h0 + mc) (hz1 : qz h = qz h0 + ms) (hv : v = 0 ∨ v = 1) (hq : Q (some (.int v)) h) : Ex G R M (qn h0) (qz h0) (ZN G h0 mc ms Q) pc lv [.int v] h := by
  intro p e2 s m args below meth c H locs ls C hn hz r hS hl
  have k := W.zret (p := p) (l := G.1) (e := e2) (R := R) (m := m) (args := args) (below := below) (H := H) (locs := locs) (cells := qn h - qn h0) (slots := qz h - qz h0) (pc := pc) (ls := ls) (v := v) C.1 C.2.1 (C.ret.trans hr) (by rcases hv with rfl | rfl <;> rfl) (qret r hS hq e hn1 hz1) hS.2.2 hd C.locks
  rw [show qn h - qn h0 = mc by omega, show qz h - qz h0 = ms by omega] at k ⊢
  exact k
theorem x_lret {h0 : PH} {mc ms : Nat} {Q : Option Value → PH → Prop} {v : Int64} (hd : decode M.2.1 pc = .ok (.lreturn, 1)) (hr : M.2.2.2.1 = some .long) (e : qEx h0 h) (hn1 : qn h = qn h0 + mc) (hz1 : qz h = qz h0 + ms) (hq : Q (some (.long v)) h) : Ex G R M (qn h0) (qz h0) (ZN G h0 mc ms Q) pc lv [.long v] h := by
  intro p e2 s m args below meth c H locs ls C hn hz r hS hl
  have k := W.lret (p := p) (l := G.1) (e := e2) (R := R) (m := m) (args := args) (below := below) (H := H) (locs := locs) (cells := qn h - qn h0) (slots := qz h - qz h0) (pc := pc) (ls := ls) (v := v) C.1 C.2.1 (C.ret.trans hr) (qret r hS hq e hn1 hz1) hS.2.2 hd C.locks
  rw [show qn h - qn h0 = mc by omega, show qz h - qz h0 = ms by omega] at k ⊢
  exact k
theorem x_vret {h0 : PH} {mc ms : Nat} {Q : Option Value → PH → Prop} (hd : decode M.2.1 pc = .ok (.return_, 1)) (hr : M.2.2.2.1 = none) (e : qEx h0 h) (hn1 : qn h = qn h0 + mc) (hz1 : qz h = qz h0 + ms) (hq : Q none h) : Ex G R M (qn h0) (qz h0) (ZN G h0 mc ms Q) pc lv [] h := by
  intro p e2 s m args below meth c H locs ls C hn hz r hS hl
  have k := W.vret (p := p) (l := G.1) (e := e2) (R := R) (m := m) (args := args) (below := below) (H := H) (locs := locs) (cells := qn h - qn h0) (slots := qz h - qz h0) (pc := pc) (ls := ls) C.1 C.2.1 (C.ret.trans hr) (qret (rv := none) r hS hq e hn1 hz1) hS.2.2 hd C.locks
  rw [show qn h - qn h0 = mc by omega, show qz h - qz h0 = ms by omega] at k ⊢
  exact k
theorem x_aret {h0 : PH} {mc ms : Nat} {Q : Option Value → PH → Prop} {o : Option Nat} {n9 : String} (hd : decode M.2.1 pc = .ok (.areturn, 1)) (hr : M.2.2.2.1 = some (.object n9)) (e : qEx h0 h) (hn1 : qn h = qn h0 + mc) (hz1 : qz h = qz h0 + ms) (hq : Q (some (va_rf o)) h) : Ex G R M (qn h0) (qz h0) (ZN G h0 mc ms Q) pc lv [va_rf o] h := by
  intro p e2 s m args below meth c H locs ls C hn hz r hS hl
  have k := W.aret (p := p) (l := G.1) (e := e2) (R := R) (m := m) (args := args) (below := below) (H := H) (locs := locs) (cells := qn h - qn h0) (slots := qz h - qz h0) (pc := pc) (ls := ls) (v := qtv G (va_rf o)) C.1 C.2.1 (C.ret.trans hr) (Or.inl ⟨_, rfl⟩) (by cases o with
    | none => exact Or.inl rfl
    | some x => exact Or.inr ⟨_, rfl⟩) (qret (rv := some (va_rf o)) r hS hq e hn1 hz1) hS.2.2 hd C.locks
  rw [show qn h - qn h0 = mc by omega, show qz h - qz h0 = ms by omega] at k ⊢
  exact k
/-- what a method's own words say of it: n parameters beside the receiver -/
def qmf (M : MI) (n : Nat) : Prop := Cond.code M.2.2.2.2 M.2.1 M.2.2.1 M.2.2.2.1 ∈ qw_good ∧ Cond.initialized M.2.2.2.2.cls ∈ qw_good ∧ M.2.2.2.2.cls ≠ "java/lang/invoke/MethodHandle" ∧ M.2.2.2.2.cls ≠ "java/lang/invoke/VarHandle" ∧ (parseMethodDescriptor M.2.2.2.2.desc).map (fun d => d.parameters.length) = some n
/-- .. of an instance method of class ci -/
def qmv (M : MI) (ci : Nat) : Prop := ∃ (T : u_T) (N : Nat), qcl[ci]? = some (M.2.2.2.2.cls, T, N) ∧ ci < 13 ∧ Cond.instanceMethod M.2.2.2.2 ∈ qw_good ∧ Cond.selects M.2.2.2.2.cls M.2.2.2.2 M.2.2.2.2 ∈ qw_good
theorem qPc_blind (As : List Value) : FrameBlind (qPc G As h) := fun a U g mk q => ⟨q.1, q.2.1, q.2.2.1.moved (s := U) (U := U.calling g mk a) (State.WarmedH.refl U) (fun _ _ _ => rfl), q.2.2.2⟩
theorem qcallB {p : Program} {s : State} {m : MethodId} {args : Array Value} {meth : Method} {c : Code} {M2 : MI} {n d mc ms ix : Nat} (C : Cx G M ns p s m args meth c) (hw : Cond.methodLink M.1 ix M2.2.2.2.2 ∈ qw_good) (hf : qmf M2 n) (hR : d + 1 ≤ R.frames ∧ 8 + (M2.2.2.1 + 11) + 40 * d ≤ R.locals) : CallB R s args M.1 ix M2.2.2.2.2 M2.2.1 M2.2.2.1 M2.2.2.2.1 (Cond.code M2.2.2.2.2 M2.2.1 M2.2.2.1 M2.2.2.2.1 :: qw_good) (qrm d mc ms) mc ms n :=
  callB_of n C.hts (fun w h => (List.mem_cons.mp h).elim (fun e => by rw [e]; exact qw_gi _ hf.1) (fun h => qw_gi w h)) rfl rfl rfl (C.hts _ hf.2.1) (C.hts _ hw) ⟨hf.2.2.1, hf.2.2.2.1, hf.2.2.2.2⟩ hR
/-- behind a call -/
theorem qcall {p : Program} {e : Env} {s : State} {m : MethodId} {args : Array Value} {below : List Frame} {meth : Method} {c : Code} {H : Heap} {locs : List Loc} {ls : Array Slot} {mc ms : Nat} {st0 : List Value} {a : Array Value} {Q : Option Value → PH → Prop} (C : Cx G M ns p s m args meth c) (hn : ns ≤ qn h) (hz : zs ≤ qz h) (hS : va_S (qA G) s.heap H locs) (hl : lv_has ls M.2.2.1 (qtq G lv))
    (hr : va_Run p G.1 e R s m args below meth c H locs (qn h - ns) (qz h - zs) mc ms (F0 m pc ls st0) (st.map (qtv G)) (qQc G h mc ms Q a) (qA G))
    (kk : ∀ rv h1, Q rv h1 → qEx h h1 → qn h1 = qn h + mc → qz h1 = qz h + ms → Ex G R M ns zs Zf (pc + 3) lv (rv.toList ++ st) h1) : W p G.1 e R s m args below meth c H locs (qn h - ns) (qz h - zs) (Zf below args s) (F0 m pc ls st0) := by
  intro T hT X
  obtain ⟨v, st₀, t, T', L, h0, X', hL, e1, e2, ⟨⟨rv, h1, hv, hq, hrel, hn1, hz1, hex⟩, hF⟩, go⟩ := hr T hT X
  have hv2 : v = rv.map (qtv G) := by injection hv
  obtain ⟨hz9, hk9⟩ := hF
  rw [h0] at hz9 hk9
  have hS2 : va_S (qA G) s.heap T'.heap (locs ++ L) := ⟨Nat.le_trans hS.1 (by rw [e1]; exact hz9), fun q h1 h2 => by rw [e1, hk9 q (Nat.lt_of_lt_of_le h1 hS.1) h2]; exact hS.2.1 q h1 h2, fun q hq => by
    rcases List.mem_append.mp hq with h | h
    · exact hS.2.2 q h
    · exact hL q h⟩
  have k2 := kk rv h1 hq hex hn1 hz1 p e s m args below meth c T'.heap (locs ++ L) ls C (by omega) (by omega) (by rw [e1]; exact hrel) hS2 hl
  rw [show qn h1 - ns = qn h - ns + mc by omega, show qz h1 - zs = qz h - zs + ms by omega] at k2
  obtain ⟨t2, a1, b1⟩ := k2 T' rfl X'
  refine ⟨t2, go t2 ?_, b1⟩
  rw [hv2]
  rw [show (List.map (qtv G) (rv.toList ++ st)) = (rv.map (qtv G)).toList ++ st.map (qtv G) by cases rv <;> rfl] at a1
  exact a1
theorem x_invV {M2 : MI} {n d mc ms ix ci b : Nat} {As : List Value} {Q : Option Value → PH → Prop} (hd : decode M.2.1 pc = .ok (.invokevirtual ix, 3)) (hw : Cond.methodLink M.1 ix M2.2.2.2.2 ∈ qw_good) (hf : qmf M2 n) (hv : qmv M2 ci) (ok : qOK h ci b) (hA : As.length = n) (hst : (st.map fun v => v.category).sum ≤ 8) (hR : d + 1 ≤ R.frames ∧ 8 + (M2.2.2.1 + 11) + 40 * d ≤ R.locals) (hc : qn h - ns + mc ≤ R.cells ∧ qz h - zs + ms ≤ R.slots) (hM : Mt G d mc ms M2 (.ref b :: As) h Q)
    (kk : ∀ rv h1, Q rv h1 → qEx h h1 → qn h1 = qn h + mc → qz h1 = qz h + ms → Ex G R M ns zs Zf (pc + 3) lv (rv.toList ++ st) h1) : Ex G R M ns zs Zf pc lv (As.reverse ++ .ref b :: st) h := by
  intro p e s m args below meth c H locs ls C hn hz r hS hl
  refine qsz C hn r hS (fun hsz => ?_)
  obtain ⟨T, N, hc9, hlt, hi, hs⟩ := hv
  refine qcall (a := (Value.ref (qtr G b) :: As.map (qtv G)).toArray) C hn hz hS hl ?_ kk
  refine va_runV (b := qtr G b) (C := M2.2.2.2.2.cls) (As := As.map (qtv G)) (rest := st.map (qtv G)) ⟨C.1, C.2.1, C.mlen, C.own, C.hts⟩ hM ⟨qcallB C hw hf hR, C.hts _ hi, C.hts _ hs⟩ ⟨qPc_blind _, ?_, ?_⟩ rfl (by rw [List.length_map]; exact hA) hl.1 ?_ ?_ hd hc
  · rw [qtr_lo (ok.lo r)]
    exact va_recv C.hK r.1 hc9 (qrel_at (H := H) ok hlt)
  · intro U hU hW
    refine ⟨rfl, by rw [hU]; exact r, C.v.moved hW (fun a h1 h2 => by rw [hU]; exact hS.2.1 a h1 h2), by rw [hU]; exact hsz⟩
  · show List.map (qtv G) (As.reverse ++ .ref b :: st) = _
    rw [List.map_append, List.map_reverse]; rfl
  · show 2 * 0 + _ ≤ 8
    rw [List.map_map, show ((fun v : Value => v.category) ∘ qtv G) = (fun v => v.category) from funext (qtv_cat G)]
    omega
theorem x_invS {M2 : MI} {n d mc ms ix : Nat} {As : List Value} {Q : Option Value → PH → Prop} (hd : decode M.2.1 pc = .ok (.invokestatic ix, 3)) (hw : Cond.methodLink M.1 ix M2.2.2.2.2 ∈ qw_good) (hf : qmf M2 n) (hs : Cond.static M2.2.2.2.2 ∈ qw_good) (hA : As.length = n) (hst : (st.map fun v => v.category).sum ≤ 8) (hR : d + 1 ≤ R.frames ∧ 8 + (M2.2.2.1 + 11) + 40 * d ≤ R.locals) (hc : qn h - ns + mc ≤ R.cells ∧ qz h - zs + ms ≤ R.slots) (hM : Mt G d mc ms M2 As h Q)
    (kk : ∀ rv h1, Q rv h1 → qEx h h1 → qn h1 = qn h + mc → qz h1 = qz h + ms → Ex G R M ns zs Zf (pc + 3) lv (rv.toList ++ st) h1) : Ex G R M ns zs Zf pc lv (As.reverse ++ st) h := by
  intro p e s m args below meth c H locs ls C hn hz r hS hl
  refine qsz C hn r hS (fun hsz => ?_)
  refine qcall (a := (As.map (qtv G)).toArray) C hn hz hS hl ?_ kk
  refine va_runS (As := As.map (qtv G)) (rest := st.map (qtv G)) ⟨C.1, C.2.1, C.mlen, C.own, C.hts⟩ hM ⟨qcallB C hw hf hR, C.hts _ hs⟩ ⟨qPc_blind _, ?_⟩ rfl (by rw [List.length_map]; exact hA) hl.1 ?_ ?_ hd hc
  · intro U hU hW
    refine ⟨rfl, by rw [hU]; exact r, C.v.moved hW (fun a h1 h2 => by rw [hU]; exact hS.2.1 a h1 h2), by rw [hU]; exact hsz⟩
  · show List.map (qtv G) (As.reverse ++ st) = _
    rw [List.map_append, List.map_reverse]
  · show 2 * 0 + _ ≤ 8
    rw [List.map_map, show ((fun v : Value => v.category) ∘ qtv G) = (fun v => v.category) from funext (qtv_cat G)]
    omega
theorem x_invI {M2 : MI} {n d mc ms ix b : Nat} {As : List Value} {Q : Option Value → PH → Prop} (hd : decode M.2.1 pc = .ok (.invokespecial ix, 3)) (hw : Cond.methodLink M.1 ix M2.2.2.2.2 ∈ qw_good ∨ ∃ host, Cond.methodLinkNest M.1 ix M2.2.2.2.2 host ∈ qw_nest) (hf : qmf M2 n) (hret : M2.2.2.2.1 = none) (hnm : M2.2.2.2.2.name = "<init>") (hi : Cond.instanceMethod M2.2.2.2.2 ∈ qw_good) (hA : As.length = n) (hst : (st.map fun v => v.category).sum ≤ 8) (hR : d + 1 ≤ R.frames ∧ 8 + (M2.2.2.1 + 11) + 40 * d ≤ R.locals) (hc : qn h - ns + mc ≤ R.cells ∧ qz h - zs + ms ≤ R.slots) (hM : Mt G d mc ms M2 (.ref b :: As) h Q)
    (kk : ∀ rv h1, Q rv h1 → qEx h h1 → qn h1 = qn h + mc → qz h1 = qz h + ms → Ex G R M ns zs Zf (pc + 3) lv (rv.toList ++ st) h1) : Ex G R M ns zs Zf pc lv (As.reverse ++ .ref b :: st) h := by
  intro p e s m args below meth c H locs ls C hn hz r hS hl
  refine qsz C hn r hS (fun hsz => ?_)
  refine qcall (a := (Value.ref (qtr G b) :: As.map (qtv G)).toArray) C hn hz hS hl ?_ kk
  have hpre : PreS s H (qPc G (.ref b :: As) h) (.ref (qtr G b) :: As.map (qtv G)) := ⟨qPc_blind _, fun U hU hW => ⟨rfl, by rw [hU]; exact r, C.v.moved hW (fun a h1 h2 => by rw [hU]; exact hS.2.1 a h1 h2), by rw [hU]; exact hsz⟩⟩
  have hstk : List.map (qtv G) (As.reverse ++ .ref b :: st) = (As.map (qtv G)).reverse ++ .ref (qtr G b) :: st.map (qtv G) := by rw [List.map_append, List.map_reverse]; rfl
  have hcat : ((st.map (qtv G)).map fun v => v.category).sum ≤ 8 := by
    rw [List.map_map, show ((fun v : Value => v.category) ∘ qtv G) = (fun v => v.category) from funext (qtv_cat G)]
    exact hst
  rcases hw with hw | ⟨host, hw⟩
  · have cb := qcallB (R := R) (mc := mc) (ms := ms) C hw hf hR
    rw [hret] at cb
    unfold Mt at hM
    rw [hret] at hM
    exact va_runI (b := qtr G b) (As := As.map (qtv G)) (rest := st.map (qtv G)) ⟨C.1, C.2.1, C.mlen, C.own, C.hts⟩ hM ⟨cb, hnm, C.hts _ hi⟩ hpre rfl (by rw [List.length_map]; exact hA) hl.1 hstk (by show 2 * 0 + _ ≤ 8; omega) hd hc
  · have cb : va_CN R s args M.1 ix M2.2.2.2.2 host M2.2.1 M2.2.2.1 M2.2.2.2.1 (Cond.code M2.2.2.2.2 M2.2.1 M2.2.2.1 M2.2.2.2.1 :: qw_good) (qrm d mc ms) mc ms n := va_cnB n C.hts (fun w h => (List.mem_cons.mp h).elim (fun e => by rw [e]; exact qw_gi _ hf.1) (fun h => qw_gi w h)) rfl rfl rfl (C.v.2.1 _ hw) (C.hts _ hf.2.1) ⟨hf.2.2.1, hf.2.2.2.1, hf.2.2.2.2⟩ hR
    rw [hret] at cb
    unfold Mt at hM
    rw [hret] at hM
    exact va_runIN (b := qtr G b) (As := As.map (qtv G)) (rest := st.map (qtv G)) ⟨C.1, C.2.1, C.mlen, C.own, C.hts⟩ hM ⟨cb, hnm, C.hts _ hi⟩ hpre rfl (by rw [List.length_map]; exact hA) hl.1 hstk (by show 2 * 0 + _ ≤ 8; omega) hd hc
end

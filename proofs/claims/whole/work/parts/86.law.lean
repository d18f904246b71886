/-! ===== the law: words of the claim's skeleton, rows of its own body ===== -/
def R_law : String := "ForeverOfficeLaw"
def lw_P (b : Addr) (xs : List Int32) (args : Array Value) (s : State) : Prop := args = #[.ref b] ∧ s.IntsAt b xs ∧ xs.length ≤ 3072 ∧ (Jvm.Cond.and given_1 narrow_1).before args s = true
def lw_Q (_ : Array Value) (s : State) (o : Outcome) (t : State) : Prop := o = .returned (some (.int 1)) ∧ Framed s o t [] 601024 7293034
def lw_Z (below : List Frame) (a : Array Value) (s : State) : State → Prop := fun t => ∃ o, t.status = .running ∧ Ended t below o ∧ lw_Q a s o t
/-- the law's own end, with 1 on the stack, nothing written that was there before, its room as the claim has it -/
theorem lw_ret {p : Program} {l : Launch} {e : Env} {s : State} {m : MethodId} {below : List Frame} {meth : Method} {c : Code} {b : Nat} (hx : p.tables.exec = Jvm.exec) (hb : c.code = code) (hr : meth.sig.returnType = ret) (hlocks : meth.locks = false) {pc : Nat} {H : Heap} {ls : Array Slot} (hdg : decode code pc = .ok (.ireturn, 1)) : W p l e room_1 s m #[Value.ref b] below meth c H [] 601024 7293034 (lw_Z below #[Value.ref b] s) (F0 m pc ls [.int 1]) := by
  intro T hT X
  obtain ⟨fs, hret, hrun, hended, hW, hframe⟩ := X.leave (v := some (.int 1)) (hlocks := hlocks) (fun h => by rw [hr] at h; cases h)
  have hmeth' : T.vm.method? m = some meth := X.method'
  refine ⟨T.setFrames fs, ?_, .returned (some (.int 1)), hrun, hended, rfl, ⟨_, rfl⟩, hW, hframe⟩
  jvm_step X.here [X.here.top, hx, hb, hdg, hmeth', hr, ret, narrow_b1]
  (try refine ⟨rfl, ?_⟩); (try refine ⟨rfl, ?_⟩)
  first | (intro acts; rw [hret _ acts rfl rfl rfl]) | rw [hret _ _ rfl rfl rfl]
  exact Steps.refl _
/-- what holds at the law's entry: the machine, the code, the tables' words (any of lw_tbl by 'hts w (by decide +kernel)'), the script of L ints xs at the cell b, what the Statement gives of the start (any of its parts by flat_of_before) -/
def lw_At (p : Program) (s : State) (m : MethodId) (meth : Method) (c : Code) (b L : Nat) (xs : Nat → Int32) : Prop :=
  p.tables.exec = Jvm.exec ∧ c.code = code ∧ meth.sig.returnType = ret ∧ c.maxLocals = 7 ∧ s.vm.findClass R_law = some m.cls ∧ (∀ w ∈ lw_tbl, w.before #[Value.ref b] s = true) ∧ va_X b L xs s s.heap ∧ b < s.heap.size ∧ meth.locks = false ∧ (Jvm.Cond.and given_1 narrow_1).before #[Value.ref b] s = true
abbrev mL_law : MI := (RL, cL_law, 7, (some .boolean), yL_law)
/-- what the law's rows may take for granted of its start: the script, and what a throw needs -/
def lwF (G : GT) (L : Nat) (xs : Nat → Int32) (args : Array Value) (s : State) : Prop := qTh G s ∧ va_X (qad G 35) L xs s s.heap ∧ qad G 35 < s.heap.size ∧ args = #[Value.ref (qad G 35)]
def ZL (G : GT) (L : Nat) (xs : Nat → Int32) : List Frame → Array Value → State → State → Prop := fun below args s t => lwF G L xs args s → lw_Z below args s t
theorem ZL.th {G : GT} {L : Nat} {xs : Nat → Int32} (below : List Frame) (args : Array Value) (s t : State) (k : qTh G s → ZL G L xs below args s t) : ZL G L xs below args s t := fun f => k f.1 f
section
variable {G : GT} {R : Room} {M : MI} {L zs : Nat} {xs : Nat → Int32} {pc : Nat} {lv : List (Nat × Value)} {st : List Value} {h : PH}
theorem lw_nA {p : Program} {s : State} {m : MethodId} {args : Array Value} {meth : Method} {c : Code} {b : Nat} (C : Cx G M 0 p s m args meth c) (hb : b < s.heap.size) : ¬ qA G b := fun z => by
  have h1 := C.hsz
  have h2 : qB G ≤ b := z
  omega
theorem x_slen (hd : decode M.2.1 pc = .ok (.arraylength, 1)) (kk : Ex G R M 0 zs (ZL G L xs) (pc + 1) lv (.int (nI L) :: st) h) : Ex G R M 0 zs (ZL G L xs) pc lv (.ref (wd 35) :: st) h := by
  intro p e s m args below meth c H locs ls C hn hz r hS hl T hT X
  by_cases hq : lwF G L xs args s
  · have key : W p G.1 e R s m args below meth c H locs (qn h - 0) (qz h - zs) (ZL G L xs below args s) (F0 m pc ls (.ref (qad G 35) :: st.map (qtv G))) := va_slen C.1 C.2.1 hq.2.1 hq.2.2.1 (lw_nA C hq.2.2.1) hS hd (kk p e s m args below meth c H locs ls C hn hz r hS hl)
    have e1 : List.map (qtv G) (.ref (wd 35) :: st) = .ref (qad G 35) :: st.map (qtv G) := by rw [List.map_cons, show qtv G (.ref (wd 35)) = .ref (qtr G (wd 35)) from rfl, qtr_wd]
    rw [e1]
    exact key T hT X
  · exact ⟨_, Steps.refl _, fun z => absurd z hq⟩
theorem x_sld {i : Int32} (hd : decode M.2.1 pc = .ok (.iaload, 1)) (hi : vp_in i L) (kk : Ex G R M 0 zs (ZL G L xs) (pc + 1) lv (.int (xs i.toNatClampNeg) :: st) h) : Ex G R M 0 zs (ZL G L xs) pc lv (.int i :: .ref (wd 35) :: st) h := by
  intro p e s m args below meth c H locs ls C hn hz r hS hl T hT X
  by_cases hq : lwF G L xs args s
  · have key : W p G.1 e R s m args below meth c H locs (qn h - 0) (qz h - zs) (ZL G L xs below args s) (F0 m pc ls (.int i :: .ref (qad G 35) :: st.map (qtv G))) := va_sld C.1 C.2.1 hq.2.1 hq.2.2.1 (lw_nA C hq.2.2.1) hS hi hd (kk p e s m args below meth c H locs ls C hn hz r hS hl)
    have e1 : List.map (qtv G) (.int i :: .ref (wd 35) :: st) = .int i :: .ref (qad G 35) :: st.map (qtv G) := by rw [List.map_cons, List.map_cons, show qtv G (.ref (wd 35)) = .ref (qtr G (wd 35)) from rfl, qtr_wd]; rfl
    rw [e1]
    exact key T hT X
  · exact ⟨_, Steps.refl _, fun z => absurd z hq⟩
end
theorem x_lend {G : GT} {L : Nat} {xs : Nat → Int32} {pc : Nat} {lv : List (Nat × Value)} {h : PH} (hd : decode code pc = .ok (.ireturn, 1)) (h1 : qn h ≤ 601024) (h2 : qz h ≤ 7293034) : Ex G room_1 mL_law 0 0 (ZL G L xs) pc lv [.int 1] h := by
  intro p e s m args below meth c H locs ls C hn hz r hS hl T hT X
  by_cases hq : lwF G L xs args s
  · obtain ⟨_, _, _, rfl⟩ := hq
    have key : W p G.1 e room_1 s m #[Value.ref (qad G 35)] below meth c H locs (qn h - 0) (qz h - 0) (lw_Z below #[Value.ref (qad G 35)] s) (F0 m pc ls [.int 1]) := va_forget (fun q hq => by
      have a1 : qB G ≤ q.base := hS.2.2 q hq
      have a2 := C.hsz
      omega) (W.widen (by omega) (by omega) (lw_ret C.1 C.2.1 C.ret C.locks hd))
    obtain ⟨t, a1, b1⟩ := key T hT X
    exact ⟨t, a1, fun _ => b1⟩
  · exact ⟨_, Steps.refl _, fun z => absurd z hq⟩
/-- room for a call -/
theorem lw_C {h : PH} {mc ms : Nat} (r : qn h ≤ 10000 ∧ qz h ≤ 1000000) (h1 : mc ≤ 100) (h2 : ms ≤ 10000) : qn h - 0 + mc ≤ room_1.cells ∧ qz h - 0 + ms ≤ room_1.slots := ⟨by show qn h - 0 + mc ≤ 601024; omega, by show qz h - 0 + ms ≤ 7293034; omega⟩
theorem sc_in {i L : Nat} (c : Nat) {v : Int32} (hv : v = nI c) (h : i + c < L) (hL : L ≤ 3072) : vp_in (nI i + v) L := by
  rw [hv, nI_add]; exact vp_in_nI h (by omega)
theorem lw_cmp (x : Int64) : lg_cmp x x = 0 := by
  unfold lg_cmp
  simp
/-- the law's locals in its loop -/
abbrev lwV (i : Nat) : List (Nat × Value) := [(4, .int (nI i)), (3, .ref 92), (2, .ref 70), (1, .ref 0), (0, .ref (wd 35))]
abbrev LwE (G : GT) (L : Nat) (xs : Nat → Int32) (pc i : Nat) (h : PH) : Prop := Ex G room_1 mL_law 0 0 (ZL G L xs) pc (lwV i) [] h
def LwR (h : PH) : Prop := qn h ≤ 9000 ∧ qz h ≤ 900000
theorem Inv.k0 {h : PH} (i : Inv h) : qOK h 10 0 := ⟨by have := i.1.1; omega, (i.1.2.1 0 (by decide)).1⟩
theorem Inv.k70 {h : PH} (i : Inv h) : qOK h 11 70 := ⟨by have := i.1.1; omega, (i.1.2.1 70 (by decide)).1⟩
theorem Inv.k92 {h : PH} (i : Inv h) : qOK h 15 92 := ⟨by have := i.1.1; omega, (i.1.2.1 92 (by decide)).1⟩

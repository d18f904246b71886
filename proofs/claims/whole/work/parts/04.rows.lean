/-! ===== the judgement: from a pure frame over a pure heap the machine comes to a state with Zf ===== -/
def qwn : List String := ["TURN", "RUB", "WEIGHT", "FLOAT", "MAGNET", "SPRING", "FED", "ARM", "OUT", "FROM", "TO", "AT", "SHUT", "EACH", "SOME", "ALL", "OR", "AND", "NOT", "RIGHT", "LEFT", "RIGHTS", "LEFTS", "WET", "GIVES", "TAKES", "HIGH", "IN", "HEARS", "GOES", "COUNT", "DOOR", "MODEL", "LAW"]
def qwF : List (String × String × String × List Int32) := [("ForeverOffice$Word", "code", "I", [409469, 13691, 332864552, 3435824, 187215374, 281493529, 4513, 1228, 11522, 131638, 555, 47, 380396, 99233, 385268, 1065, 423, 1111, 10631, 9748424, 240023, 263207467, 6480640, 16922, 3913426, 10656676, 164222, 257, 4351177, 148870, 1905275, 90090, 7207041, 8798]), ("ForeverOffice$Word", "reserved", "Z", [1, 1, 1, 1, 1, 1, 1, 1, 1, 1, 1, 1, 1, 0, 0, 0, 0, 0, 0, 0, 0, 0, 0, 0, 0, 0, 0, 0, 0, 0, 0, 0, 0, 0]), ("ForeverOffice$Word", "valueIndex", "I", [(-1), (-1), (-1), (-1), (-1), (-1), (-1), (-1), (-1), (-1), (-1), (-1), (-1), (-1), (-1), (-1), (-1), (-1), (-1), 0, 1, 2, 3, 4, 5, 6, 7, (-1), (-1), (-1), (-1), (-1), (-1), (-1)]), ("ForeverOffice$Word", "sayingIndex", "I", [1, 4, (-1), (-1), (-1), (-1), 5, (-1), (-1), (-1), (-1), (-1), (-1), (-1), (-1), (-1), (-1), (-1), (-1), (-1), (-1), (-1), (-1), (-1), (-1), (-1), (-1), (-1), (-1), (-1), 0, 2, 3, 6])]

abbrev MI : Type := String × ByteArray × Nat × Option FieldType × MethodName
def qV (G : GT) (U : State) : Prop := va_K (qD G) qcl (qtys G) U ∧ (∀ w ∈ qw_nest, va_Nw w U) ∧ va_En "ForeverOffice$Word" "LForeverOffice$Word;" qwn qwF (qad G) (qA G) U U.heap ∧ va_Z "ForeverOffice$Word" "KNOWN" "[LForeverOffice$Word;" (.ref (qad G 34)) (qA G) U U.heap ∧ va_T (.object "ForeverOffice$Word") (qad G 34) 34 (fun j => .ref (qad G j)) (qA G) U U.heap ∧ va_AO "ForeverOffice$Drawing" U ∧ va_AO "ForeverOffice$Part" U
theorem qV.moved {G : GT} {s U : State} (hW : s.WarmedH U.vm) (hk : ∀ a : Nat, a < s.heap.size → ¬ qA G a → U.heap[a]? = s.heap[a]?) (v : qV G s) : qV G U :=
  ⟨va_K.moved hW.alike v.1, fun w hw => qw_warm hw hW (v.2.1 w hw), (va_En.moved hW.alike v.2.2.1).kept hk, (va_Z.moved hW.alike v.2.2.2.1).kept hk, (va_T.moved hW.alike v.2.2.2.2.1).kept hk, va_AO.moved hW.alike v.2.2.2.2.2.1, va_AO.moved hW.alike v.2.2.2.2.2.2⟩
def Cx (G : GT) (M : MI) (ns : Nat) (p : Program) (s : State) (m : MethodId) (args : Array Value) (meth : Method) (c : Code) : Prop :=
  p.tables.exec = Jvm.exec ∧ c.code = M.2.1 ∧ c.maxLocals = M.2.2.1 ∧ meth.sig.returnType = M.2.2.2.1 ∧ meth.locks = false ∧ s.vm.findClass M.1 = some m.cls ∧ (∀ w ∈ qw_good, w.before args s = true) ∧ qV G s ∧ s.heap.size = qB G + ns ∧ meth.name = M.2.2.2.2.name
def qtq (G : GT) (lv : List (Nat × Value)) : List (Nat × Value) := lv.map (fun q => (q.1, qtv G q.2))
def Ex (G : GT) (R : Room) (M : MI) (ns zs : Nat) (Zf : List Frame → Array Value → State → State → Prop) (pc : Nat) (lv : List (Nat × Value)) (st : List Value) (h : PH) : Prop :=
  ∀ (p : Program) (e : Env) (s : State) (m : MethodId) (args : Array Value) (below : List Frame) (meth : Method) (c : Code) (H : Heap) (locs : List Loc) (ls : Array Slot),
    Cx G M ns p s m args meth c → ns ≤ qn h → zs ≤ qz h → qRel G h H → va_S (qA G) s.heap H locs → lv_has ls M.2.2.1 (qtq G lv) →
    W p G.1 e R s m args below meth c H locs (qn h - ns) (qz h - zs) (Zf below args s) (F0 m pc ls (st.map (qtv G)))
section
variable {G : GT} {M : MI} {ns : Nat} {p : Program} {s : State} {m : MethodId} {args : Array Value} {meth : Method} {c : Code}
theorem Cx.own (C : Cx G M ns p s m args meth c) : s.vm.findClass M.1 = some m.cls := C.2.2.2.2.2.1
theorem Cx.hts (C : Cx G M ns p s m args meth c) : ∀ w ∈ qw_good, w.before args s = true := C.2.2.2.2.2.2.1
theorem Cx.v (C : Cx G M ns p s m args meth c) : qV G s := C.2.2.2.2.2.2.2.1
theorem Cx.hK (C : Cx G M ns p s m args meth c) : va_K (qD G) qcl (qtys G) s := C.v.1
theorem Cx.ret (C : Cx G M ns p s m args meth c) : meth.sig.returnType = M.2.2.2.1 := C.2.2.2.1
theorem Cx.locks (C : Cx G M ns p s m args meth c) : meth.locks = false := C.2.2.2.2.1
theorem Cx.hsz (C : Cx G M ns p s m args meth c) : s.heap.size = qB G + ns := C.2.2.2.2.2.2.2.2.1
theorem Cx.nm (C : Cx G M ns p s m args meth c) : meth.name = M.2.2.2.2.name := C.2.2.2.2.2.2.2.2.2
theorem Cx.mlen (C : Cx G M ns p s m args meth c) : c.maxLocals = M.2.2.1 := C.2.2.1
theorem Cx.ml (C : Cx G M ns p s m args meth c) {ls : Array Slot} {l : List (Nat × Value)} (h : lv_has ls M.2.2.1 l) : lv_has ls c.maxLocals l := by rw [C.mlen]; exact h
theorem Cx.lm (C : Cx G M ns p s m args meth c) {ls : Array Slot} {l : List (Nat × Value)} (h : lv_has ls c.maxLocals l) : lv_has ls M.2.2.1 l := by rw [← C.mlen]; exact h
theorem Cx.hA (C : Cx G M ns p s m args meth c) : ∀ q, s.heap.size ≤ q → qA G q := fun q h => by
  have := C.hsz
  show qB G ≤ q
  omega
end
theorem qtv_cat (G : GT) (v : Value) : (qtv G v).category = v.category := by cases v <;> rfl
def qlk (lv : List (Nat × Value)) (i : Nat) : Option Value := (lv.find? (fun q => q.1 == i)).map (fun q => q.2)
theorem qlk_mem {G : GT} {lv : List (Nat × Value)} {i : Nat} {v : Value} (h : qlk lv i = some v) : (i, qtv G v) ∈ qtq G lv := by
  unfold qlk at h
  cases hf : lv.find? (fun q => q.1 == i) with
  | none => rw [hf] at h; cases h
  | some q =>
    rw [hf] at h
    have h1 := List.find?_some hf
    have h2 := List.mem_of_find?_eq_some hf
    have e1 : q.1 = i := by simpa using h1
    have e2 : q.2 = v := by simpa using h
    refine List.mem_map.mpr ⟨q, h2, ?_⟩
    rw [e1, e2]
theorem qlk_at {G : GT} {ls : Array Slot} {n : Nat} {lv : List (Nat × Value)} {i : Nat} {v : Value} (hl : lv_has ls n (qtq G lv)) (h : qlk lv i = some v) : ls[i]? = some (.val (qtv G v)) := hl.2.2 _ (qlk_mem h)
def qput (lv : List (Nat × Value)) (i : Nat) (v : Value) : List (Nat × Value) := (i, v) :: lv.filter (fun q => !(q.1 == i) && !(q.1 + 1 == i && q.2.category == 2))
def qput2 (lv : List (Nat × Value)) (i : Nat) (v : Value) : List (Nat × Value) := (i, v) :: lv.filter (fun q => !(q.1 == i) && (!(q.1 == i + 1) && !(q.1 + 1 == i && q.2.category == 2)))
theorem qput_map {G : GT} {ls : Array Slot} {n i : Nat} {v : Value} {lv : List (Nat × Value)} (h : lv_has ls n ((i, qtv G v) :: (qtq G lv).filter (fun q => !(q.1 == i) && !(q.1 + 1 == i && q.2.category == 2)))) : lv_has ls n (qtq G (qput lv i v)) := by
  have e : qtq G (qput lv i v) = (i, qtv G v) :: (qtq G lv).filter (fun q => !(q.1 == i) && !(q.1 + 1 == i && q.2.category == 2)) := by
    simp only [qtq, qput, List.map_cons, List.filter_map]
    congr 2
    apply List.filter_congr
    intro q _
    simp [qtv_cat]
  rw [e]; exact h
theorem qput2_map {G : GT} {ls : Array Slot} {n i : Nat} {v : Value} {lv : List (Nat × Value)} (h : lv_has ls n ((i, qtv G v) :: (qtq G lv).filter (fun q => !(q.1 == i) && (!(q.1 == i + 1) && !(q.1 + 1 == i && q.2.category == 2))))) : lv_has ls n (qtq G (qput2 lv i v)) := by
  have e : qtq G (qput2 lv i v) = (i, qtv G v) :: (qtq G lv).filter (fun q => !(q.1 == i) && (!(q.1 == i + 1) && !(q.1 + 1 == i && q.2.category == 2))) := by
    simp only [qtq, qput2, List.map_cons, List.filter_map]
    congr 2
    apply List.filter_congr
    intro q _
    simp [qtv_cat]
  rw [e]; exact h
/-- x >>> y -/
def q_ushr (x y : Int32) : Int32 := (x.toUInt32 >>> (y.toUInt32 &&& Int32.toUInt32 31)).toInt32

theorem x_iconst {G : GT} {R : Room} {M : MI} {ns zs : Nat} {Zf : List Frame → Array Value → State → State → Prop} {pc : Nat} {lv : List (Nat × Value)} {st : List Value} {h : PH} {n : Int} {v : Int32} (hd : decode M.2.1 pc = .ok (.iconst n, 1)) (hv : Int32.ofInt n = v) (kk : Ex G R M ns zs Zf (pc + 1) lv (.int v :: st) h) : Ex G R M ns zs Zf pc lv st h := by
  intro p e s m args below meth c H locs ls C hn hz r hS hl
  exact lv_iconst C.1 C.2.1 hd hv (kk p e s m args below meth c H locs ls C hn hz r hS hl)

theorem x_bipush {G : GT} {R : Room} {M : MI} {ns zs : Nat} {Zf : List Frame → Array Value → State → State → Prop} {pc : Nat} {lv : List (Nat × Value)} {st : List Value} {h : PH} {n : Int} {v : Int32} (hd : decode M.2.1 pc = .ok (.bipush n, 2)) (hv : (Int8.ofInt n).toInt32 = v) (kk : Ex G R M ns zs Zf (pc + 2) lv (.int v :: st) h) : Ex G R M ns zs Zf pc lv st h := by
  intro p e s m args below meth c H locs ls C hn hz r hS hl
  exact lv_bipush C.1 C.2.1 hd hv (kk p e s m args below meth c H locs ls C hn hz r hS hl)

theorem x_sipush {G : GT} {R : Room} {M : MI} {ns zs : Nat} {Zf : List Frame → Array Value → State → State → Prop} {pc : Nat} {lv : List (Nat × Value)} {st : List Value} {h : PH} {n : Int} {v : Int32} (hd : decode M.2.1 pc = .ok (.sipush n, 3)) (hv : (Int16.ofInt n).toInt32 = v) (kk : Ex G R M ns zs Zf (pc + 3) lv (.int v :: st) h) : Ex G R M ns zs Zf pc lv st h := by
  intro p e s m args below meth c H locs ls C hn hz r hS hl
  exact lv_sipush C.1 C.2.1 hd hv (kk p e s m args below meth c H locs ls C hn hz r hS hl)

theorem x_lconst {G : GT} {R : Room} {M : MI} {ns zs : Nat} {Zf : List Frame → Array Value → State → State → Prop} {pc : Nat} {lv : List (Nat × Value)} {st : List Value} {h : PH} {n : Fin 2} {v : Int64} (hd : decode M.2.1 pc = .ok (.lconst n, 1)) (hv : Int64.ofNat (n : Nat) = v) (kk : Ex G R M ns zs Zf (pc + 1) lv (.long v :: st) h) : Ex G R M ns zs Zf pc lv st h := by
  intro p e s m args below meth c H locs ls C hn hz r hS hl
  exact lv_lconst C.1 C.2.1 hd hv (kk p e s m args below meth c H locs ls C hn hz r hS hl)

theorem x_ldc {G : GT} {R : Room} {M : MI} {ns zs : Nat} {Zf : List Frame → Array Value → State → State → Prop} {pc : Nat} {lv : List (Nat × Value)} {st : List Value} {h : PH} {ix : Nat} {v : Int32} (hd : decode M.2.1 pc = .ok (.ldc ix, 2)) (hw : Cond.constant M.1 ix v ∈ qw_good) (kk : Ex G R M ns zs Zf (pc + 2) lv (.int v :: st) h) : Ex G R M ns zs Zf pc lv st h := by
  intro p e s m args below meth c H locs ls C hn hz r hS hl
  exact lv_ldc C.1 C.2.1 C.own (C.hts _ hw) hd (kk p e s m args below meth c H locs ls C hn hz r hS hl)

theorem x_ldcw {G : GT} {R : Room} {M : MI} {ns zs : Nat} {Zf : List Frame → Array Value → State → State → Prop} {pc : Nat} {lv : List (Nat × Value)} {st : List Value} {h : PH} {ix : Nat} {v : Int32} (hd : decode M.2.1 pc = .ok (.ldc_w ix, 3)) (hw : Cond.constant M.1 ix v ∈ qw_good) (kk : Ex G R M ns zs Zf (pc + 3) lv (.int v :: st) h) : Ex G R M ns zs Zf pc lv st h := by
  intro p e s m args below meth c H locs ls C hn hz r hS hl
  exact lv_ldcw C.1 C.2.1 C.own (C.hts _ hw) hd (kk p e s m args below meth c H locs ls C hn hz r hS hl)

theorem x_ldc2 {G : GT} {R : Room} {M : MI} {ns zs : Nat} {Zf : List Frame → Array Value → State → State → Prop} {pc : Nat} {lv : List (Nat × Value)} {st : List Value} {h : PH} {ix : Nat} {v : Int64} (hd : decode M.2.1 pc = .ok (.ldc2_w ix, 3)) (hw : Cond.constantLong M.1 ix v ∈ qw_good) (kk : Ex G R M ns zs Zf (pc + 3) lv (.long v :: st) h) : Ex G R M ns zs Zf pc lv st h := by
  intro p e s m args below meth c H locs ls C hn hz r hS hl
  exact lv_ldc2 C.1 C.2.1 C.own (C.hts _ hw) hd (kk p e s m args below meth c H locs ls C hn hz r hS hl)

theorem x_null {G : GT} {R : Room} {M : MI} {ns zs : Nat} {Zf : List Frame → Array Value → State → State → Prop} {pc : Nat} {lv : List (Nat × Value)} {st : List Value} {h : PH} (hd : decode M.2.1 pc = .ok (.aconst_null, 1)) (kk : Ex G R M ns zs Zf (pc + 1) lv (.null :: st) h) : Ex G R M ns zs Zf pc lv st h := by
  intro p e s m args below meth c H locs ls C hn hz r hS hl
  exact lv_null C.1 C.2.1 hd (kk p e s m args below meth c H locs ls C hn hz r hS hl)

theorem x_iload {G : GT} {R : Room} {M : MI} {ns zs : Nat} {Zf : List Frame → Array Value → State → State → Prop} {pc : Nat} {lv : List (Nat × Value)} {st : List Value} {h : PH} {i : Nat} {x : Int32} (hd : decode M.2.1 pc = .ok (.iload i, 2)) (hm : qlk lv i = some (.int x)) (kk : Ex G R M ns zs Zf (pc + 2) lv (.int x :: st) h) : Ex G R M ns zs Zf pc lv st h := by
  intro p e s m args below meth c H locs ls C hn hz r hS hl
  exact lv_iload C.1 C.2.1 hd (qlk_at hl hm) (kk p e s m args below meth c H locs ls C hn hz r hS hl)

theorem x_iload_n {G : GT} {R : Room} {M : MI} {ns zs : Nat} {Zf : List Frame → Array Value → State → State → Prop} {pc : Nat} {lv : List (Nat × Value)} {st : List Value} {h : PH} {k : Fin 4} {x : Int32} (hd : decode M.2.1 pc = .ok (.iload_n k, 1)) (hm : qlk lv (k : Nat) = some (.int x)) (kk : Ex G R M ns zs Zf (pc + 1) lv (.int x :: st) h) : Ex G R M ns zs Zf pc lv st h := by
  intro p e s m args below meth c H locs ls C hn hz r hS hl
  exact lv_iload_n C.1 C.2.1 hd rfl (qlk_at hl hm) (kk p e s m args below meth c H locs ls C hn hz r hS hl)

theorem x_lload {G : GT} {R : Room} {M : MI} {ns zs : Nat} {Zf : List Frame → Array Value → State → State → Prop} {pc : Nat} {lv : List (Nat × Value)} {st : List Value} {h : PH} {i : Nat} {x : Int64} (hd : decode M.2.1 pc = .ok (.lload i, 2)) (hm : qlk lv i = some (.long x)) (kk : Ex G R M ns zs Zf (pc + 2) lv (.long x :: st) h) : Ex G R M ns zs Zf pc lv st h := by
  intro p e s m args below meth c H locs ls C hn hz r hS hl
  exact lv_lload C.1 C.2.1 hd (qlk_at hl hm) (kk p e s m args below meth c H locs ls C hn hz r hS hl)

theorem x_lload_n {G : GT} {R : Room} {M : MI} {ns zs : Nat} {Zf : List Frame → Array Value → State → State → Prop} {pc : Nat} {lv : List (Nat × Value)} {st : List Value} {h : PH} {k : Fin 4} {x : Int64} (hd : decode M.2.1 pc = .ok (.lload_n k, 1)) (hm : qlk lv (k : Nat) = some (.long x)) (kk : Ex G R M ns zs Zf (pc + 1) lv (.long x :: st) h) : Ex G R M ns zs Zf pc lv st h := by
  intro p e s m args below meth c H locs ls C hn hz r hS hl
  exact lv_lload_n C.1 C.2.1 hd rfl (qlk_at hl hm) (kk p e s m args below meth c H locs ls C hn hz r hS hl)

theorem x_aload {G : GT} {R : Room} {M : MI} {ns zs : Nat} {Zf : List Frame → Array Value → State → State → Prop} {pc : Nat} {lv : List (Nat × Value)} {st : List Value} {h : PH} {i : Nat} {x : Nat} (hd : decode M.2.1 pc = .ok (.aload i, 2)) (hm : qlk lv i = some (.ref x)) (kk : Ex G R M ns zs Zf (pc + 2) lv (.ref x :: st) h) : Ex G R M ns zs Zf pc lv st h := by
  intro p e s m args below meth c H locs ls C hn hz r hS hl
  exact lv_aload C.1 C.2.1 hd (qlk_at hl hm) (kk p e s m args below meth c H locs ls C hn hz r hS hl)

theorem x_aload_n {G : GT} {R : Room} {M : MI} {ns zs : Nat} {Zf : List Frame → Array Value → State → State → Prop} {pc : Nat} {lv : List (Nat × Value)} {st : List Value} {h : PH} {k : Fin 4} {x : Nat} (hd : decode M.2.1 pc = .ok (.aload_n k, 1)) (hm : qlk lv (k : Nat) = some (.ref x)) (kk : Ex G R M ns zs Zf (pc + 1) lv (.ref x :: st) h) : Ex G R M ns zs Zf pc lv st h := by
  intro p e s m args below meth c H locs ls C hn hz r hS hl
  exact lv_aload_n C.1 C.2.1 hd rfl (qlk_at hl hm) (kk p e s m args below meth c H locs ls C hn hz r hS hl)

theorem x_aloadq {G : GT} {R : Room} {M : MI} {ns zs : Nat} {Zf : List Frame → Array Value → State → State → Prop} {pc : Nat} {lv : List (Nat × Value)} {st : List Value} {h : PH} {i : Nat} {oq : Option Nat} (hd : decode M.2.1 pc = .ok (.aload i, 2)) (hm : qlk lv i = some (va_rf oq)) (kk : Ex G R M ns zs Zf (pc + 2) lv (va_rf oq :: st) h) : Ex G R M ns zs Zf pc lv st h := by
  intro p e s m args below meth c H locs ls C hn hz r hS hl
  cases oq with
  | none => exact lv_aloadN C.1 C.2.1 hd (qlk_at hl hm) (kk p e s m args below meth c H locs ls C hn hz r hS hl)
  | some x => exact lv_aload C.1 C.2.1 hd (qlk_at hl hm) (kk p e s m args below meth c H locs ls C hn hz r hS hl)

theorem x_aloadq_n {G : GT} {R : Room} {M : MI} {ns zs : Nat} {Zf : List Frame → Array Value → State → State → Prop} {pc : Nat} {lv : List (Nat × Value)} {st : List Value} {h : PH} {k : Fin 4} {oq : Option Nat} (hd : decode M.2.1 pc = .ok (.aload_n k, 1)) (hm : qlk lv (k : Nat) = some (va_rf oq)) (kk : Ex G R M ns zs Zf (pc + 1) lv (va_rf oq :: st) h) : Ex G R M ns zs Zf pc lv st h := by
  intro p e s m args below meth c H locs ls C hn hz r hS hl
  cases oq with
  | none => exact lv_aload_nN C.1 C.2.1 hd rfl (qlk_at hl hm) (kk p e s m args below meth c H locs ls C hn hz r hS hl)
  | some x => exact lv_aload_n C.1 C.2.1 hd rfl (qlk_at hl hm) (kk p e s m args below meth c H locs ls C hn hz r hS hl)

theorem x_istore {G : GT} {R : Room} {M : MI} {ns zs : Nat} {Zf : List Frame → Array Value → State → State → Prop} {pc : Nat} {lv : List (Nat × Value)} {st : List Value} {h : PH} {i : Nat} {x : Int32} {lv2 : List (Nat × Value)} (hd : decode M.2.1 pc = .ok (.istore i, 2)) (hi : i < M.2.2.1) (hp : qput lv i (.int x) = lv2) (kk : Ex G R M ns zs Zf (pc + 2) lv2 st h) : Ex G R M ns zs Zf pc lv (.int x :: st) h := by
  intro p e s m args below meth c H locs ls C hn hz r hS hl
  exact lv_istore C.1 C.2.1 hd (C.ml hl) (by rw [C.mlen]; exact hi) rfl (fun ls2 hl2 => kk p e s m args below meth c H locs ls2 C hn hz r hS (by rw [← hp]; exact C.lm (qput_map hl2)))

theorem x_istore_n {G : GT} {R : Room} {M : MI} {ns zs : Nat} {Zf : List Frame → Array Value → State → State → Prop} {pc : Nat} {lv : List (Nat × Value)} {st : List Value} {h : PH} {k : Fin 4} {x : Int32} {lv2 : List (Nat × Value)} (hd : decode M.2.1 pc = .ok (.istore_n k, 1)) (hi : (k : Nat) < M.2.2.1) (hp : qput lv (k : Nat) (.int x) = lv2) (kk : Ex G R M ns zs Zf (pc + 1) lv2 st h) : Ex G R M ns zs Zf pc lv (.int x :: st) h := by
  intro p e s m args below meth c H locs ls C hn hz r hS hl
  exact lv_istore_n C.1 C.2.1 hd rfl (C.ml hl) (by rw [C.mlen]; exact hi) rfl (fun ls2 hl2 => kk p e s m args below meth c H locs ls2 C hn hz r hS (by rw [← hp]; exact C.lm (qput_map hl2)))

theorem x_lstore {G : GT} {R : Room} {M : MI} {ns zs : Nat} {Zf : List Frame → Array Value → State → State → Prop} {pc : Nat} {lv : List (Nat × Value)} {st : List Value} {h : PH} {i : Nat} {x : Int64} {lv2 : List (Nat × Value)} (hd : decode M.2.1 pc = .ok (.lstore i, 2)) (hi : i + 1 < M.2.2.1) (hp : qput2 lv i (.long x) = lv2) (kk : Ex G R M ns zs Zf (pc + 2) lv2 st h) : Ex G R M ns zs Zf pc lv (.long x :: st) h := by
  intro p e s m args below meth c H locs ls C hn hz r hS hl
  exact lv_lstore C.1 C.2.1 hd (C.ml hl) (by rw [C.mlen]; exact hi) rfl (fun ls2 hl2 => kk p e s m args below meth c H locs ls2 C hn hz r hS (by rw [← hp]; exact C.lm (qput2_map hl2)))

theorem x_lstore_n {G : GT} {R : Room} {M : MI} {ns zs : Nat} {Zf : List Frame → Array Value → State → State → Prop} {pc : Nat} {lv : List (Nat × Value)} {st : List Value} {h : PH} {k : Fin 4} {x : Int64} {lv2 : List (Nat × Value)} (hd : decode M.2.1 pc = .ok (.lstore_n k, 1)) (hi : (k : Nat) + 1 < M.2.2.1) (hp : qput2 lv (k : Nat) (.long x) = lv2) (kk : Ex G R M ns zs Zf (pc + 1) lv2 st h) : Ex G R M ns zs Zf pc lv (.long x :: st) h := by
  intro p e s m args below meth c H locs ls C hn hz r hS hl
  exact lv_lstore_n C.1 C.2.1 hd rfl (C.ml hl) (by rw [C.mlen]; exact hi) rfl (fun ls2 hl2 => kk p e s m args below meth c H locs ls2 C hn hz r hS (by rw [← hp]; exact C.lm (qput2_map hl2)))

theorem x_astore {G : GT} {R : Room} {M : MI} {ns zs : Nat} {Zf : List Frame → Array Value → State → State → Prop} {pc : Nat} {lv : List (Nat × Value)} {st : List Value} {h : PH} {i : Nat} {x : Nat} {lv2 : List (Nat × Value)} (hd : decode M.2.1 pc = .ok (.astore i, 2)) (hi : i < M.2.2.1) (hp : qput lv i (.ref x) = lv2) (kk : Ex G R M ns zs Zf (pc + 2) lv2 st h) : Ex G R M ns zs Zf pc lv (.ref x :: st) h := by
  intro p e s m args below meth c H locs ls C hn hz r hS hl
  exact lv_astore C.1 C.2.1 hd (C.ml hl) (by rw [C.mlen]; exact hi) rfl (fun ls2 hl2 => kk p e s m args below meth c H locs ls2 C hn hz r hS (by rw [← hp]; exact C.lm (qput_map hl2)))

theorem x_astore_n {G : GT} {R : Room} {M : MI} {ns zs : Nat} {Zf : List Frame → Array Value → State → State → Prop} {pc : Nat} {lv : List (Nat × Value)} {st : List Value} {h : PH} {k : Fin 4} {x : Nat} {lv2 : List (Nat × Value)} (hd : decode M.2.1 pc = .ok (.astore_n k, 1)) (hi : (k : Nat) < M.2.2.1) (hp : qput lv (k : Nat) (.ref x) = lv2) (kk : Ex G R M ns zs Zf (pc + 1) lv2 st h) : Ex G R M ns zs Zf pc lv (.ref x :: st) h := by
  intro p e s m args below meth c H locs ls C hn hz r hS hl
  exact lv_astore_n C.1 C.2.1 hd rfl (C.ml hl) (by rw [C.mlen]; exact hi) rfl (fun ls2 hl2 => kk p e s m args below meth c H locs ls2 C hn hz r hS (by rw [← hp]; exact C.lm (qput_map hl2)))

theorem x_astoreq {G : GT} {R : Room} {M : MI} {ns zs : Nat} {Zf : List Frame → Array Value → State → State → Prop} {pc : Nat} {lv : List (Nat × Value)} {st : List Value} {h : PH} {i : Nat} {oq : Option Nat} {lv2 : List (Nat × Value)} (hd : decode M.2.1 pc = .ok (.astore i, 2)) (hi : i < M.2.2.1) (hp : qput lv i (va_rf oq) = lv2) (kk : Ex G R M ns zs Zf (pc + 2) lv2 st h) : Ex G R M ns zs Zf pc lv (va_rf oq :: st) h := by
  intro p e s m args below meth c H locs ls C hn hz r hS hl
  cases oq with
  | none => exact lv_astoreN C.1 C.2.1 hd (C.ml hl) (by rw [C.mlen]; exact hi) rfl (fun ls2 hl2 => kk p e s m args below meth c H locs ls2 C hn hz r hS (by rw [← hp]; exact C.lm (qput_map hl2)))
  | some x => exact lv_astore C.1 C.2.1 hd (C.ml hl) (by rw [C.mlen]; exact hi) rfl (fun ls2 hl2 => kk p e s m args below meth c H locs ls2 C hn hz r hS (by rw [← hp]; exact C.lm (qput_map hl2)))

theorem x_astoreq_n {G : GT} {R : Room} {M : MI} {ns zs : Nat} {Zf : List Frame → Array Value → State → State → Prop} {pc : Nat} {lv : List (Nat × Value)} {st : List Value} {h : PH} {k : Fin 4} {oq : Option Nat} {lv2 : List (Nat × Value)} (hd : decode M.2.1 pc = .ok (.astore_n k, 1)) (hi : (k : Nat) < M.2.2.1) (hp : qput lv (k : Nat) (va_rf oq) = lv2) (kk : Ex G R M ns zs Zf (pc + 1) lv2 st h) : Ex G R M ns zs Zf pc lv (va_rf oq :: st) h := by
  intro p e s m args below meth c H locs ls C hn hz r hS hl
  cases oq with
  | none => exact lv_astore_nN C.1 C.2.1 hd rfl (C.ml hl) (by rw [C.mlen]; exact hi) rfl (fun ls2 hl2 => kk p e s m args below meth c H locs ls2 C hn hz r hS (by rw [← hp]; exact C.lm (qput_map hl2)))
  | some x => exact lv_astore_n C.1 C.2.1 hd rfl (C.ml hl) (by rw [C.mlen]; exact hi) rfl (fun ls2 hl2 => kk p e s m args below meth c H locs ls2 C hn hz r hS (by rw [← hp]; exact C.lm (qput_map hl2)))

theorem x_iinc {G : GT} {R : Room} {M : MI} {ns zs : Nat} {Zf : List Frame → Array Value → State → State → Prop} {pc : Nat} {lv : List (Nat × Value)} {st : List Value} {h : PH} {i : Nat} {n : Int} {x v : Int32} {lv2 : List (Nat × Value)} (hd : decode M.2.1 pc = .ok (.iinc i n, 3)) (hm : qlk lv i = some (.int x)) (hv : x + Int32.ofInt n = v) (hi : i < M.2.2.1) (hp : qput lv i (.int v) = lv2) (kk : Ex G R M ns zs Zf (pc + 3) lv2 st h) : Ex G R M ns zs Zf pc lv st h := by
  intro p e s m args below meth c H locs ls C hn hz r hS hl
  obtain ⟨k, hk⟩ := List.getElem?_of_mem (qlk_mem (G := G) hm)
  exact lv_iinc C.1 C.2.1 hd (C.ml hl) hk hv (by rw [C.mlen]; exact hi) rfl (fun ls2 hl2 => kk p e s m args below meth c H locs ls2 C hn hz r hS (by rw [← hp]; exact C.lm (qput_map hl2)))

theorem x_iadd {G : GT} {R : Room} {M : MI} {ns zs : Nat} {Zf : List Frame → Array Value → State → State → Prop} {pc : Nat} {lv : List (Nat × Value)} {st : List Value} {h : PH} {x y : Int32} (hd : decode M.2.1 pc = .ok (.iadd, 1)) (kk : Ex G R M ns zs Zf (pc + 1) lv (.int (x + y) :: st) h) : Ex G R M ns zs Zf pc lv (.int y :: .int x :: st) h := by
  intro p e s m args below meth c H locs ls C hn hz r hS hl
  exact lv_iadd C.1 C.2.1 hd (kk p e s m args below meth c H locs ls C hn hz r hS hl)

theorem x_isub {G : GT} {R : Room} {M : MI} {ns zs : Nat} {Zf : List Frame → Array Value → State → State → Prop} {pc : Nat} {lv : List (Nat × Value)} {st : List Value} {h : PH} {x y : Int32} (hd : decode M.2.1 pc = .ok (.isub, 1)) (kk : Ex G R M ns zs Zf (pc + 1) lv (.int (x - y) :: st) h) : Ex G R M ns zs Zf pc lv (.int y :: .int x :: st) h := by
  intro p e s m args below meth c H locs ls C hn hz r hS hl
  exact lv_isub C.1 C.2.1 hd (kk p e s m args below meth c H locs ls C hn hz r hS hl)

theorem x_imul {G : GT} {R : Room} {M : MI} {ns zs : Nat} {Zf : List Frame → Array Value → State → State → Prop} {pc : Nat} {lv : List (Nat × Value)} {st : List Value} {h : PH} {x y : Int32} (hd : decode M.2.1 pc = .ok (.imul, 1)) (kk : Ex G R M ns zs Zf (pc + 1) lv (.int (x * y) :: st) h) : Ex G R M ns zs Zf pc lv (.int y :: .int x :: st) h := by
  intro p e s m args below meth c H locs ls C hn hz r hS hl
  exact lv_imul C.1 C.2.1 hd (kk p e s m args below meth c H locs ls C hn hz r hS hl)

theorem x_iand {G : GT} {R : Room} {M : MI} {ns zs : Nat} {Zf : List Frame → Array Value → State → State → Prop} {pc : Nat} {lv : List (Nat × Value)} {st : List Value} {h : PH} {x y : Int32} (hd : decode M.2.1 pc = .ok (.iand, 1)) (kk : Ex G R M ns zs Zf (pc + 1) lv (.int (x &&& y) :: st) h) : Ex G R M ns zs Zf pc lv (.int y :: .int x :: st) h := by
  intro p e s m args below meth c H locs ls C hn hz r hS hl
  exact lv_iand C.1 C.2.1 hd (kk p e s m args below meth c H locs ls C hn hz r hS hl)

theorem x_ior {G : GT} {R : Room} {M : MI} {ns zs : Nat} {Zf : List Frame → Array Value → State → State → Prop} {pc : Nat} {lv : List (Nat × Value)} {st : List Value} {h : PH} {x y : Int32} (hd : decode M.2.1 pc = .ok (.ior, 1)) (kk : Ex G R M ns zs Zf (pc + 1) lv (.int (x ||| y) :: st) h) : Ex G R M ns zs Zf pc lv (.int y :: .int x :: st) h := by
  intro p e s m args below meth c H locs ls C hn hz r hS hl
  exact lv_ior C.1 C.2.1 hd (kk p e s m args below meth c H locs ls C hn hz r hS hl)

theorem x_ixor {G : GT} {R : Room} {M : MI} {ns zs : Nat} {Zf : List Frame → Array Value → State → State → Prop} {pc : Nat} {lv : List (Nat × Value)} {st : List Value} {h : PH} {x y : Int32} (hd : decode M.2.1 pc = .ok (.ixor, 1)) (kk : Ex G R M ns zs Zf (pc + 1) lv (.int (x ^^^ y) :: st) h) : Ex G R M ns zs Zf pc lv (.int y :: .int x :: st) h := by
  intro p e s m args below meth c H locs ls C hn hz r hS hl
  exact lv_ixor C.1 C.2.1 hd (kk p e s m args below meth c H locs ls C hn hz r hS hl)

theorem x_ishl {G : GT} {R : Room} {M : MI} {ns zs : Nat} {Zf : List Frame → Array Value → State → State → Prop} {pc : Nat} {lv : List (Nat × Value)} {st : List Value} {h : PH} {x y : Int32} (hd : decode M.2.1 pc = .ok (.ishl, 1)) (kk : Ex G R M ns zs Zf (pc + 1) lv (.int (x <<< (y &&& 31)) :: st) h) : Ex G R M ns zs Zf pc lv (.int y :: .int x :: st) h := by
  intro p e s m args below meth c H locs ls C hn hz r hS hl
  exact lv_ishl C.1 C.2.1 hd (kk p e s m args below meth c H locs ls C hn hz r hS hl)

theorem x_ishr {G : GT} {R : Room} {M : MI} {ns zs : Nat} {Zf : List Frame → Array Value → State → State → Prop} {pc : Nat} {lv : List (Nat × Value)} {st : List Value} {h : PH} {x y : Int32} (hd : decode M.2.1 pc = .ok (.ishr, 1)) (kk : Ex G R M ns zs Zf (pc + 1) lv (.int (x >>> (y &&& 31)) :: st) h) : Ex G R M ns zs Zf pc lv (.int y :: .int x :: st) h := by
  intro p e s m args below meth c H locs ls C hn hz r hS hl
  exact lv_ishr C.1 C.2.1 hd (kk p e s m args below meth c H locs ls C hn hz r hS hl)

theorem x_idiv {G : GT} {R : Room} {M : MI} {ns zs : Nat} {Zf : List Frame → Array Value → State → State → Prop} {pc : Nat} {lv : List (Nat × Value)} {st : List Value} {h : PH} {x y : Int32} (hd : decode M.2.1 pc = .ok (.idiv, 1)) (hne : ¬ y = 0) (kk : Ex G R M ns zs Zf (pc + 1) lv (.int (x / y) :: st) h) : Ex G R M ns zs Zf pc lv (.int y :: .int x :: st) h := by
  intro p e s m args below meth c H locs ls C hn hz r hS hl
  exact lv_idiv C.1 C.2.1 hd hne (kk p e s m args below meth c H locs ls C hn hz r hS hl)

theorem x_irem {G : GT} {R : Room} {M : MI} {ns zs : Nat} {Zf : List Frame → Array Value → State → State → Prop} {pc : Nat} {lv : List (Nat × Value)} {st : List Value} {h : PH} {x y : Int32} (hd : decode M.2.1 pc = .ok (.irem, 1)) (hne : ¬ y = 0) (kk : Ex G R M ns zs Zf (pc + 1) lv (.int (x - x / y * y) :: st) h) : Ex G R M ns zs Zf pc lv (.int y :: .int x :: st) h := by
  intro p e s m args below meth c H locs ls C hn hz r hS hl
  exact lv_irem C.1 C.2.1 hd hne (kk p e s m args below meth c H locs ls C hn hz r hS hl)

theorem x_iushr {G : GT} {R : Room} {M : MI} {ns zs : Nat} {Zf : List Frame → Array Value → State → State → Prop} {pc : Nat} {lv : List (Nat × Value)} {st : List Value} {h : PH} {x y : Int32} (hd : decode M.2.1 pc = .ok (.iushr, 1)) (kk : Ex G R M ns zs Zf (pc + 1) lv (.int (q_ushr x y) :: st) h) : Ex G R M ns zs Zf pc lv (.int y :: .int x :: st) h := by
  intro p e s m args below meth c H locs ls C hn hz r hS hl
  exact lv_iushr C.1 C.2.1 hd rfl (kk p e s m args below meth c H locs ls C hn hz r hS hl)

theorem x_ineg {G : GT} {R : Room} {M : MI} {ns zs : Nat} {Zf : List Frame → Array Value → State → State → Prop} {pc : Nat} {lv : List (Nat × Value)} {st : List Value} {h : PH} {x : Int32} (hd : decode M.2.1 pc = .ok (.ineg, 1)) (kk : Ex G R M ns zs Zf (pc + 1) lv (.int (-x) :: st) h) : Ex G R M ns zs Zf pc lv (.int x :: st) h := by
  intro p e s m args below meth c H locs ls C hn hz r hS hl
  exact lv_ineg C.1 C.2.1 hd (kk p e s m args below meth c H locs ls C hn hz r hS hl)

theorem x_ladd {G : GT} {R : Room} {M : MI} {ns zs : Nat} {Zf : List Frame → Array Value → State → State → Prop} {pc : Nat} {lv : List (Nat × Value)} {st : List Value} {h : PH} {x y : Int64} (hd : decode M.2.1 pc = .ok (.ladd, 1)) (kk : Ex G R M ns zs Zf (pc + 1) lv (.long (x + y) :: st) h) : Ex G R M ns zs Zf pc lv (.long y :: .long x :: st) h := by
  intro p e s m args below meth c H locs ls C hn hz r hS hl
  exact lv_ladd C.1 C.2.1 hd (kk p e s m args below meth c H locs ls C hn hz r hS hl)

theorem x_lsub {G : GT} {R : Room} {M : MI} {ns zs : Nat} {Zf : List Frame → Array Value → State → State → Prop} {pc : Nat} {lv : List (Nat × Value)} {st : List Value} {h : PH} {x y : Int64} (hd : decode M.2.1 pc = .ok (.lsub, 1)) (kk : Ex G R M ns zs Zf (pc + 1) lv (.long (x - y) :: st) h) : Ex G R M ns zs Zf pc lv (.long y :: .long x :: st) h := by
  intro p e s m args below meth c H locs ls C hn hz r hS hl
  exact lv_lsub C.1 C.2.1 hd (kk p e s m args below meth c H locs ls C hn hz r hS hl)

theorem x_lmul {G : GT} {R : Room} {M : MI} {ns zs : Nat} {Zf : List Frame → Array Value → State → State → Prop} {pc : Nat} {lv : List (Nat × Value)} {st : List Value} {h : PH} {x y : Int64} (hd : decode M.2.1 pc = .ok (.lmul, 1)) (kk : Ex G R M ns zs Zf (pc + 1) lv (.long (x * y) :: st) h) : Ex G R M ns zs Zf pc lv (.long y :: .long x :: st) h := by
  intro p e s m args below meth c H locs ls C hn hz r hS hl
  exact lv_lmul C.1 C.2.1 hd (kk p e s m args below meth c H locs ls C hn hz r hS hl)

theorem x_land {G : GT} {R : Room} {M : MI} {ns zs : Nat} {Zf : List Frame → Array Value → State → State → Prop} {pc : Nat} {lv : List (Nat × Value)} {st : List Value} {h : PH} {x y : Int64} (hd : decode M.2.1 pc = .ok (.land, 1)) (kk : Ex G R M ns zs Zf (pc + 1) lv (.long (x &&& y) :: st) h) : Ex G R M ns zs Zf pc lv (.long y :: .long x :: st) h := by
  intro p e s m args below meth c H locs ls C hn hz r hS hl
  exact lv_land C.1 C.2.1 hd (kk p e s m args below meth c H locs ls C hn hz r hS hl)

theorem x_lor {G : GT} {R : Room} {M : MI} {ns zs : Nat} {Zf : List Frame → Array Value → State → State → Prop} {pc : Nat} {lv : List (Nat × Value)} {st : List Value} {h : PH} {x y : Int64} (hd : decode M.2.1 pc = .ok (.lor, 1)) (kk : Ex G R M ns zs Zf (pc + 1) lv (.long (x ||| y) :: st) h) : Ex G R M ns zs Zf pc lv (.long y :: .long x :: st) h := by
  intro p e s m args below meth c H locs ls C hn hz r hS hl
  exact lv_lor C.1 C.2.1 hd (kk p e s m args below meth c H locs ls C hn hz r hS hl)

theorem x_lxor {G : GT} {R : Room} {M : MI} {ns zs : Nat} {Zf : List Frame → Array Value → State → State → Prop} {pc : Nat} {lv : List (Nat × Value)} {st : List Value} {h : PH} {x y : Int64} (hd : decode M.2.1 pc = .ok (.lxor, 1)) (kk : Ex G R M ns zs Zf (pc + 1) lv (.long (x ^^^ y) :: st) h) : Ex G R M ns zs Zf pc lv (.long y :: .long x :: st) h := by
  intro p e s m args below meth c H locs ls C hn hz r hS hl
  exact lv_lxor C.1 C.2.1 hd (kk p e s m args below meth c H locs ls C hn hz r hS hl)

theorem x_lshl {G : GT} {R : Room} {M : MI} {ns zs : Nat} {Zf : List Frame → Array Value → State → State → Prop} {pc : Nat} {lv : List (Nat × Value)} {st : List Value} {h : PH} {x : Int64} {y : Int32} (hd : decode M.2.1 pc = .ok (.lshl, 1)) (kk : Ex G R M ns zs Zf (pc + 1) lv (.long (x <<< (y.toInt64 &&& 63)) :: st) h) : Ex G R M ns zs Zf pc lv (.int y :: .long x :: st) h := by
  intro p e s m args below meth c H locs ls C hn hz r hS hl
  exact lv_lshl C.1 C.2.1 hd rfl (kk p e s m args below meth c H locs ls C hn hz r hS hl)

theorem x_lcmp {G : GT} {R : Room} {M : MI} {ns zs : Nat} {Zf : List Frame → Array Value → State → State → Prop} {pc : Nat} {lv : List (Nat × Value)} {st : List Value} {h : PH} {x y : Int64} (hd : decode M.2.1 pc = .ok (.lcmp, 1)) (kk : Ex G R M ns zs Zf (pc + 1) lv (.int (lg_cmp x y) :: st) h) : Ex G R M ns zs Zf pc lv (.long y :: .long x :: st) h := by
  intro p e s m args below meth c H locs ls C hn hz r hS hl
  exact W.lcmp C.1 C.2.1 hd (kk p e s m args below meth c H locs ls C hn hz r hS hl)

theorem x_i2l {G : GT} {R : Room} {M : MI} {ns zs : Nat} {Zf : List Frame → Array Value → State → State → Prop} {pc : Nat} {lv : List (Nat × Value)} {st : List Value} {h : PH} {x : Int32} (hd : decode M.2.1 pc = .ok (.i2l, 1)) (kk : Ex G R M ns zs Zf (pc + 1) lv (.long x.toInt64 :: st) h) : Ex G R M ns zs Zf pc lv (.int x :: st) h := by
  intro p e s m args below meth c H locs ls C hn hz r hS hl
  exact lv_i2l C.1 C.2.1 hd rfl (kk p e s m args below meth c H locs ls C hn hz r hS hl)

theorem x_i2b {G : GT} {R : Room} {M : MI} {ns zs : Nat} {Zf : List Frame → Array Value → State → State → Prop} {pc : Nat} {lv : List (Nat × Value)} {st : List Value} {h : PH} {x : Int32} (hd : decode M.2.1 pc = .ok (.i2b, 1)) (kk : Ex G R M ns zs Zf (pc + 1) lv (.int x.toInt8.toInt32 :: st) h) : Ex G R M ns zs Zf pc lv (.int x :: st) h := by
  intro p e s m args below meth c H locs ls C hn hz r hS hl
  exact lv_i2b C.1 C.2.1 hd rfl (kk p e s m args below meth c H locs ls C hn hz r hS hl)

theorem x_dup {G : GT} {R : Room} {M : MI} {ns zs : Nat} {Zf : List Frame → Array Value → State → State → Prop} {pc : Nat} {lv : List (Nat × Value)} {st : List Value} {h : PH} {v : Value} (hd : decode M.2.1 pc = .ok (.dup, 1)) (hv : v.category = 1) (kk : Ex G R M ns zs Zf (pc + 1) lv (v :: v :: st) h) : Ex G R M ns zs Zf pc lv (v :: st) h := by
  intro p e s m args below meth c H locs ls C hn hz r hS hl
  exact lv_dup C.1 C.2.1 hd ((qtv_cat G v).trans hv) (kk p e s m args below meth c H locs ls C hn hz r hS hl)

theorem x_dup2 {G : GT} {R : Room} {M : MI} {ns zs : Nat} {Zf : List Frame → Array Value → State → State → Prop} {pc : Nat} {lv : List (Nat × Value)} {st : List Value} {h : PH} {v w : Value} (hd : decode M.2.1 pc = .ok (.dup2, 1)) (hv : v.category = 1) (hw : w.category = 1) (kk : Ex G R M ns zs Zf (pc + 1) lv (v :: w :: v :: w :: st) h) : Ex G R M ns zs Zf pc lv (v :: w :: st) h := by
  intro p e s m args below meth c H locs ls C hn hz r hS hl
  exact lv_dup2_11 C.1 C.2.1 hd ((qtv_cat G v).trans hv) ((qtv_cat G w).trans hw) (kk p e s m args below meth c H locs ls C hn hz r hS hl)

theorem x_pop {G : GT} {R : Room} {M : MI} {ns zs : Nat} {Zf : List Frame → Array Value → State → State → Prop} {pc : Nat} {lv : List (Nat × Value)} {st : List Value} {h : PH} {v : Value} (hd : decode M.2.1 pc = .ok (.pop, 1)) (hv : v.category = 1) (kk : Ex G R M ns zs Zf (pc + 1) lv st h) : Ex G R M ns zs Zf pc lv (v :: st) h := by
  intro p e s m args below meth c H locs ls C hn hz r hS hl
  exact lv_pop C.1 C.2.1 hd ((qtv_cat G v).trans hv) (kk p e s m args below meth c H locs ls C hn hz r hS hl)

theorem x_if_eq {G : GT} {R : Room} {M : MI} {ns zs : Nat} {Zf : List Frame → Array Value → State → State → Prop} {pc : Nat} {lv : List (Nat × Value)} {st : List Value} {h : PH} {x : Int32} {off : Int} {tgt : Nat} (hd : decode M.2.1 pc = .ok (.ifCond .eq off, 3)) (ht : (pc : Int) + off = (tgt : Int)) (kt : x = 0 → Ex G R M ns zs Zf tgt lv st h) (kf : ¬ (x = 0) → Ex G R M ns zs Zf (pc + 3) lv st h) : Ex G R M ns zs Zf pc lv (.int x :: st) h := by
  intro p e s m args below meth c H locs ls C hn hz r hS hl
  exact lv_if_eq C.1 C.2.1 hd ht (fun q => kt q p e s m args below meth c H locs ls C hn hz r hS hl) (fun q => kf q p e s m args below meth c H locs ls C hn hz r hS hl)

theorem x_icmp_eq {G : GT} {R : Room} {M : MI} {ns zs : Nat} {Zf : List Frame → Array Value → State → State → Prop} {pc : Nat} {lv : List (Nat × Value)} {st : List Value} {h : PH} {x y : Int32} {off : Int} {tgt : Nat} (hd : decode M.2.1 pc = .ok (.if_icmp .eq off, 3)) (ht : (pc : Int) + off = (tgt : Int)) (kt : x = y → Ex G R M ns zs Zf tgt lv st h) (kf : ¬ (x = y) → Ex G R M ns zs Zf (pc + 3) lv st h) : Ex G R M ns zs Zf pc lv (.int y :: .int x :: st) h := by
  intro p e s m args below meth c H locs ls C hn hz r hS hl
  exact lv_icmp_eq C.1 C.2.1 hd ht (fun q => kt q p e s m args below meth c H locs ls C hn hz r hS hl) (fun q => kf q p e s m args below meth c H locs ls C hn hz r hS hl)

theorem x_if_ne {G : GT} {R : Room} {M : MI} {ns zs : Nat} {Zf : List Frame → Array Value → State → State → Prop} {pc : Nat} {lv : List (Nat × Value)} {st : List Value} {h : PH} {x : Int32} {off : Int} {tgt : Nat} (hd : decode M.2.1 pc = .ok (.ifCond .ne off, 3)) (ht : (pc : Int) + off = (tgt : Int)) (kt : ¬ x = 0 → Ex G R M ns zs Zf tgt lv st h) (kf : x = 0 → Ex G R M ns zs Zf (pc + 3) lv st h) : Ex G R M ns zs Zf pc lv (.int x :: st) h := by
  intro p e s m args below meth c H locs ls C hn hz r hS hl
  exact lv_if_ne C.1 C.2.1 hd ht (fun q => kt q p e s m args below meth c H locs ls C hn hz r hS hl) (fun q => kf q p e s m args below meth c H locs ls C hn hz r hS hl)

theorem x_icmp_ne {G : GT} {R : Room} {M : MI} {ns zs : Nat} {Zf : List Frame → Array Value → State → State → Prop} {pc : Nat} {lv : List (Nat × Value)} {st : List Value} {h : PH} {x y : Int32} {off : Int} {tgt : Nat} (hd : decode M.2.1 pc = .ok (.if_icmp .ne off, 3)) (ht : (pc : Int) + off = (tgt : Int)) (kt : ¬ x = y → Ex G R M ns zs Zf tgt lv st h) (kf : x = y → Ex G R M ns zs Zf (pc + 3) lv st h) : Ex G R M ns zs Zf pc lv (.int y :: .int x :: st) h := by
  intro p e s m args below meth c H locs ls C hn hz r hS hl
  exact lv_icmp_ne C.1 C.2.1 hd ht (fun q => kt q p e s m args below meth c H locs ls C hn hz r hS hl) (fun q => kf q p e s m args below meth c H locs ls C hn hz r hS hl)

theorem x_if_lt {G : GT} {R : Room} {M : MI} {ns zs : Nat} {Zf : List Frame → Array Value → State → State → Prop} {pc : Nat} {lv : List (Nat × Value)} {st : List Value} {h : PH} {x : Int32} {off : Int} {tgt : Nat} (hd : decode M.2.1 pc = .ok (.ifCond .lt off, 3)) (ht : (pc : Int) + off = (tgt : Int)) (kt : x < 0 → Ex G R M ns zs Zf tgt lv st h) (kf : ¬ (x < 0) → Ex G R M ns zs Zf (pc + 3) lv st h) : Ex G R M ns zs Zf pc lv (.int x :: st) h := by
  intro p e s m args below meth c H locs ls C hn hz r hS hl
  exact lv_if_lt C.1 C.2.1 hd ht (fun q => kt q p e s m args below meth c H locs ls C hn hz r hS hl) (fun q => kf q p e s m args below meth c H locs ls C hn hz r hS hl)

theorem x_icmp_lt {G : GT} {R : Room} {M : MI} {ns zs : Nat} {Zf : List Frame → Array Value → State → State → Prop} {pc : Nat} {lv : List (Nat × Value)} {st : List Value} {h : PH} {x y : Int32} {off : Int} {tgt : Nat} (hd : decode M.2.1 pc = .ok (.if_icmp .lt off, 3)) (ht : (pc : Int) + off = (tgt : Int)) (kt : x < y → Ex G R M ns zs Zf tgt lv st h) (kf : ¬ (x < y) → Ex G R M ns zs Zf (pc + 3) lv st h) : Ex G R M ns zs Zf pc lv (.int y :: .int x :: st) h := by
  intro p e s m args below meth c H locs ls C hn hz r hS hl
  exact lv_icmp_lt C.1 C.2.1 hd ht (fun q => kt q p e s m args below meth c H locs ls C hn hz r hS hl) (fun q => kf q p e s m args below meth c H locs ls C hn hz r hS hl)

theorem x_if_ge {G : GT} {R : Room} {M : MI} {ns zs : Nat} {Zf : List Frame → Array Value → State → State → Prop} {pc : Nat} {lv : List (Nat × Value)} {st : List Value} {h : PH} {x : Int32} {off : Int} {tgt : Nat} (hd : decode M.2.1 pc = .ok (.ifCond .ge off, 3)) (ht : (pc : Int) + off = (tgt : Int)) (kt : 0 ≤ x → Ex G R M ns zs Zf tgt lv st h) (kf : ¬ (0 ≤ x) → Ex G R M ns zs Zf (pc + 3) lv st h) : Ex G R M ns zs Zf pc lv (.int x :: st) h := by
  intro p e s m args below meth c H locs ls C hn hz r hS hl
  exact lv_if_ge C.1 C.2.1 hd ht (fun q => kt q p e s m args below meth c H locs ls C hn hz r hS hl) (fun q => kf q p e s m args below meth c H locs ls C hn hz r hS hl)

theorem x_icmp_ge {G : GT} {R : Room} {M : MI} {ns zs : Nat} {Zf : List Frame → Array Value → State → State → Prop} {pc : Nat} {lv : List (Nat × Value)} {st : List Value} {h : PH} {x y : Int32} {off : Int} {tgt : Nat} (hd : decode M.2.1 pc = .ok (.if_icmp .ge off, 3)) (ht : (pc : Int) + off = (tgt : Int)) (kt : y ≤ x → Ex G R M ns zs Zf tgt lv st h) (kf : ¬ (y ≤ x) → Ex G R M ns zs Zf (pc + 3) lv st h) : Ex G R M ns zs Zf pc lv (.int y :: .int x :: st) h := by
  intro p e s m args below meth c H locs ls C hn hz r hS hl
  exact lv_icmp_ge C.1 C.2.1 hd ht (fun q => kt q p e s m args below meth c H locs ls C hn hz r hS hl) (fun q => kf q p e s m args below meth c H locs ls C hn hz r hS hl)

theorem x_if_gt {G : GT} {R : Room} {M : MI} {ns zs : Nat} {Zf : List Frame → Array Value → State → State → Prop} {pc : Nat} {lv : List (Nat × Value)} {st : List Value} {h : PH} {x : Int32} {off : Int} {tgt : Nat} (hd : decode M.2.1 pc = .ok (.ifCond .gt off, 3)) (ht : (pc : Int) + off = (tgt : Int)) (kt : 0 < x → Ex G R M ns zs Zf tgt lv st h) (kf : ¬ (0 < x) → Ex G R M ns zs Zf (pc + 3) lv st h) : Ex G R M ns zs Zf pc lv (.int x :: st) h := by
  intro p e s m args below meth c H locs ls C hn hz r hS hl
  exact lv_if_gt C.1 C.2.1 hd ht (fun q => kt q p e s m args below meth c H locs ls C hn hz r hS hl) (fun q => kf q p e s m args below meth c H locs ls C hn hz r hS hl)

theorem x_icmp_gt {G : GT} {R : Room} {M : MI} {ns zs : Nat} {Zf : List Frame → Array Value → State → State → Prop} {pc : Nat} {lv : List (Nat × Value)} {st : List Value} {h : PH} {x y : Int32} {off : Int} {tgt : Nat} (hd : decode M.2.1 pc = .ok (.if_icmp .gt off, 3)) (ht : (pc : Int) + off = (tgt : Int)) (kt : y < x → Ex G R M ns zs Zf tgt lv st h) (kf : ¬ (y < x) → Ex G R M ns zs Zf (pc + 3) lv st h) : Ex G R M ns zs Zf pc lv (.int y :: .int x :: st) h := by
  intro p e s m args below meth c H locs ls C hn hz r hS hl
  exact lv_icmp_gt C.1 C.2.1 hd ht (fun q => kt q p e s m args below meth c H locs ls C hn hz r hS hl) (fun q => kf q p e s m args below meth c H locs ls C hn hz r hS hl)

theorem x_if_le {G : GT} {R : Room} {M : MI} {ns zs : Nat} {Zf : List Frame → Array Value → State → State → Prop} {pc : Nat} {lv : List (Nat × Value)} {st : List Value} {h : PH} {x : Int32} {off : Int} {tgt : Nat} (hd : decode M.2.1 pc = .ok (.ifCond .le off, 3)) (ht : (pc : Int) + off = (tgt : Int)) (kt : x ≤ 0 → Ex G R M ns zs Zf tgt lv st h) (kf : ¬ (x ≤ 0) → Ex G R M ns zs Zf (pc + 3) lv st h) : Ex G R M ns zs Zf pc lv (.int x :: st) h := by
  intro p e s m args below meth c H locs ls C hn hz r hS hl
  exact lv_if_le C.1 C.2.1 hd ht (fun q => kt q p e s m args below meth c H locs ls C hn hz r hS hl) (fun q => kf q p e s m args below meth c H locs ls C hn hz r hS hl)

theorem x_icmp_le {G : GT} {R : Room} {M : MI} {ns zs : Nat} {Zf : List Frame → Array Value → State → State → Prop} {pc : Nat} {lv : List (Nat × Value)} {st : List Value} {h : PH} {x y : Int32} {off : Int} {tgt : Nat} (hd : decode M.2.1 pc = .ok (.if_icmp .le off, 3)) (ht : (pc : Int) + off = (tgt : Int)) (kt : x ≤ y → Ex G R M ns zs Zf tgt lv st h) (kf : ¬ (x ≤ y) → Ex G R M ns zs Zf (pc + 3) lv st h) : Ex G R M ns zs Zf pc lv (.int y :: .int x :: st) h := by
  intro p e s m args below meth c H locs ls C hn hz r hS hl
  exact lv_icmp_le C.1 C.2.1 hd ht (fun q => kt q p e s m args below meth c H locs ls C hn hz r hS hl) (fun q => kf q p e s m args below meth c H locs ls C hn hz r hS hl)

theorem x_goto {G : GT} {R : Room} {M : MI} {ns zs : Nat} {Zf : List Frame → Array Value → State → State → Prop} {pc : Nat} {lv : List (Nat × Value)} {st : List Value} {h : PH} {off : Int} {tgt : Nat} (hd : decode M.2.1 pc = .ok (.goto off, 3)) (ht : (pc : Int) + off = (tgt : Int)) (kk : Ex G R M ns zs Zf tgt lv st h) : Ex G R M ns zs Zf pc lv st h := by
  intro p e s m args below meth c H locs ls C hn hz r hS hl
  exact lv_goto C.1 C.2.1 hd ht (kk p e s m args below meth c H locs ls C hn hz r hS hl)


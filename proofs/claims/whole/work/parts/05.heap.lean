/-! ===== fields and arrays of the pure heap ===== -/
def qcf (ci : Nat) (C : String) (T : u_T) (N : Nat) : Prop := qcl[ci]? = some (C, T, N) ∧ (∀ w ∈ u_ws C T N, w ∈ qw_good) ∧ (∃ ty0 : Nat → FieldType, ∀ k, k < N → parseFieldDescriptor (T k).2.2.1 = some (ty0 k)) ∧ (∀ a, a < N → ∀ b, b < N → a ≠ b → (T a).2.1 ≠ (T b).2.1) ∧ ci < 13
def qfty (code : Nat) (ty : FieldType) : Bool := match ty with
  | .int => code == 0
  | .boolean => code == 1
  | .long => code == 2
  | .object _ => Nat.ble 10 code
  | .array _ => Nat.ble 10 code
  | _ => false
/-- entry ix of own's pool is field k of class ci, of kind code -/
def qfL (own : String) (ix ci k code : Nat) (fin : Bool) : Prop := ∃ (C : String) (T : u_T) (N : Nat) (ty : FieldType), qcf ci C T N ∧ k < N ∧ (qft ci)[k]? = some code ∧ parseFieldDescriptor (T k).2.2.1 = some ty ∧ qfty code ty = true ∧ (T k).2.2.2 = fin ∧ (T k).1 = C ∧ (Cond.fieldLink own ix (T k).1 (T k).2.1 (T k).2.2.1 ∈ qw_good ∨ ∃ host, Cond.fieldLinkNest own ix (T k).1 (T k).2.1 (T k).2.2.1 host ∈ qw_nest)
/-- .. of own's own final field -/
def qfF (own : String) (ix ci k code : Nat) : Prop := ∃ (T : u_T) (N : Nat) (ty : FieldType), qcf ci own T N ∧ k < N ∧ (qft ci)[k]? = some code ∧ parseFieldDescriptor (T k).2.2.1 = some ty ∧ qfty code ty = true ∧ (T k).2.2.2 = true ∧ (T k).1 = own ∧ Cond.fieldLink own ix (T k).1 (T k).2.1 (T k).2.2.1 ∈ qw_good
theorem qfF.L {own : String} {ix ci k code : Nat} (f : qfF own ix ci k code) : qfL own ix ci k code true := by
  obtain ⟨T, N, ty, h1, h2, h3, h4, h5, h6, h7, h8⟩ := f
  exact ⟨own, T, N, ty, h1, h2, h3, h4, h5, h6, h7, Or.inl h8⟩
theorem qrel_at {G : GT} {h : PH} {H : Heap} {ci a : Nat} (ok : qOK h ci a) (hc : ci < 13) : (qws G h)[a]? = some (qB G + a, .inr (ci, (qft ci).mapIdx (qfv G h a))) := by
  rw [qws_at ok.1, qce_obj (by rw [ok.2]; exact hc), ok.2]
theorem qfs_at {G : GT} {h : PH} {a k code ci : Nat} (hk : (qft ci)[k]? = some code) : ((qft ci).mapIdx (qfv G h a))[k]? = some (qfv G h a k code) := by
  rw [List.getElem?_mapIdx, hk]; rfl
section
variable {G : GT} {R : Room} {M : MI} {ns zs : Nat} {Zf : List Frame → Array Value → State → State → Prop} {pc : Nat} {lv : List (Nat × Value)} {st : List Value} {h : PH}
/-- the heap is just as large as its cells are many -/
theorem qsz {p : Program} {e : Env} {s : State} {m : MethodId} {args : Array Value} {below : List Frame} {meth : Method} {c : Code} {H : Heap} {locs : List Loc} {z : Nat} {Q : State → Prop} {g : JFrame} (C : Cx G M ns p s m args meth c) (hn : ns ≤ qn h) (r : qRel G h H) (hS : va_S (qA G) s.heap H locs)
    (k : H.size = qB G + qn h → W p G.1 e R s m args below meth c H locs (qn h - ns) z Q g) : W p G.1 e R s m args below meth c H locs (qn h - ns) z Q g := by
  intro T hT X
  have h1 := X.heapSize
  have h0 := C.hsz
  have h2 := r.size (by have := hS.1; omega)
  exact k (by rw [hT] at h1; omega) T hT X
theorem qgetW {p : Program} {e : Env} {s : State} {m : MethodId} {args : Array Value} {below : List Frame} {meth : Method} {c : Code} {H : Heap} {locs : List Loc} {cells slots : Nat} {Q : State → Prop} {ls : Array Slot} {rest : List Value} {ix ci k code a : Nat} {fin : Bool} (C : Cx G M ns p s m args meth c) (r : qRel G h H) (hd : decode M.2.1 pc = .ok (.getfield ix, 3)) (hl : qfL M.1 ix ci k code fin) (ok : qOK h ci a)
    (kk : W p G.1 e R s m args below meth c H locs cells slots Q (F0 m (pc + 3) ls (qfv G h a k code :: rest))) : W p G.1 e R s m args below meth c H locs cells slots Q (F0 m pc ls (.ref (qtr G a) :: rest)) := by
  obtain ⟨Cn, T, N, ty, ⟨hc, hin, -, -, hlt⟩, hk, hkc, -, -, -, -, hlink⟩ := hl
  rw [qtr_lo (ok.lo r)]
  rcases hlink with hw | ⟨host, hw⟩
  · exact va_get C.1 C.2.1 C.hts hin C.own C.hK r.1 a (qrel_at (H := H) ok hlt) hc k hk (C.hts _ hw) (fun _ h9 => h9) (qfs_at hkc) hd kk
  · exact va_getN C.1 C.2.1 C.hts hin C.own C.hK r.1 a (qrel_at (H := H) ok hlt) hc k hk (va_Nw.use rfl (C.v.2.1 _ hw)) (fun _ h9 => h9) (qfs_at hkc) hd kk
theorem x_getI {ix ci k code a : Nat} {fin : Bool} (hd : decode M.2.1 pc = .ok (.getfield ix, 3)) (hl : qfL M.1 ix ci k code fin) (ok : qOK h ci a) (hc : code < 2) (kk : Ex G R M ns zs Zf (pc + 3) lv (.int (qI h a k) :: st) h) : Ex G R M ns zs Zf pc lv (.ref a :: st) h := by
  intro p e s m args below meth c H locs ls C hn hz r hS hlv
  refine qgetW C r hd hl ok ?_
  rw [show qfv G h a k code = .int (qI h a k) from if_pos hc]
  exact kk p e s m args below meth c H locs ls C hn hz r hS hlv
theorem x_getJ {ix ci k a : Nat} {fin : Bool} (hd : decode M.2.1 pc = .ok (.getfield ix, 3)) (hl : qfL M.1 ix ci k 2 fin) (ok : qOK h ci a) (kk : Ex G R M ns zs Zf (pc + 3) lv (.long (qJ h a k) :: st) h) : Ex G R M ns zs Zf pc lv (.ref a :: st) h := by
  intro p e s m args below meth c H locs ls C hn hz r hS hlv
  refine qgetW C r hd hl ok ?_
  exact kk p e s m args below meth c H locs ls C hn hz r hS hlv
theorem qrt_at {ci k t : Nat} (hlt : ci < 13) (hk : (qft ci)[k]? = some (10 + t)) : qrt ci k = some t := by
  unfold qrt
  rw [if_neg (by omega), if_neg (by omega), hk]
  show (if 10 ≤ 10 + t then some (10 + t - 10) else none) = some t
  rw [if_pos (by omega)]
  congr 1
  omega
theorem qOK.fld {own : String} {ix ci k t a b : Nat} {fin : Bool} (w : qWT h) (hl : qfL own ix ci k (10 + t) fin) (ok : qOK h ci a) (hb : qR h a k = some b) : qOK h t b := by
  obtain ⟨Cn, T, N, ty, ⟨-, -, -, -, hlt⟩, hk, hkc, -⟩ := hl
  exact w a ok.1 k t b (by rw [ok.2]; exact qrt_at hlt hkc) hb
/-- a reference that is there -/
theorem x_getR {ix ci k t a b : Nat} {fin : Bool} (hd : decode M.2.1 pc = .ok (.getfield ix, 3)) (hl : qfL M.1 ix ci k (10 + t) fin) (ok : qOK h ci a) (hb : qR h a k = some b) (kk : qOK h t b → Ex G R M ns zs Zf (pc + 3) lv (.ref b :: st) h) : Ex G R M ns zs Zf pc lv (.ref a :: st) h := by
  intro p e s m args below meth c H locs ls C hn hz r hS hlv
  refine qgetW C r hd hl ok ?_
  rw [show qfv G h a k (10 + t) = .ref (qtr G b) by unfold qfv; rw [if_neg (by omega), if_neg (by omega), hb]; rfl]
  exact kk (ok.fld r.2.1 hl hb) p e s m args below meth c H locs ls C hn hz r hS hlv
theorem qputW {p : Program} {e : Env} {s : State} {m : MethodId} {args : Array Value} {below : List Frame} {meth : Method} {c : Code} {H : Heap} {locs : List Loc} {cells slots : Nat} {Q : State → Prop} {ls : Array Slot} {rest : List Value} {ix ci k code a : Nat} {fin : Bool} {v : Value} {h1 : PH} (C : Cx G M ns p s m args meth c) (r : qRel G h H) (hS : va_S (qA G) s.heap H locs) (hd : decode M.2.1 pc = .ok (.putfield ix, 3)) (hl : qfL M.1 ix ci k code fin) (hfi : fin = false ∨ (M.2.2.2.2.name = "<init>" ∧ qfF M.1 ix ci k code)) (ok : qOK h ci a)
    (hv : ∀ ty, qfty code ty = true → narrow ty v = v ∧ fits ty v = true) (hn1 : qn h1 = qn h) (hK1 : qK h1 = qK h) (hw1 : qWT h1) (hv1 : qfv G h1 a k code = v) (ho1 : ∀ j, j ≠ k → ∀ c, qfv G h1 a j c = qfv G h a j c) (ho : ∀ b, b ≠ a → qce G h1 b = qce G h b)
    (kk : ∀ (H1 : Heap) (locs1 : List Loc), qRel G h1 H1 → va_S (qA G) s.heap H1 locs1 → W p G.1 e R s m args below meth c H1 locs1 cells slots Q (F0 m (pc + 3) ls rest)) : W p G.1 e R s m args below meth c H locs cells slots Q (F0 m pc ls (v :: .ref (qtr G a) :: rest)) := by
  rw [qtr_lo (ok.lo r)]
  have fin9 : ∀ {cs : List Nat} {H1 : Heap}, cs = qft ci → ci < 13 → cs[k]? = some code → va_P (qD G) qcl ((qws G h).set a (qB G + a, .inr (ci, (cs.mapIdx (qfv G h a)).set k v))) H1 → qRel G h1 H1 := by
    intro cs H1 e1 hlt hkc hP
    refine ⟨?_, hw1, by rw [hn1]; exact r.2.2⟩
    rw [qws_set (h1 := h1) hn1 (by rw [qce_obj (by rw [hK1, ok.2]; exact hlt), hK1, ok.2, ← e1, ← qfs_set hkc hv1 ho1]) ho] at hP
    exact hP
  rcases hfi with rfl | ⟨hnm, T, N, ty, ⟨hc, hin, ⟨ty0, hty⟩, hnm2, hlt⟩, hk, hkc, hty2, hq, hfin, hdecl, hw⟩
  · obtain ⟨Cn, T, N, ty, ⟨hc, hin, ⟨ty0, hty⟩, hnm, hlt⟩, hk, hkc, hty2, hq, hfin, -, hlink⟩ := hl
    have hlen : k < ((qft ci).mapIdx (qfv G h a)).length := by rw [List.length_mapIdx]; exact (List.getElem?_eq_some_iff.mp hkc).1
    rcases hlink with hw | ⟨host, hw⟩
    · exact va_put C.1 C.2.1 C.hts hin ty0 hty hnm C.own C.hK r.1 (qws_D G h) hS a (qrel_at (H := H) ok hlt) hc k hk (C.hts _ hw) (fun _ h9 => h9) hfin hty2 (hv ty hq).1 (hv ty hq).2 hlen hd (fun H1 locs1 hP _ hS1 => kk H1 locs1 (fin9 rfl hlt hkc hP) hS1)
    · exact va_putN C.1 C.2.1 C.hts hin ty0 hty hnm C.own C.hK r.1 (qws_D G h) hS a (qrel_at (H := H) ok hlt) hc k hk (va_Nw.use rfl (C.v.2.1 _ hw)) (fun _ h9 => h9) hfin hty2 (hv ty hq).1 (hv ty hq).2 hlen hd (fun H1 locs1 hP _ hS1 => kk H1 locs1 (fin9 rfl hlt hkc hP) hS1)
  · have hlen : k < ((qft ci).mapIdx (qfv G h a)).length := by rw [List.length_mapIdx]; exact (List.getElem?_eq_some_iff.mp hkc).1
    exact va_putF C.1 C.2.1 C.hts hin ty0 hty hnm2 C.own C.hK r.1 (qws_D G h) hS a (qrel_at (H := H) ok hlt) hc k hk (C.hts _ hw) (fun _ h9 => h9) hfin (C.nm.trans hnm) hdecl hty2 (hv ty hq).1 (hv ty hq).2 hlen hd (fun H1 locs1 hP _ hS1 => kk H1 locs1 (fin9 rfl hlt hkc hP) hS1)
theorem qfty_int {ty : FieldType} {x : Int32} (h : qfty 0 ty = true) : narrow ty (.int x) = .int x ∧ fits ty (.int x) = true := by
  cases ty <;> first | exact ⟨rfl, rfl⟩ | cases h
theorem qfty_bool {ty : FieldType} {x : Int32} (hx : x = 0 ∨ x = 1) (h : qfty 1 ty = true) : narrow ty (.int x) = .int x ∧ fits ty (.int x) = true := by
  cases ty <;> first | (rcases hx with rfl | rfl <;> exact ⟨rfl, rfl⟩) | cases h
theorem qfty_long {ty : FieldType} {x : Int64} (h : qfty 2 ty = true) : narrow ty (.long x) = .long x ∧ fits ty (.long x) = true := by
  cases ty <;> first | exact ⟨rfl, rfl⟩ | cases h
theorem qfty_ref {ty : FieldType} {t x : Nat} (h : qfty (10 + t) ty = true) : narrow ty (.ref x) = .ref x ∧ fits ty (.ref x) = true := by
  cases ty <;> first | exact ⟨rfl, rfl⟩ | (simp [qfty] at h; done) | (simp [qfty] at h; omega)
theorem qfv_sI_ne {a k j : Nat} {v : Int32} (hj : j ≠ k) (c : Nat) : qfv G (qsI h a k v) a j c = qfv G h a j c := by
  show (if c < 2 then Value.int (qI (qsI h a k v) a j) else _) = _
  rw [show qI (qsI h a k v) a j = qI h a j by rw [qI_sI, if_neg (fun q : a = a ∧ j = k => hj q.2)]]; rfl
theorem qfv_sJ_ne {a k j : Nat} {v : Int64} (hj : j ≠ k) (c : Nat) : qfv G (qsJ h a k v) a j c = qfv G h a j c := by
  show (if c < 2 then _ else if c = 2 then Value.long (qJ (qsJ h a k v) a j) else _) = _
  rw [show qJ (qsJ h a k v) a j = qJ h a j by rw [qJ_sJ, if_neg (fun q : a = a ∧ j = k => hj q.2)]]; rfl
theorem qfv_sR_ne {a k j : Nat} {v : Option Nat} (hj : j ≠ k) (c : Nat) : qfv G (qsR h a k v) a j c = qfv G h a j c := by
  show (if c < 2 then _ else if c = 2 then _ else va_rf ((qR (qsR h a k v) a j).map _)) = _
  rw [show qR (qsR h a k v) a j = qR h a j by rw [qR_sR, if_neg (fun q : a = a ∧ j = k => hj q.2)]]; rfl
theorem x_putI {ix ci k a : Nat} {v : Int32} (hd : decode M.2.1 pc = .ok (.putfield ix, 3)) (hl : qfL M.1 ix ci k 0 false) (ok : qOK h ci a) (kk : Ex G R M ns zs Zf (pc + 3) lv st (qsI h a k v)) : Ex G R M ns zs Zf pc lv (.int v :: .ref a :: st) h := by
  intro p e s m args below meth c H locs ls C hn hz r hS hlv
  exact qputW (h1 := qsI h a k v) C r hS hd hl (Or.inl rfl) ok (fun ty q => qfty_int q) rfl rfl (r.2.1.sI a k v) (by rw [show qfv G (qsI h a k v) a k 0 = .int (qI (qsI h a k v) a k) from rfl, qI_sI_eq]; rfl) (fun j hj c => qfv_sI_ne hj c) (fun b hb => qce_sI_ne hb) (fun H1 locs1 r1 hS1 => kk p e s m args below meth c H1 locs1 ls C hn hz r1 hS1 hlv)
theorem x_putZ {ix ci k a : Nat} {v : Int32} (hd : decode M.2.1 pc = .ok (.putfield ix, 3)) (hl : qfL M.1 ix ci k 1 false) (ok : qOK h ci a) (hv : v = 0 ∨ v = 1) (kk : Ex G R M ns zs Zf (pc + 3) lv st (qsI h a k v)) : Ex G R M ns zs Zf pc lv (.int v :: .ref a :: st) h := by
  intro p e s m args below meth c H locs ls C hn hz r hS hlv
  exact qputW (h1 := qsI h a k v) C r hS hd hl (Or.inl rfl) ok (fun ty q => qfty_bool hv q) rfl rfl (r.2.1.sI a k v) (by rw [show qfv G (qsI h a k v) a k 1 = .int (qI (qsI h a k v) a k) from rfl, qI_sI_eq]; rfl) (fun j hj c => qfv_sI_ne hj c) (fun b hb => qce_sI_ne hb) (fun H1 locs1 r1 hS1 => kk p e s m args below meth c H1 locs1 ls C hn hz r1 hS1 hlv)
theorem x_putJ {ix ci k a : Nat} {v : Int64} (hd : decode M.2.1 pc = .ok (.putfield ix, 3)) (hl : qfL M.1 ix ci k 2 false) (ok : qOK h ci a) (kk : Ex G R M ns zs Zf (pc + 3) lv st (qsJ h a k v)) : Ex G R M ns zs Zf pc lv (.long v :: .ref a :: st) h := by
  intro p e s m args below meth c H locs ls C hn hz r hS hlv
  exact qputW (h1 := qsJ h a k v) C r hS hd hl (Or.inl rfl) ok (fun ty q => qfty_long q) rfl rfl (r.2.1.sJ a k v) (by rw [show qfv G (qsJ h a k v) a k 2 = .long (qJ (qsJ h a k v) a k) from rfl, qJ_sJ_eq]; rfl) (fun j hj c => qfv_sJ_ne hj c) (fun b hb => qce_sJ_ne hb) (fun H1 locs1 r1 hS1 => kk p e s m args below meth c H1 locs1 ls C hn hz r1 hS1 hlv)
theorem qfL.rt {own : String} {ix ci k t : Nat} {fin : Bool} (hl : qfL own ix ci k (10 + t) fin) : qrt ci k = some t := by
  obtain ⟨Cn, T, N, ty, ⟨-, -, -, -, hlt⟩, hk, hkc, -⟩ := hl
  exact qrt_at hlt hkc
theorem qputRW {ix ci k t a b : Nat} {fin : Bool} (hfi : fin = false ∨ (M.2.2.2.2.name = "<init>" ∧ qfF M.1 ix ci k (10 + t))) (hd : decode M.2.1 pc = .ok (.putfield ix, 3)) (hl : qfL M.1 ix ci k (10 + t) fin) (ok : qOK h ci a) (okb : qOK h t b) (kk : Ex G R M ns zs Zf (pc + 3) lv st (qsR h a k (some b))) : Ex G R M ns zs Zf pc lv (.ref b :: .ref a :: st) h := by
  intro p e s m args below meth c H locs ls C hn hz r hS hlv
  refine qputW (v := .ref (qtr G b)) (h1 := qsR h a k (some b)) C r hS hd hl hfi ok (fun ty q => qfty_ref q) rfl rfl (r.2.1.sR (fun t2 b2 e1 e2 => ?_)) (by unfold qfv; rw [if_neg (by omega), if_neg (by omega), qR_sR_eq]; rfl) (fun j hj c => qfv_sR_ne hj c) (fun b hb => qce_sR_ne hb) (fun H1 locs1 r1 hS1 => kk p e s m args below meth c H1 locs1 ls C hn hz r1 hS1 hlv)
  rw [ok.2, hl.rt] at e1
  cases e1; cases e2
  exact okb
theorem x_putR {ix ci k t a b : Nat} (hd : decode M.2.1 pc = .ok (.putfield ix, 3)) (hl : qfL M.1 ix ci k (10 + t) false) (ok : qOK h ci a) (okb : qOK h t b) (kk : Ex G R M ns zs Zf (pc + 3) lv st (qsR h a k (some b))) : Ex G R M ns zs Zf pc lv (.ref b :: .ref a :: st) h := qputRW (Or.inl rfl) hd hl ok okb kk
theorem x_putF {ix ci k t a b : Nat} (hnm : M.2.2.2.2.name = "<init>") (hd : decode M.2.1 pc = .ok (.putfield ix, 3)) (hl : qfF M.1 ix ci k (10 + t)) (ok : qOK h ci a) (okb : qOK h t b) (kk : Ex G R M ns zs Zf (pc + 3) lv st (qsR h a k (some b))) : Ex G R M ns zs Zf pc lv (.ref b :: .ref a :: st) h := qputRW (Or.inr ⟨hnm, hl⟩) hd hl.L ok okb kk
/-! arrays -/
theorem qarr_I {H : Heap} {a t : Nat} (ok : qOK h t a) (ht : t = 13 ∨ t = 14 ∨ t = 16) : (qws G h)[a]? = some (qB G + a, .inl (qcy G t, qL h a, .inl (qI h a))) := by
  rw [qws_at ok.1, qce_I (by rw [ok.2]; exact ht), ok.2]
theorem qarr_J {H : Heap} {a : Nat} (ok : qOK h 15 a) : (qws G h)[a]? = some (qB G + a, .inl (qcy G 15, qL h a, .inr (.inl (qJ h a)))) := by
  rw [qws_at ok.1, qce_J ok.2]
theorem qarr_R {H : Heap} {a t : Nat} (ok : qOK h t a) (ht : t = 17 ∨ t = 18) : (qws G h)[a]? = some (qB G + a, .inl (qcy G t, qL h a, .inr (.inr (.inr (.inr (fun j => (qR h a j).map (qtr G))))))) := by
  rw [qws_at ok.1, qce_R (by rw [ok.2]; exact ht), ok.2]
theorem x_iaload {a : Nat} {i : Int32} (hd : decode M.2.1 pc = .ok (.iaload, 1)) (ok : qOK h 14 a) (hi : vp_in i (qL h a)) (kk : Ex G R M ns zs Zf (pc + 1) lv (.int (qI h a i.toNatClampNeg) :: st) h) : Ex G R M ns zs Zf pc lv (.int i :: .ref a :: st) h := by
  intro p e s m args below meth c H locs ls C hn hz r hS hlv
  have e1 : qtr G a = qB G + a := qtr_lo (ok.lo r)
  show W p G.1 e R s m args below meth c H locs _ _ _ (F0 m pc ls (.int i :: .ref (qtr G a) :: _))
  rw [e1]
  exact va_iald C.1 C.2.1 C.hK r.1 a 1 (qarr_I (H := H) ok (by omega)) rfl hi hd (kk p e s m args below meth c H locs ls C hn hz r hS hlv)
theorem x_baload {a : Nat} {i : Int32} (hd : decode M.2.1 pc = .ok (.baload, 1)) (ok : qOK h 13 a) (hi : vp_in i (qL h a)) (kk : Ex G R M ns zs Zf (pc + 1) lv (.int (qI h a i.toNatClampNeg) :: st) h) : Ex G R M ns zs Zf pc lv (.int i :: .ref a :: st) h := by
  intro p e s m args below meth c H locs ls C hn hz r hS hlv
  have e1 : qtr G a = qB G + a := qtr_lo (ok.lo r)
  show W p G.1 e R s m args below meth c H locs _ _ _ (F0 m pc ls (.int i :: .ref (qtr G a) :: _))
  rw [e1]
  exact va_bald C.1 C.2.1 C.hK r.1 a 0 (qarr_I (H := H) ok (by omega)) rfl hi hd (kk p e s m args below meth c H locs ls C hn hz r hS hlv)
theorem x_zaload {a : Nat} {i : Int32} (hd : decode M.2.1 pc = .ok (.baload, 1)) (ok : qOK h 16 a) (hi : vp_in i (qL h a)) (kk : Ex G R M ns zs Zf (pc + 1) lv (.int (qI h a i.toNatClampNeg) :: st) h) : Ex G R M ns zs Zf pc lv (.int i :: .ref a :: st) h := by
  intro p e s m args below meth c H locs ls C hn hz r hS hlv
  have e1 : qtr G a = qB G + a := qtr_lo (ok.lo r)
  show W p G.1 e R s m args below meth c H locs _ _ _ (F0 m pc ls (.int i :: .ref (qtr G a) :: _))
  rw [e1]
  exact va_zald C.1 C.2.1 C.hK r.1 a 3 (qarr_I (H := H) ok (by omega)) rfl hi hd (kk p e s m args below meth c H locs ls C hn hz r hS hlv)
theorem x_laload {a : Nat} {i : Int32} (hd : decode M.2.1 pc = .ok (.laload, 1)) (ok : qOK h 15 a) (hi : vp_in i (qL h a)) (kk : Ex G R M ns zs Zf (pc + 1) lv (.long (qJ h a i.toNatClampNeg) :: st) h) : Ex G R M ns zs Zf pc lv (.int i :: .ref a :: st) h := by
  intro p e s m args below meth c H locs ls C hn hz r hS hlv
  have e1 : qtr G a = qB G + a := qtr_lo (ok.lo r)
  show W p G.1 e R s m args below meth c H locs _ _ _ (F0 m pc ls (.int i :: .ref (qtr G a) :: _))
  rw [e1]
  exact va_lald C.1 C.2.1 C.hK r.1 a 2 (qarr_J (H := H) ok) rfl hi hd (kk p e s m args below meth c H locs ls C hn hz r hS hlv)
theorem qtv_rf (o : Option Nat) : qtv G (va_rf o) = va_rf (o.map (qtr G)) := by cases o <;> rfl
/-- a reference of an array, or null -/
theorem x_aaloadq {a t : Nat} {i : Int32} (hd : decode M.2.1 pc = .ok (.aaload, 1)) (ok : qOK h t a) (ht : t = 17 ∨ t = 18) (hi : vp_in i (qL h a)) (kk : (∀ b, qR h a i.toNatClampNeg = some b → qOK h (if t = 17 then 1 else 4) b) → Ex G R M ns zs Zf (pc + 1) lv (va_rf (qR h a i.toNatClampNeg) :: st) h) : Ex G R M ns zs Zf pc lv (.int i :: .ref a :: st) h := by
  intro p e s m args below meth c H locs ls C hn hz r hS hlv
  have e1 : qtr G a = qB G + a := qtr_lo (ok.lo r)
  have k2 := kk (fun b hb => r.2.1 a ok.1 i.toNatClampNeg _ b (by rw [ok.2]; rcases ht with rfl | rfl <;> rfl) hb) p e s m args below meth c H locs ls C hn hz r hS hlv
  rw [show (List.map (qtv G) (va_rf (qR h a i.toNatClampNeg) :: st)) = va_rf ((qR h a i.toNatClampNeg).map (qtr G)) :: st.map (qtv G) by rw [List.map_cons, qtv_rf]] at k2
  show W p G.1 e R s m args below meth c H locs _ _ _ (F0 m pc ls (.int i :: .ref (qtr G a) :: _))
  rw [e1]
  rcases ht with rfl | rfl
  · exact va_aldq (C := "ForeverOffice$Drawing") C.1 C.2.1 C.hK r.1 a 4 (qarr_R (H := H) ok (by omega)) rfl hi hd k2
  · exact va_aldq (C := "ForeverOffice$Part") C.1 C.2.1 C.hK r.1 a 5 (qarr_R (H := H) ok (by omega)) rfl hi hd k2
theorem x_aaload {a t b : Nat} {i : Int32} (hd : decode M.2.1 pc = .ok (.aaload, 1)) (ok : qOK h t a) (ht : t = 17 ∨ t = 18) (hi : vp_in i (qL h a)) (hb : qR h a i.toNatClampNeg = some b) (kk : qOK h (if t = 17 then 1 else 4) b → Ex G R M ns zs Zf (pc + 1) lv (.ref b :: st) h) : Ex G R M ns zs Zf pc lv (.int i :: .ref a :: st) h := by
  refine x_aaloadq hd ok ht hi (fun w => ?_)
  rw [hb]
  exact kk (w b hb)
theorem x_alen {a t : Nat} (hd : decode M.2.1 pc = .ok (.arraylength, 1)) (ok : qOK h t a) (ht : 13 ≤ t ∧ t ≤ 18) (kk : Ex G R M ns zs Zf (pc + 1) lv (.int (nI (qL h a)) :: st) h) : Ex G R M ns zs Zf pc lv (.ref a :: st) h := by
  intro p e s m args below meth c H locs ls C hn hz r hS hlv
  have e1 : qtr G a = qB G + a := qtr_lo (ok.lo r)
  have k2 := kk p e s m args below meth c H locs ls C hn hz r hS hlv
  show W p G.1 e R s m args below meth c H locs _ _ _ (F0 m pc ls (.ref (qtr G a) :: _))
  rw [e1]
  rcases (show t = 13 ∨ t = 14 ∨ t = 15 ∨ t = 16 ∨ t = 17 ∨ t = 18 by omega) with rfl | rfl | rfl | rfl | rfl | rfl
  · exact va_alen (ty := .byte) C.1 C.2.1 C.hK r.1 a 0 (qarr_I (H := H) ok (by omega)) rfl rfl hd k2
  · exact va_alen (ty := .int) C.1 C.2.1 C.hK r.1 a 1 (qarr_I (H := H) ok (by omega)) rfl rfl hd k2
  · exact va_alen (ty := .long) C.1 C.2.1 C.hK r.1 a 2 (qarr_J (H := H) ok) rfl rfl hd k2
  · exact va_alen (ty := .boolean) C.1 C.2.1 C.hK r.1 a 3 (qarr_I (H := H) ok (by omega)) rfl rfl hd k2
  · exact va_alen (ty := .object "ForeverOffice$Drawing") C.1 C.2.1 C.hK r.1 a 4 (qarr_R (H := H) ok (by omega)) rfl rfl hd k2
  · exact va_alen (ty := .object "ForeverOffice$Part") C.1 C.2.1 C.hK r.1 a 5 (qarr_R (H := H) ok (by omega)) rfl rfl hd k2
theorem qrow_I {a k : Nat} {v : Int32} : qI (qsI h a k v) a = upd (qI h a) k v := by
  funext j
  rw [qI_sI]
  by_cases hj : j = k
  · subst hj; rw [if_pos ⟨rfl, rfl⟩]; simp [upd]
  · rw [if_neg (fun q => hj q.2)]; simp [upd, hj]
theorem qrow_J {a k : Nat} {v : Int64} : qJ (qsJ h a k v) a = vp_updL (qJ h a) k v := by
  funext j
  rw [qJ_sJ]
  by_cases hj : j = k
  · subst hj; rw [if_pos ⟨rfl, rfl⟩]; simp [vp_updL]
  · rw [if_neg (fun q => hj q.2)]; simp [vp_updL, hj]
theorem qset_I {H1 : Heap} {H : Heap} {a t k : Nat} {v : Int32} (r : qRel G h H) (ok : qOK h t a) (ht : t = 13 ∨ t = 14 ∨ t = 16) (hP : va_P (qD G) qcl ((qws G h).set a (qB G + a, .inl (qcy G t, qL h a, .inl (upd (qI h a) k v)))) H1) : qRel G (qsI h a k v) H1 := by
  refine ⟨?_, r.2.1.sI a k v, r.2.2⟩
  rw [qws_set (G := G) (h := h) (h1 := qsI h a k v) rfl (by rw [qce_I (by rw [show qK (qsI h a k v) a = qK h a from rfl, ok.2]; exact ht), qrow_I, show qK (qsI h a k v) a = qK h a from rfl, ok.2]; rfl) (fun b hb => qce_sI_ne hb)] at hP
  exact hP
theorem x_iastore {a : Nat} {i x : Int32} (hd : decode M.2.1 pc = .ok (.iastore, 1)) (ok : qOK h 14 a) (hi : vp_in i (qL h a)) (kk : Ex G R M ns zs Zf (pc + 1) lv st (qsI h a i.toNatClampNeg x)) : Ex G R M ns zs Zf pc lv (.int x :: .int i :: .ref a :: st) h := by
  intro p e s m args below meth c H locs ls C hn hz r hS hlv
  have e1 : qtr G a = qB G + a := qtr_lo (ok.lo r)
  show W p G.1 e R s m args below meth c H locs _ _ _ (F0 m pc ls (.int x :: .int i :: .ref (qtr G a) :: _))
  rw [e1]
  exact va_iast C.1 C.2.1 C.hK r.1 (qws_D G h) hS a 1 (qarr_I (H := H) ok (by omega)) rfl hi hd (fun H1 locs1 hP _ hS1 => kk p e s m args below meth c H1 locs1 ls C hn hz (qset_I r ok (by omega) hP) hS1 hlv)
theorem x_bastore {a : Nat} {i x : Int32} (hd : decode M.2.1 pc = .ok (.bastore, 1)) (ok : qOK h 13 a) (hi : vp_in i (qL h a)) (kk : Ex G R M ns zs Zf (pc + 1) lv st (qsI h a i.toNatClampNeg (vp_nar .byte x))) : Ex G R M ns zs Zf pc lv (.int x :: .int i :: .ref a :: st) h := by
  intro p e s m args below meth c H locs ls C hn hz r hS hlv
  have e1 : qtr G a = qB G + a := qtr_lo (ok.lo r)
  show W p G.1 e R s m args below meth c H locs _ _ _ (F0 m pc ls (.int x :: .int i :: .ref (qtr G a) :: _))
  rw [e1]
  exact va_bast C.1 C.2.1 C.hK r.1 (qws_D G h) hS a 0 (qarr_I (H := H) ok (by omega)) rfl hi hd (fun H1 locs1 hP _ hS1 => kk p e s m args below meth c H1 locs1 ls C hn hz (qset_I r ok (by omega) hP) hS1 hlv)
theorem x_zastore {a : Nat} {i x : Int32} (hd : decode M.2.1 pc = .ok (.bastore, 1)) (ok : qOK h 16 a) (hi : vp_in i (qL h a)) (kk : Ex G R M ns zs Zf (pc + 1) lv st (qsI h a i.toNatClampNeg (vp_nar .boolean x))) : Ex G R M ns zs Zf pc lv (.int x :: .int i :: .ref a :: st) h := by
  intro p e s m args below meth c H locs ls C hn hz r hS hlv
  have e1 : qtr G a = qB G + a := qtr_lo (ok.lo r)
  show W p G.1 e R s m args below meth c H locs _ _ _ (F0 m pc ls (.int x :: .int i :: .ref (qtr G a) :: _))
  rw [e1]
  exact va_zast C.1 C.2.1 C.hK r.1 (qws_D G h) hS a 3 (qarr_I (H := H) ok (by omega)) rfl hi hd (fun H1 locs1 hP _ hS1 => kk p e s m args below meth c H1 locs1 ls C hn hz (qset_I r ok (by omega) hP) hS1 hlv)
theorem x_lastore {a : Nat} {i : Int32} {x : Int64} (hd : decode M.2.1 pc = .ok (.lastore, 1)) (ok : qOK h 15 a) (hi : vp_in i (qL h a)) (kk : Ex G R M ns zs Zf (pc + 1) lv st (qsJ h a i.toNatClampNeg x)) : Ex G R M ns zs Zf pc lv (.long x :: .int i :: .ref a :: st) h := by
  intro p e s m args below meth c H locs ls C hn hz r hS hlv
  have e1 : qtr G a = qB G + a := qtr_lo (ok.lo r)
  show W p G.1 e R s m args below meth c H locs _ _ _ (F0 m pc ls (.long x :: .int i :: .ref (qtr G a) :: _))
  rw [e1]
  refine va_last C.1 C.2.1 C.hK r.1 (qws_D G h) hS a 2 (qarr_J (H := H) ok) rfl hi hd (fun H1 locs1 hP _ hS1 => kk p e s m args below meth c H1 locs1 ls C hn hz ⟨?_, r.2.1.sJ _ _ _, r.2.2⟩ hS1 hlv)
  rw [qws_set (G := G) (h := h) (h1 := qsJ h a i.toNatClampNeg x) rfl (by rw [qce_J (G := G) (h := qsJ h a i.toNatClampNeg x) ok.2, qrow_J]; rfl) (fun b hb => qce_sJ_ne hb)] at hP
  exact hP
theorem qrow_R {a k : Nat} {b : Nat} : (fun j => (qR (qsR h a k (some b)) a j).map (qtr G)) = va_up (fun j => (qR h a j).map (qtr G)) k (some (qtr G b)) := by
  funext j
  rw [qR_sR]
  by_cases hj : j = k
  · subst hj; rw [if_pos ⟨rfl, rfl⟩]; simp [va_up]
  · rw [if_neg (fun q => hj q.2)]; simp [va_up, hj]
theorem qset_R {H1 : Heap} {H : Heap} {a t k b : Nat} (r : qRel G h H) (ok : qOK h t a) (ht : t = 17 ∨ t = 18) (okb : qOK h (if t = 17 then 1 else 4) b) (hP : va_P (qD G) qcl ((qws G h).set a (qB G + a, .inl (qcy G t, qL h a, .inr (.inr (.inr (.inr (va_up (fun j => (qR h a j).map (qtr G)) k (some (qtr G b))))))))) H1) : qRel G (qsR h a k (some b)) H1 := by
  refine ⟨?_, r.2.1.sR (fun t2 b2 e1 e2 => ?_), r.2.2⟩
  · rw [qws_set (G := G) (h := h) (h1 := qsR h a k (some b)) rfl (by rw [qce_R (by rw [show qK (qsR h a k (some b)) a = qK h a from rfl, ok.2]; exact ht), qrow_R (G := G), show qK (qsR h a k (some b)) a = qK h a from rfl, ok.2]; rfl) (fun b hb => qce_sR_ne hb)] at hP
    exact hP
  · cases e2
    rw [ok.2] at e1
    rcases ht with rfl | rfl
    · cases e1; exact okb
    · cases e1; exact okb
theorem x_aastore {a b t : Nat} {i : Int32} (hd : decode M.2.1 pc = .ok (.aastore, 1)) (ok : qOK h t a) (ht : t = 17 ∨ t = 18) (okb : qOK h (if t = 17 then 1 else 4) b) (hi : vp_in i (qL h a)) (kk : Ex G R M ns zs Zf (pc + 1) lv st (qsR h a i.toNatClampNeg (some b))) : Ex G R M ns zs Zf pc lv (.ref b :: .int i :: .ref a :: st) h := by
  intro p e s m args below meth c H locs ls C hn hz r hS hlv
  have e1 : qtr G a = qB G + a := qtr_lo (ok.lo r)
  have e2 : qtr G b = qB G + b := qtr_lo (okb.lo r)
  have k2 : ∀ (H1 : Heap) (locs1 : List Loc), va_P (qD G) qcl ((qws G h).set a (qB G + a, .inl (qcy G t, qL h a, .inr (.inr (.inr (.inr (va_up (fun j => (qR h a j).map (qtr G)) i.toNatClampNeg (some (qB G + b))))))))) H1 → va_S (qA G) s.heap H1 locs1 → W p G.1 e R s m args below meth c H1 locs1 (qn h - ns) (qz h - zs) (Zf below args s) (F0 m (pc + 1) ls (st.map (qtv G))) := fun H1 locs1 hP hS1 => kk p e s m args below meth c H1 locs1 ls C hn hz (qset_R r ok ht okb (by rw [e2]; exact hP)) hS1 hlv
  show W p G.1 e R s m args below meth c H locs _ _ _ (F0 m pc ls (.ref (qtr G b) :: .int i :: .ref (qtr G a) :: _))
  rw [e1, e2]
  rcases ht with rfl | rfl
  · exact va_astq (r := (RX1, TX1, 4)) C.1 C.2.1 C.hK r.1 (qws_D G h) hS a 4 b 1 (qarr_R (H := H) ok (by omega)) rfl (qrel_at (H := H) okb (by decide)) rfl hi hd (fun H1 locs1 hP _ hS1 => k2 H1 locs1 hP hS1)
  · exact va_astq (r := (RX4, TX4, 10)) C.1 C.2.1 C.hK r.1 (qws_D G h) hS a 5 b 4 (qarr_R (H := H) ok (by omega)) rfl (qrel_at (H := H) okb (by decide)) rfl hi hd (fun H1 locs1 hP _ hS1 => k2 H1 locs1 hP hS1)
end

/-! ===== more rows for the generator ===== -/
def qWd (o : Option Nat) : Prop := ∀ b, o = some b → ∃ i, i < 34 ∧ b = wd i
def q_wt (f : Nat) : String × String × String × List Int32 := qwF.getD f ("", "", "", [])
/-- field f (code, reserved, valueIndex, sayingIndex) of constant i -/
def q_wc (f i : Nat) : Int32 := (q_wt f).2.2.2.getD i 0
theorem q_R1 {d mc ms : Nat} (h1 : 1 ≤ d) : 1 ≤ (qrm d mc ms).frames ∧ 20 ≤ (qrm d mc ms).locals := ⟨h1, by show _ ≤ 40 * d; omega⟩
section
variable {G : GT} {R : Room} {M : MI} {ns zs : Nat} {Zf : List Frame → Array Value → State → State → Prop} {pc : Nat} {lv : List (Nat × Value)} {st : List Value} {h : PH}
theorem x_nmQ {x : Option Nat} (k : ∀ y, y = x → Ex G R M ns zs Zf pc lv (va_rf y :: st) h) : Ex G R M ns zs Zf pc lv (va_rf x :: st) h := k x rfl
theorem x_wgetE {i ix b : Nat} {q : String × String × String × List Int32} (eb : b = wd i) (hd : decode M.2.1 pc = .ok (.getfield ix, 3)) (hi : i < 34) (hq : q ∈ qwF) (hw : Cond.fieldLink M.1 ix q.1 q.2.1 q.2.2.1 ∈ qw_good ∨ ∃ host, Cond.fieldLinkNest M.1 ix q.1 q.2.1 q.2.2.1 host ∈ qw_nest) (kk : Ex G R M ns zs Zf (pc + 3) lv (.int (q.2.2.2.getD i 0) :: st) h) : Ex G R M ns zs Zf pc lv (.ref b :: st) h := by
  subst eb
  exact x_wget hd hi hq hw kk
theorem y_new {ix ci N : Nat} {C9 : String} {T : u_T} {ty : Nat → FieldType} (hd : decode M.2.1 pc = .ok (.new ix, 3)) (hcf : qcf ci C9 T N) (hty : ∀ k, k < N → parseFieldDescriptor (T k).2.2.1 = some (ty k)) (hdf : ∀ j, j < N → defaultValue (ty j) = vp_V ((qft ci).map qdf) j) (hcl : Cond.classLink M.1 ix C9 ∈ qw_good) (hin : Cond.instantiable C9 N ∈ qw_good) (hini : Cond.initialized C9 ∈ qw_good) (hc : qn h - ns + 1 ≤ R.cells ∧ qz h - zs + N ≤ R.slots) (hmx : qn h + 1 ≤ 1000000) (kk : ∀ h1, h1 = qnew h ci 0 N → qcx h h1 1 N → qOK h1 ci (qn h) → Ex G R M ns zs Zf (pc + 3) lv (.ref (qn h) :: st) h1) : Ex G R M ns zs Zf pc lv st h :=
  x_new hd hcf ty hty hdf hcl hin hini hc hmx (kk _ rfl ⟨qEx.new _ _ _ _, rfl, rfl⟩ ⟨Nat.lt_succ_self _, if_pos rfl⟩)
theorem y_newa {t N : Nat} {at9 : ArrayType} {ty : FieldType} {t0 : Nat} {n : Int32} (hd : decode M.2.1 pc = .ok (.newarray at9, 2)) (hty : newarray.typeOf at9 = ty) (ht : (t = 13 ∧ ty = .byte ∧ t0 = 0) ∨ (t = 14 ∧ ty = .int ∧ t0 = 1) ∨ (t = 15 ∧ ty = .long ∧ t0 = 2) ∨ (t = 16 ∧ ty = .boolean ∧ t0 = 3)) (hw : Cond.arrayClass ty ∈ qw_good) (hn0 : ¬ n < 0) (hN : n.toNatClampNeg = N) (hb : N ≤ 10000) (hc : qn h - ns + 1 ≤ R.cells ∧ qz h - zs + N ≤ R.slots) (hmx : qn h + 1 ≤ 1000000) (kk : ∀ h1, h1 = qnew h t N N → qcx h h1 1 N → qOK h1 t (qn h) → Ex G R M ns zs Zf (pc + 2) lv (.ref (qn h) :: st) h1) : Ex G R M ns zs Zf pc lv (.int n :: st) h :=
  x_newa (t0 := t0) hd hty ht hw hn0 hN hb hc hmx (kk _ rfl ⟨qEx.new _ _ _ _, rfl, rfl⟩ ⟨Nat.lt_succ_self _, if_pos rfl⟩)
theorem y_anew {ix t N : Nat} {n : Int32} {C9 : String} (hd : decode M.2.1 pc = .ok (.anewarray ix, 3)) (ht : (t = 17 ∧ C9 = "ForeverOffice$Drawing") ∨ (t = 18 ∧ C9 = "ForeverOffice$Part")) (hcl : Cond.classLink M.1 ix C9 ∈ qw_good) (hn0 : ¬ n < 0) (hN : n.toNatClampNeg = N) (hb : N ≤ 10000) (hc : qn h - ns + 1 ≤ R.cells ∧ qz h - zs + N ≤ R.slots) (hmx : qn h + 1 ≤ 1000000) (kk : ∀ h1, h1 = qnew h t N N → qcx h h1 1 N → qOK h1 t (qn h) → Ex G R M ns zs Zf (pc + 3) lv (.ref (qn h) :: st) h1) : Ex G R M ns zs Zf pc lv (.int n :: st) h :=
  x_anew hd ht hcl hn0 hN hb hc hmx (kk _ rfl ⟨qEx.new _ _ _ _, rfl, rfl⟩ ⟨Nat.lt_succ_self _, if_pos rfl⟩)
end
theorem Mt.ofF {G : GT} {d mc ms : Nat} {M : MI} {As : List Value} {h : PH} {Q : Option Value → PH → Prop} (hy : plainFor M.2.2.2.2 = true) (ho : M.1 = M.2.2.2.2.cls) (hlen : (lg_sl As).length ≤ M.2.2.1) (k : Ex G (qrm d mc ms) M (qn h) (qz h) (ZN G h mc ms Q) 0 (lv_args 0 As) [] h) : Mt G d mc ms M As h Q := by
  unfold Mt Met
  refine MetFree.of_bodySF (code := M.2.1) (maxLocals := M.2.2.1) (ret := M.2.2.2.1) hy ?_ ?_
  · intro args s m h hn
    obtain ⟨meth, c, h1, h2, h3, h4, h5, h6, -, -⟩ := Cond.code_spec hn (atoms_spec (ws := Cond.code M.2.2.2.2 M.2.1 M.2.2.1 M.2.2.2.1 :: qw_good) h _ List.mem_cons_self)
    exact ⟨meth, c, h1, h2, h3, h4, h5, h6⟩
  · intro p e s m args below meth c s₁ B hml hv _
    have hh0 : s₁.heap = s.heap := by rw [B.state]; rfl
    obtain ⟨rfl, hr, hV, hsz⟩ := hv
    have hts := atoms_spec (ws := Cond.code M.2.2.2.2 M.2.1 M.2.2.1 M.2.2.2.1 :: qw_good) B.pre
    have hown : s.vm.findClass M.1 = some m.cls := by rw [ho]; exact findClass_of_methodNamed B.named
    have hl := lv_entry (As.map (qtv G)) (n := M.2.2.1) (by rw [lg_sl_len]; exact hlen)
    rw [lv_args_map] at hl
    have k2 := k p e s m _ below meth c s.heap [] _ ⟨B.exec, B.bytes, hml, B.returns, B.notSynchronized, hown, fun w hw => hts w (List.mem_cons_of_mem _ hw), hV, hsz, (name_of_methodNamed B.named B.method).1⟩ (Nat.le_refl _) (Nat.le_refl _) hr va_S.rf hl
    rw [Nat.sub_self, Nat.sub_self] at k2
    obtain ⟨t, a1, o, b1, b2, b3⟩ := k2 s₁ hh0 (Stand.of_body B)
    rw [lg_entry_eq]
    exact ⟨t, o, a1, b1, b2, ⟨b3.1, b3.2⟩⟩

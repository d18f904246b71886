/-! ===== null tests, references compared, switches, the enum's constants, new cells ===== -/
section
variable {G : GT} {R : Room} {M : MI} {ns zs : Nat} {Zf : List Frame → Array Value → State → State → Prop} {pc : Nat} {lv : List (Nat × Value)} {st : List Value} {h : PH}
theorem x_ifnull {o : Option Nat} {off : Int} {tgt : Nat} (hd : decode M.2.1 pc = .ok (.ifnull off, 3)) (ht : (pc : Int) + off = (tgt : Int)) (kt : o = none → Ex G R M ns zs Zf tgt lv st h) (kf : ∀ b, o = some b → Ex G R M ns zs Zf (pc + 3) lv st h) : Ex G R M ns zs Zf pc lv (va_rf o :: st) h := by
  intro p e s m args below meth c H locs ls C hn hz r hS hl
  cases o with
  | none => exact lv_ifnullN C.1 C.2.1 hd ht (kt rfl p e s m args below meth c H locs ls C hn hz r hS hl)
  | some b => exact lv_ifnull C.1 C.2.1 hd (kf b rfl p e s m args below meth c H locs ls C hn hz r hS hl)
theorem x_ifnonnull {o : Option Nat} {off : Int} {tgt : Nat} (hd : decode M.2.1 pc = .ok (.ifnonnull off, 3)) (ht : (pc : Int) + off = (tgt : Int)) (kt : ∀ b, o = some b → Ex G R M ns zs Zf tgt lv st h) (kf : o = none → Ex G R M ns zs Zf (pc + 3) lv st h) : Ex G R M ns zs Zf pc lv (va_rf o :: st) h := by
  intro p e s m args below meth c H locs ls C hn hz r hS hl
  cases o with
  | none => exact lv_ifnonnullN C.1 C.2.1 hd (kf rfl p e s m args below meth c H locs ls C hn hz r hS hl)
  | some b => exact lv_ifnonnull C.1 C.2.1 hd ht (kt b rfl p e s m args below meth c H locs ls C hn hz r hS hl)
/-- the id of constant k -/
def wd (k : Nat) : Nat := 1000000 + k
theorem qtr_wd (k : Nat) : qtr G (wd k) = qad G k := by
  unfold qtr wd
  rw [if_neg (by omega), Nat.add_sub_cancel_left]
theorem x_acmp_ne {o : Option Nat} {k : Nat} {off : Int} {tgt : Nat} (hd : decode M.2.1 pc = .ok (.if_acmp .ne off, 3)) (ht : (pc : Int) + off = (tgt : Int)) (hk : k < 34) (hx : ∀ b, o = some b → ∃ i, i < 34 ∧ b = wd i) (kt : ¬ o = some (wd k) → Ex G R M ns zs Zf tgt lv st h) (kf : o = some (wd k) → Ex G R M ns zs Zf (pc + 3) lv st h) : Ex G R M ns zs Zf pc lv (.ref (wd k) :: va_rf o :: st) h := by
  intro p e s m args below meth c H locs ls C hn hz r hS hl
  have hE := C.v.2.2.1
  have hi : o.map (qtr G) = some (qtr G (wd k)) ↔ o = some (wd k) := by
    refine ⟨fun e1 => ?_, fun e1 => by rw [e1]; rfl⟩
    cases o with
    | none => cases e1
    | some b =>
      obtain ⟨i, hi, rfl⟩ := hx b rfl
      have e2 : qtr G (wd i) = qtr G (wd k) := Option.some.inj e1
      rw [qtr_wd, qtr_wd] at e2
      rw [hE.2 i k hi hk e2]
  have e3 : (List.map (qtv G) (.ref (wd k) :: va_rf o :: st)) = va_rf (some (qtr G (wd k))) :: va_rf (o.map (qtr G)) :: st.map (qtv G) := by
    rw [List.map_cons, List.map_cons, qtv_rf]; rfl
  rw [e3]
  exact lv_acmp_ne C.1 C.2.1 hd ht (fun q => kt (fun w => q (hi.mpr w)) p e s m args below meth c H locs ls C hn hz r hS hl) (fun q => kf (hi.mp q) p e s m args below meth c H locs ls C hn hz r hS hl)
theorem x_tabIn {dflt lo hi : Int} {offs : Array Int} {len : Nat} {x : Int32} {off : Int} {tgt : Nat} (hd : decode M.2.1 pc = .ok (.tableswitch dflt lo hi offs, len)) (h1 : ¬ x.toInt < lo) (h2 : ¬ hi < x.toInt) (ho : offs[(x.toInt - lo).toNat]? = some off) (ht : (pc : Int) + off = (tgt : Int)) (kk : Ex G R M ns zs Zf tgt lv st h) : Ex G R M ns zs Zf pc lv (.int x :: st) h := by
  intro p e s m args below meth c H locs ls C hn hz r hS hl
  exact lv_tableIn C.1 C.2.1 hd h1 h2 ho ht (kk p e s m args below meth c H locs ls C hn hz r hS hl)
theorem x_tabOut {dflt lo hi : Int} {offs : Array Int} {len : Nat} {x : Int32} {tgt : Nat} (hd : decode M.2.1 pc = .ok (.tableswitch dflt lo hi offs, len)) (h1 : x.toInt < lo ∨ hi < x.toInt) (ht : (pc : Int) + dflt = (tgt : Int)) (kk : Ex G R M ns zs Zf tgt lv st h) : Ex G R M ns zs Zf pc lv (.int x :: st) h := by
  intro p e s m args below meth c H locs ls C hn hz r hS hl
  exact lv_tableOut C.1 C.2.1 hd h1 ht (kk p e s m args below meth c H locs ls C hn hz r hS hl)
theorem x_lookup {dflt : Int} {ps : Array (Int × Int)} {len : Nat} {x : Int32} {off : Int} {tgt : Nat} (hd : decode M.2.1 pc = .ok (.lookupswitch dflt ps, len)) (hp : (ps.toList.zip (ps.toList.drop 1)).all (fun (a, next) => a.1 < next.1) = true) (ho : Op.lookupswitch.offset ps.toList dflt x.toInt = off) (ht : (pc : Int) + off = (tgt : Int)) (kk : Ex G R M ns zs Zf tgt lv st h) : Ex G R M ns zs Zf pc lv (.int x :: st) h := by
  intro p e s m args below meth c H locs ls C hn hz r hS hl
  exact lv_lookup C.1 C.2.1 hd hp ho ht (kk p e s m args below meth c H locs ls C hn hz r hS hl)
theorem q_tne {x c : Int32} {n : Int} (h : ¬ x = c) (hc : c.toInt = n) : x.toInt ≠ n := fun e => h (Int32.toInt_inj.mp (e.trans hc.symm))
theorem q_teq {x c : Int32} {n : Int} (h : x = c) (hc : c.toInt = n) : x.toInt = n := by rw [h]; exact hc
theorem x_gets {k ix : Nat} (hd : decode M.2.1 pc = .ok (.getstatic ix, 3)) (hk : k < 34) (hw : Cond.fieldLink M.1 ix "ForeverOffice$Word" (qwn.getD k "") "LForeverOffice$Word;" ∈ qw_good) (kk : Ex G R M ns zs Zf (pc + 3) lv (.ref (wd k) :: st) h) : Ex G R M ns zs Zf pc lv st h := by
  intro p e s m args below meth c H locs ls C hn hz r hS hl
  have k2 := kk p e s m args below meth c H locs ls C hn hz r hS hl
  rw [show List.map (qtv G) (.ref (wd k) :: st) = .ref (qad G k) :: st.map (qtv G) by rw [List.map_cons, show qtv G (.ref (wd k)) = .ref (qtr G (wd k)) from rfl, qtr_wd]] at k2
  exact va_gets C.1 C.2.1 (C.v.2.2.1.1 k hk).1 hS C.own (C.hts _ hw) (fun _ h9 => h9) hd k2
theorem x_known {ix : Nat} (hd : decode M.2.1 pc = .ok (.getstatic ix, 3)) (hw : ∃ host, Cond.fieldLinkNest M.1 ix "ForeverOffice$Word" "KNOWN" "[LForeverOffice$Word;" host ∈ qw_nest) (kk : Ex G R M ns zs Zf (pc + 3) lv (.ref (wd 34) :: st) h) : Ex G R M ns zs Zf pc lv st h := by
  intro p e s m args below meth c H locs ls C hn hz r hS hl
  have k2 := kk p e s m args below meth c H locs ls C hn hz r hS hl
  rw [show List.map (qtv G) (.ref (wd 34) :: st) = .ref (qad G 34) :: st.map (qtv G) by rw [List.map_cons, show qtv G (.ref (wd 34)) = .ref (qtr G (wd 34)) from rfl, qtr_wd]] at k2
  obtain ⟨host, hw⟩ := hw
  exact va_getsN C.1 C.2.1 C.v.2.2.2.1 hS C.own (va_Nw.use rfl (C.v.2.1 _ hw)) (fun _ h9 => h9) hd k2
theorem x_knlen (hd : decode M.2.1 pc = .ok (.arraylength, 1)) (kk : Ex G R M ns zs Zf (pc + 1) lv (.int 34 :: st) h) : Ex G R M ns zs Zf pc lv (.ref (wd 34) :: st) h := by
  intro p e s m args below meth c H locs ls C hn hz r hS hl
  have k2 := kk p e s m args below meth c H locs ls C hn hz r hS hl
  rw [show List.map (qtv G) (.ref (wd 34) :: st) = .ref (qad G 34) :: st.map (qtv G) by rw [List.map_cons, show qtv G (.ref (wd 34)) = .ref (qtr G (wd 34)) from rfl, qtr_wd]]
  exact va_tlen C.1 C.2.1 C.v.2.2.2.2.1 hS rfl hd k2
theorem x_knld {i : Int32} (hd : decode M.2.1 pc = .ok (.aaload, 1)) (hi : vp_in i 34) (kk : Ex G R M ns zs Zf (pc + 1) lv (.ref (wd i.toNatClampNeg) :: st) h) : Ex G R M ns zs Zf pc lv (.int i :: .ref (wd 34) :: st) h := by
  intro p e s m args below meth c H locs ls C hn hz r hS hl
  have k2 := kk p e s m args below meth c H locs ls C hn hz r hS hl
  rw [show List.map (qtv G) (.ref (wd i.toNatClampNeg) :: st) = .ref (qad G i.toNatClampNeg) :: st.map (qtv G) by rw [List.map_cons, show qtv G (.ref (wd i.toNatClampNeg)) = .ref (qtr G (wd i.toNatClampNeg)) from rfl, qtr_wd]] at k2
  rw [show List.map (qtv G) (.int i :: .ref (wd 34) :: st) = .int i :: .ref (qad G 34) :: st.map (qtv G) by rw [List.map_cons, List.map_cons, show qtv G (.ref (wd 34)) = .ref (qtr G (wd 34)) from rfl, qtr_wd]; rfl]
  exact vb_tq C.1 C.2.1 C.v.2.2.2.2.1 hS hi rfl hd k2
theorem x_wget {i ix : Nat} {q : String × String × String × List Int32} (hd : decode M.2.1 pc = .ok (.getfield ix, 3)) (hi : i < 34) (hq : q ∈ qwF) (hw : Cond.fieldLink M.1 ix q.1 q.2.1 q.2.2.1 ∈ qw_good ∨ ∃ host, Cond.fieldLinkNest M.1 ix q.1 q.2.1 q.2.2.1 host ∈ qw_nest) (kk : Ex G R M ns zs Zf (pc + 3) lv (.int (q.2.2.2.getD i 0) :: st) h) : Ex G R M ns zs Zf pc lv (.ref (wd i) :: st) h := by
  intro p e s m args below meth c H locs ls C hn hz r hS hl
  have k2 := kk p e s m args below meth c H locs ls C hn hz r hS hl
  rw [show List.map (qtv G) (.ref (wd i) :: st) = .ref (qad G i) :: st.map (qtv G) by rw [List.map_cons, show qtv G (.ref (wd i)) = .ref (qtr G (wd i)) from rfl, qtr_wd]]
  rcases hw with hw | ⟨host, hw⟩
  · exact va_getE C.1 C.2.1 C.v.2.2.1 hi hS C.own hq (C.hts _ hw) (fun _ h9 => h9) hd k2
  · obtain ⟨cf, k, fi, f, cell, h1, h2, h3, h4, h5, h6⟩ := ((C.v.2.2.1.1 i hi).2.2 q hq).kept hS.2.1
    exact va_Wgetf C.1 C.2.1 C.own (va_Nw.use rfl (C.v.2.1 _ hw)) h1 h2 h3 h4 (v := .int (q.2.2.2.getD i 0)) h5 rfl rfl hd k2
/-! new cells -/
theorem qce_new {ci len sz b : Nat} (hb : b < qn h) : qce G (qnew h ci len sz) b = qce G h b := by
  have hne : b ≠ h.1 := Nat.ne_of_lt hb
  have hK : qK (qnew h ci len sz) b = qK h b := if_neg hne
  have hL : qL (qnew h ci len sz) b = qL h b := if_neg hne
  have hI : qI (qnew h ci len sz) b = qI h b := by funext j; exact if_neg hne
  have hJ : qJ (qnew h ci len sz) b = qJ h b := by funext j; exact if_neg hne
  have hR : qR (qnew h ci len sz) b = qR h b := by funext j; exact if_neg hne
  have hv : qfv G (qnew h ci len sz) b = qfv G h b := by
    funext j c
    unfold qfv
    rw [hI, hJ, hR]
  unfold qce
  rw [hK, hL, hI, hJ, hR, hv]
/-- where a new cell is: at the end -/
theorem qnewAt {p : Program} {e : Env} {s : State} {m : MethodId} {args : Array Value} {below : List Frame} {meth : Method} {c : Code} {H1 : Heap} {locs : List Loc} {z q : Nat} {ent : va_E} {Q : State → Prop} {g : JFrame} (C : Cx G M ns p s m args meth c) (hn : ns ≤ qn h) (hP : va_P (qD G) qcl (qws G h ++ [(q, ent)]) H1) (hD : va_D (qA G) (qws G h ++ [(q, ent)]))
    (k : q = qB G + qn h → W p G.1 e R s m args below meth c H1 locs (qn h - ns + 1) z Q g) : W p G.1 e R s m args below meth c H1 locs (qn h - ns + 1) z Q g := by
  intro T hT X
  have h1 := X.heapSize
  have h0 := C.hsz
  have hlast : (qws G h ++ [(q, ent)])[qn h]? = some (q, ent) := by
    rw [List.getElem?_append_right (by rw [qws_len]; exact Nat.le_refl _), qws_len, Nat.sub_self]; rfl
  have h2 : q < H1.size := (hP _ _ hlast).lt
  have h3 : qB G ≤ q := hD.2 _ _ hlast
  have h4 : ∀ i, i < qn h → q ≠ qB G + i := fun i hi e => by
    have := hD.1 (qn h) i (q, ent) (qB G + i, qce G h i) hlast (by rw [List.getElem?_append_left (by rw [qws_len]; exact hi)]; exact qws_at hi) e
    omega
  rw [hT] at h1
  have h5 : ¬ q < qB G + qn h := fun hq => h4 (q - qB G) (by omega) (by omega)
  exact k (by omega) T hT X
/-- the fields of a new object -/
def qdf (c : Nat) : Value := if c < 2 then .int 0 else if c = 2 then .long 0 else .null
theorem x_new {ix ci N : Nat} {C9 : String} {T : u_T} (hd : decode M.2.1 pc = .ok (.new ix, 3)) (hcf : qcf ci C9 T N) (ty : Nat → FieldType) (hty : ∀ k, k < N → parseFieldDescriptor (T k).2.2.1 = some (ty k)) (hdf : ∀ j, j < N → defaultValue (ty j) = vp_V ((qft ci).map qdf) j) (hcl : Cond.classLink M.1 ix C9 ∈ qw_good) (hin : Cond.instantiable C9 N ∈ qw_good) (hini : Cond.initialized C9 ∈ qw_good) (hc : qn h - ns + 1 ≤ R.cells ∧ qz h - zs + N ≤ R.slots) (hmx : qn h + 1 ≤ 1000000) (kk : Ex G R M ns zs Zf (pc + 3) lv (.ref (qn h) :: st) (qnew h ci 0 N)) : Ex G R M ns zs Zf pc lv st h := by
  intro p e s m args below meth c H locs ls C hn hz r hS hl
  refine va_new (fs := (qft ci).map qdf) C.1 C.2.1 C.hts hcf.2.1 ty hty C.own (C.hts _ hcl) (C.hts _ hin) (C.hts _ hini) C.hK r.1 (qws_D G h) hS C.hA hcf.1 hdf hc.1 hc.2 hd (fun q H1 hP hD hS1 => ?_)
  refine qnewAt C hn hP hD (fun eq => ?_)
  subst eq
  have hKn : qK (qnew h ci 0 N) (qn h) = ci := if_pos rfl
  have hce : qce G (qnew h ci 0 N) (qn h) = .inr (ci, (qft ci).map qdf) := by
    rw [qce_obj (by rw [hKn]; exact hcf.2.2.2.2), hKn]
    have hv : ∀ j c, qfv G (qnew h ci 0 N) (qn h) j c = qdf c := by
      intro j c
      unfold qfv qdf
      rw [show qI (qnew h ci 0 N) (qn h) j = 0 from if_pos rfl, show qJ (qnew h ci 0 N) (qn h) j = 0 from if_pos rfl, show qR (qnew h ci 0 N) (qn h) j = none from if_pos rfl]
      rfl
    have : (qft ci).mapIdx (qfv G (qnew h ci 0 N) (qn h)) = (qft ci).map qdf := by
      apply List.ext_getElem?
      intro j
      rw [List.getElem?_mapIdx, List.getElem?_map]
      cases (qft ci)[j]? with
      | none => rfl
      | some c => simp [hv]
    rw [this]
  rw [qws_new (h1 := qnew h ci 0 N) rfl hce (fun b hb => qce_new hb)] at hP
  have k2 := kk p e s m args below meth c H1 locs ls C (by show ns ≤ qn h + 1; omega) (by show zs ≤ qz h + N; omega) ⟨hP, r.2.1.new ci 0 N, hmx⟩ hS1 hl
  rw [show qn (qnew h ci 0 N) - ns = qn h - ns + 1 by show qn h + 1 - ns = _; omega, show qz (qnew h ci 0 N) - zs = qz h - zs + N by show qz h + N - zs = _; omega] at k2
  have e9 : qtr G (qn h) = qB G + qn h := qtr_lo (by omega)
  rw [show List.map (qtv G) (.ref (qn h) :: st) = .ref (qB G + qn h) :: st.map (qtv G) by rw [List.map_cons, show qtv G (.ref (qn h)) = .ref (qtr G (qn h)) from rfl, e9]] at k2
  exact k2
theorem x_newa {t N : Nat} {at9 : ArrayType} {ty : FieldType} {t0 : Nat} {n : Int32} (hd : decode M.2.1 pc = .ok (.newarray at9, 2)) (hty : newarray.typeOf at9 = ty) (ht : (t = 13 ∧ ty = .byte ∧ t0 = 0) ∨ (t = 14 ∧ ty = .int ∧ t0 = 1) ∨ (t = 15 ∧ ty = .long ∧ t0 = 2) ∨ (t = 16 ∧ ty = .boolean ∧ t0 = 3)) (hw : Cond.arrayClass ty ∈ qw_good) (hn0 : ¬ n < 0) (hN : n.toNatClampNeg = N) (hb : N ≤ 10000) (hc : qn h - ns + 1 ≤ R.cells ∧ qz h - zs + N ≤ R.slots) (hmx : qn h + 1 ≤ 1000000) (kk : Ex G R M ns zs Zf (pc + 2) lv (.ref (qn h) :: st) (qnew h t N N)) : Ex G R M ns zs Zf pc lv (.int n :: st) h := by
  intro p e s m args below meth c H locs ls C hn hz r hS hl
  subst hty
  have hKn : qK (qnew h t N N) (qn h) = t := if_pos rfl
  have hLn : qL (qnew h t N N) (qn h) = N := if_pos rfl
  have fin9 : ∀ (q : Nat) (H1 : Heap) (a0 : vp_A), va_P (qD G) qcl (qws G h ++ [(q, .inl (qcy G t, a0))]) H1 → va_D (qA G) (qws G h ++ [(q, .inl (qcy G t, a0))]) → va_S (qA G) s.heap H1 locs → qce G (qnew h t N N) (qn h) = .inl (qcy G t, a0) → W p G.1 e R s m args below meth c H1 locs (qn h - ns + 1) (qz h - zs + N) (Zf below args s) (F0 m (pc + 2) ls (.ref q :: st.map (qtv G))) := by
    intro q H1 a0 hP hD hS1 hce
    refine qnewAt C hn hP hD (fun eq => ?_)
    subst eq
    rw [qws_new (h1 := qnew h t N N) rfl hce (fun b hb => qce_new hb)] at hP
    have k2 := kk p e s m args below meth c H1 locs ls C (by show ns ≤ qn h + 1; omega) (by show zs ≤ qz h + N; omega) ⟨hP, r.2.1.new t N N, hmx⟩ hS1 hl
    rw [show qn (qnew h t N N) - ns = qn h - ns + 1 by show qn h + 1 - ns = _; omega, show qz (qnew h t N N) - zs = qz h - zs + N by show qz h + N - zs = _; omega] at k2
    have e9 : qtr G (qn h) = qB G + qn h := qtr_lo (by omega)
    rw [show List.map (qtv G) (.ref (qn h) :: st) = .ref (qB G + qn h) :: st.map (qtv G) by rw [List.map_cons, show qtv G (.ref (qn h)) = .ref (qtr G (qn h)) from rfl, e9]] at k2
    exact k2
  have hcA : ∀ cA : ClassId, va_K (qD G) qcl (qtys G ++ [(cA, newarray.typeOf at9)]) s → cA = qcy G t := by
    intro cA hK2
    have a1 := (hK2.2 6 (cA, newarray.typeOf at9) rfl).2
    rcases ht with ⟨rfl, e1, -⟩ | ⟨rfl, e1, -⟩ | ⟨rfl, e1, -⟩ | ⟨rfl, e1, -⟩ <;> rw [e1] at a1
    · exact Option.some.inj (Eq.trans (Eq.symm a1) (C.hK.2 0 (qcy G 13, .byte) rfl).2)
    · exact Option.some.inj (Eq.trans (Eq.symm a1) (C.hK.2 1 (qcy G 14, .int) rfl).2)
    · exact Option.some.inj (Eq.trans (Eq.symm a1) (C.hK.2 2 (qcy G 15, .long) rfl).2)
    · exact Option.some.inj (Eq.trans (Eq.symm a1) (C.hK.2 3 (qcy G 16, .boolean) rfl).2)
  have hIn : qI (qnew h t N N) (qn h) = fun _ => 0 := by funext j; exact if_pos rfl
  have hJn : qJ (qnew h t N N) (qn h) = fun _ => 0 := by funext j; exact if_pos rfl
  have hby : N * componentBytes (newarray.typeOf at9) ≤ 536870912 := by
    rcases ht with ⟨-, e1, -⟩ | ⟨-, e1, -⟩ | ⟨-, e1, -⟩ | ⟨-, e1, -⟩ <;> rw [e1] <;> simp only [componentBytes] <;> omega
  by_cases hJ : t = 15
  · have e1 : newarray.typeOf at9 = .long := by rcases ht with ⟨a, -⟩ | ⟨a, -⟩ | ⟨-, b, -⟩ | ⟨a, -⟩ <;> first | exact b | omega
    refine va_newa (a0 := (N, .inr (.inl (fun _ => 0)))) C.1 C.2.1 (C.hts _ hw) rfl C.hK r.1 (qws_D G h) hS C.hA (fun cA => by rw [e1]; rfl) hn0 hN hby hc.1 hc.2 hd (fun q cA H1 hK2 hP hD hS1 => ?_)
    have := hcA cA hK2
    subst this
    exact fin9 q H1 _ hP hD hS1 (by rw [qce_J (by rw [hKn]; exact hJ), hLn, hJn, hJ])
  · have e1 : newarray.typeOf at9 = .byte ∨ newarray.typeOf at9 = .int ∨ newarray.typeOf at9 = .boolean := by rcases ht with ⟨-, b, -⟩ | ⟨-, b, -⟩ | ⟨a, -⟩ | ⟨-, b, -⟩ <;> first | exact Or.inl b | exact Or.inr (Or.inl b) | exact Or.inr (Or.inr b) | exact absurd a hJ
    refine va_newa (a0 := (N, .inl (fun _ => 0))) C.1 C.2.1 (C.hts _ hw) rfl C.hK r.1 (qws_D G h) hS C.hA (fun cA => by rcases e1 with e1 | e1 | e1 <;> rw [e1] <;> rfl) hn0 hN hby hc.1 hc.2 hd (fun q cA H1 hK2 hP hD hS1 => ?_)
    have := hcA cA hK2
    subst this
    exact fin9 q H1 _ hP hD hS1 (by rw [qce_I (by rw [hKn]; omega), hLn, hIn, hKn])
theorem x_anew {ix t N : Nat} {n : Int32} {C9 : String} (hd : decode M.2.1 pc = .ok (.anewarray ix, 3)) (ht : (t = 17 ∧ C9 = "ForeverOffice$Drawing") ∨ (t = 18 ∧ C9 = "ForeverOffice$Part")) (hcl : Cond.classLink M.1 ix C9 ∈ qw_good) (hn0 : ¬ n < 0) (hN : n.toNatClampNeg = N) (hb : N ≤ 10000) (hc : qn h - ns + 1 ≤ R.cells ∧ qz h - zs + N ≤ R.slots) (hmx : qn h + 1 ≤ 1000000) (kk : Ex G R M ns zs Zf (pc + 3) lv (.ref (qn h) :: st) (qnew h t N N)) : Ex G R M ns zs Zf pc lv (.int n :: st) h := by
  intro p e s m args below meth c H locs ls C hn hz r hS hl
  have hKn : qK (qnew h t N N) (qn h) = t := if_pos rfl
  have hLn : qL (qnew h t N N) (qn h) = N := if_pos rfl
  have hRn : (fun j => (qR (qnew h t N N) (qn h) j).map (qtr G)) = fun _ => none := by funext j; rw [show qR (qnew h t N N) (qn h) j = none from if_pos rfl]; rfl
  have hov : va_AO C9 s := by rcases ht with ⟨-, rfl⟩ | ⟨-, rfl⟩; exact C.v.2.2.2.2.2.1; exact C.v.2.2.2.2.2.2
  refine va_newq C.1 C.2.1 C.own (C.hts _ hcl) hov C.hK r.1 (qws_D G h) hS C.hA hn0 hN (by omega) hc.1 hc.2 hd (fun q cA H1 hK2 hP hD hS1 => ?_)
  have hcA : cA = qcy G t := by
    obtain ⟨_, _, _, _, _, a1⟩ := (hK2.2 6 (cA, .object C9) rfl).2
    rcases ht with ⟨rfl, rfl⟩ | ⟨rfl, rfl⟩
    · obtain ⟨_, _, _, _, _, a2⟩ := (C.hK.2 4 (qcy G 17, .object "ForeverOffice$Drawing") rfl).2
      exact Option.some.inj (Eq.trans (Eq.symm a1) a2)
    · obtain ⟨_, _, _, _, _, a2⟩ := (C.hK.2 5 (qcy G 18, .object "ForeverOffice$Part") rfl).2
      exact Option.some.inj (Eq.trans (Eq.symm a1) a2)
  subst hcA
  refine qnewAt C hn hP hD (fun eq => ?_)
  subst eq
  rw [qws_new (h1 := qnew h t N N) rfl (by rw [qce_R (by rw [hKn]; omega), hLn, hRn, hKn]) (fun b hb => qce_new hb)] at hP
  have k2 := kk p e s m args below meth c H1 locs ls C (by show ns ≤ qn h + 1; omega) (by show zs ≤ qz h + N; omega) ⟨hP, r.2.1.new t N N, hmx⟩ hS1 hl
  rw [show qn (qnew h t N N) - ns = qn h - ns + 1 by show qn h + 1 - ns = _; omega, show qz (qnew h t N N) - zs = qz h - zs + N by show qz h + N - zs = _; omega] at k2
  have e9 : qtr G (qn h) = qB G + qn h := qtr_lo (by omega)
  rw [show List.map (qtv G) (.ref (qn h) :: st) = .ref (qB G + qn h) :: st.map (qtv G) by rw [List.map_cons, show qtv G (.ref (qn h)) = .ref (qtr G (qn h)) from rfl, e9]] at k2
  exact k2
theorem x_objInit {ix a : Nat} (hd : decode M.2.1 pc = .ok (.invokespecial ix, 3)) (hw : Cond.methodLink M.1 ix objectInit ∈ qw_good) (hi : Cond.instanceMethod objectInit ∈ qw_good) (hcd : Cond.code objectInit ⟨#[0xb1]⟩ 1 none ∈ qw_good) (hR : 1 ≤ R.frames ∧ 20 ≤ R.locals) (hst : (st.map fun v => v.category).sum ≤ 8) (kk : Ex G R M ns zs Zf (pc + 3) lv st h) : Ex G R M ns zs Zf pc lv (.ref a :: st) h := by
  intro p e s m args below meth c H locs ls C hn hz r hS hl
  refine W.objInit C.1 C.2.1 C.own (C.hts _ hw) (C.hts _ hi) (C.hts _ hcd) rfl (by rw [C.mlen]; exact hl.1) rfl hd hR.1 ?_ (kk p e s m args below meth c H locs ls C hn hz r hS hl)
  show 2 * 0 + ((List.map (qtv G) st).map fun v => v.category).sum + 12 ≤ R.locals
  rw [List.map_map, show ((fun v : Value => v.category) ∘ qtv G) = (fun v => v.category) from funext (qtv_cat G)]
  omega
/-! names, fewer locals, rows that name what they make -/
theorem x_nmI {x : Int32} (k : ∀ y, y = x → Ex G R M ns zs Zf pc lv (.int y :: st) h) : Ex G R M ns zs Zf pc lv (.int x :: st) h := k x rfl
theorem x_nmJ {x : Int64} (k : ∀ y, y = x → Ex G R M ns zs Zf pc lv (.long y :: st) h) : Ex G R M ns zs Zf pc lv (.long x :: st) h := k x rfl
theorem x_sub {lv2 : List (Nat × Value)} (ks : List Nat) (hs : lv_pick lv ks = lv2) (k : Ex G R M ns zs Zf pc lv2 st h) : Ex G R M ns zs Zf pc lv st h := by
  intro p e s m args below meth c H locs ls C hn hz r hS hl
  refine k p e s m args below meth c H locs ls C hn hz r hS ⟨hl.1, hl.2.1, fun q hq => hl.2.2 q ?_⟩
  rw [← hs] at hq
  obtain ⟨q2, h2, rfl⟩ := List.mem_map.mp hq
  obtain ⟨i, -, hi⟩ := List.mem_filterMap.mp h2
  exact List.mem_map.mpr ⟨q2, List.mem_of_getElem? hi, rfl⟩
theorem x_lvE {lv2 : List (Nat × Value)} (e : lv = lv2) (k : Ex G R M ns zs Zf pc lv2 st h) : Ex G R M ns zs Zf pc lv st h := by rw [e]; exact k
theorem y_iinc {i : Nat} {n : Int} {x c : Int32} (hd : decode M.2.1 pc = .ok (.iinc i n, 3)) (hm : qlk lv i = some (.int x)) (hc : Int32.ofInt n = c) (hi : i < M.2.2.1) (k : ∀ v, v = x + c → Ex G R M ns zs Zf (pc + 3) (qput lv i (.int v)) st h) : Ex G R M ns zs Zf pc lv st h := x_iinc hd hm (by rw [hc]) hi rfl (k (x + c) rfl)
abbrev qnx (h h1 : PH) : Prop := qEx h h1 ∧ qn h1 = qn h ∧ qz h1 = qz h
theorem y_putI {ix ci k a : Nat} {v : Int32} (hd : decode M.2.1 pc = .ok (.putfield ix, 3)) (hl : qfL M.1 ix ci k 0 false) (ok : qOK h ci a) (kk : ∀ h1, h1 = qsI h a k v → qnx h h1 → Ex G R M ns zs Zf (pc + 3) lv st h1) : Ex G R M ns zs Zf pc lv (.int v :: .ref a :: st) h := x_putI hd hl ok (kk _ rfl ⟨qEx.sI _ _ _ _, rfl, rfl⟩)
theorem y_putZ {ix ci k a : Nat} {v : Int32} (hd : decode M.2.1 pc = .ok (.putfield ix, 3)) (hl : qfL M.1 ix ci k 1 false) (ok : qOK h ci a) (hv : v = 0 ∨ v = 1) (kk : ∀ h1, h1 = qsI h a k v → qnx h h1 → Ex G R M ns zs Zf (pc + 3) lv st h1) : Ex G R M ns zs Zf pc lv (.int v :: .ref a :: st) h := x_putZ hd hl ok hv (kk _ rfl ⟨qEx.sI _ _ _ _, rfl, rfl⟩)
theorem y_putJ {ix ci k a : Nat} {v : Int64} (hd : decode M.2.1 pc = .ok (.putfield ix, 3)) (hl : qfL M.1 ix ci k 2 false) (ok : qOK h ci a) (kk : ∀ h1, h1 = qsJ h a k v → qnx h h1 → Ex G R M ns zs Zf (pc + 3) lv st h1) : Ex G R M ns zs Zf pc lv (.long v :: .ref a :: st) h := x_putJ hd hl ok (kk _ rfl ⟨qEx.sJ _ _ _ _, rfl, rfl⟩)
theorem y_putR {ix ci k t a b : Nat} (hd : decode M.2.1 pc = .ok (.putfield ix, 3)) (hl : qfL M.1 ix ci k (10 + t) false) (ok : qOK h ci a) (okb : qOK h t b) (kk : ∀ h1, h1 = qsR h a k (some b) → qnx h h1 → Ex G R M ns zs Zf (pc + 3) lv st h1) : Ex G R M ns zs Zf pc lv (.ref b :: .ref a :: st) h := x_putR hd hl ok okb (kk _ rfl ⟨qEx.sR _ _ _ _, rfl, rfl⟩)
theorem y_putF {ix ci k t a b : Nat} (hnm : M.2.2.2.2.name = "<init>") (hd : decode M.2.1 pc = .ok (.putfield ix, 3)) (hl : qfF M.1 ix ci k (10 + t)) (ok : qOK h ci a) (okb : qOK h t b) (kk : ∀ h1, h1 = qsR h a k (some b) → qnx h h1 → Ex G R M ns zs Zf (pc + 3) lv st h1) : Ex G R M ns zs Zf pc lv (.ref b :: .ref a :: st) h := x_putF hnm hd hl ok okb (kk _ rfl ⟨qEx.sR _ _ _ _, rfl, rfl⟩)
theorem y_iastore {a : Nat} {i x : Int32} (hd : decode M.2.1 pc = .ok (.iastore, 1)) (ok : qOK h 14 a) (hi : vp_in i (qL h a)) (kk : ∀ h1, h1 = qsI h a i.toNatClampNeg x → qnx h h1 → Ex G R M ns zs Zf (pc + 1) lv st h1) : Ex G R M ns zs Zf pc lv (.int x :: .int i :: .ref a :: st) h := x_iastore hd ok hi (kk _ rfl ⟨qEx.sI _ _ _ _, rfl, rfl⟩)
theorem y_bastore {a : Nat} {i x : Int32} (hd : decode M.2.1 pc = .ok (.bastore, 1)) (ok : qOK h 13 a) (hi : vp_in i (qL h a)) (kk : ∀ h1, h1 = qsI h a i.toNatClampNeg (vp_nar .byte x) → qnx h h1 → Ex G R M ns zs Zf (pc + 1) lv st h1) : Ex G R M ns zs Zf pc lv (.int x :: .int i :: .ref a :: st) h := x_bastore hd ok hi (kk _ rfl ⟨qEx.sI _ _ _ _, rfl, rfl⟩)
theorem y_zastore {a : Nat} {i x : Int32} (hd : decode M.2.1 pc = .ok (.bastore, 1)) (ok : qOK h 16 a) (hi : vp_in i (qL h a)) (kk : ∀ h1, h1 = qsI h a i.toNatClampNeg (vp_nar .boolean x) → qnx h h1 → Ex G R M ns zs Zf (pc + 1) lv st h1) : Ex G R M ns zs Zf pc lv (.int x :: .int i :: .ref a :: st) h := x_zastore hd ok hi (kk _ rfl ⟨qEx.sI _ _ _ _, rfl, rfl⟩)
theorem y_lastore {a : Nat} {i : Int32} {x : Int64} (hd : decode M.2.1 pc = .ok (.lastore, 1)) (ok : qOK h 15 a) (hi : vp_in i (qL h a)) (kk : ∀ h1, h1 = qsJ h a i.toNatClampNeg x → qnx h h1 → Ex G R M ns zs Zf (pc + 1) lv st h1) : Ex G R M ns zs Zf pc lv (.long x :: .int i :: .ref a :: st) h := x_lastore hd ok hi (kk _ rfl ⟨qEx.sJ _ _ _ _, rfl, rfl⟩)
theorem y_aastore {a b t : Nat} {i : Int32} (hd : decode M.2.1 pc = .ok (.aastore, 1)) (ok : qOK h t a) (ht : t = 17 ∨ t = 18) (okb : qOK h (if t = 17 then 1 else 4) b) (hi : vp_in i (qL h a)) (kk : ∀ h1, h1 = qsR h a i.toNatClampNeg (some b) → qnx h h1 → Ex G R M ns zs Zf (pc + 1) lv st h1) : Ex G R M ns zs Zf pc lv (.ref b :: .int i :: .ref a :: st) h := x_aastore hd ok ht okb hi (kk _ rfl ⟨qEx.sR _ _ _ _, rfl, rfl⟩)
end
/-! answers by their types -/
def qqi (Q : Int32 → PH → Prop) : Option Value → PH → Prop := fun rv h => ∃ x, rv = some (.int x) ∧ Q x h
def qqb (Q : Int32 → PH → Prop) : Option Value → PH → Prop := fun rv h => ∃ x, rv = some (.int x) ∧ (x = 0 ∨ x = 1) ∧ Q x h
def qqj (Q : Int64 → PH → Prop) : Option Value → PH → Prop := fun rv h => ∃ x, rv = some (.long x) ∧ Q x h
def qqv (Q : PH → Prop) : Option Value → PH → Prop := fun rv h => rv = none ∧ Q h
def qqr (Q : Option Nat → PH → Prop) : Option Value → PH → Prop := fun rv h => ∃ x, rv = some (va_rf x) ∧ Q x h
section
variable {G : GT} {R : Room} {M : MI} {ns zs : Nat} {Zf : List Frame → Array Value → State → State → Prop} {pc : Nat} {lv : List (Nat × Value)} {st : List Value} {h : PH} {mc ms : Nat}
abbrev qcx (h h1 : PH) (mc ms : Nat) : Prop := qEx h h1 ∧ qn h1 = qn h + mc ∧ qz h1 = qz h + ms
theorem k_i {Q : Int32 → PH → Prop} (k : ∀ x h1, Q x h1 → qcx h h1 mc ms → Ex G R M ns zs Zf (pc + 3) lv (.int x :: st) h1) : ∀ rv h1, qqi Q rv h1 → qEx h h1 → qn h1 = qn h + mc → qz h1 = qz h + ms → Ex G R M ns zs Zf (pc + 3) lv (rv.toList ++ st) h1 := by
  intro rv h1 hq a b c
  obtain ⟨x, rfl, hq⟩ := hq
  exact k x h1 hq ⟨a, b, c⟩
theorem k_b {Q : Int32 → PH → Prop} (k : ∀ x h1, Q x h1 → (x = 0 ∨ x = 1) → qcx h h1 mc ms → Ex G R M ns zs Zf (pc + 3) lv (.int x :: st) h1) : ∀ rv h1, qqb Q rv h1 → qEx h h1 → qn h1 = qn h + mc → qz h1 = qz h + ms → Ex G R M ns zs Zf (pc + 3) lv (rv.toList ++ st) h1 := by
  intro rv h1 hq a b c
  obtain ⟨x, rfl, hb, hq⟩ := hq
  exact k x h1 hq hb ⟨a, b, c⟩
theorem k_j {Q : Int64 → PH → Prop} (k : ∀ x h1, Q x h1 → qcx h h1 mc ms → Ex G R M ns zs Zf (pc + 3) lv (.long x :: st) h1) : ∀ rv h1, qqj Q rv h1 → qEx h h1 → qn h1 = qn h + mc → qz h1 = qz h + ms → Ex G R M ns zs Zf (pc + 3) lv (rv.toList ++ st) h1 := by
  intro rv h1 hq a b c
  obtain ⟨x, rfl, hq⟩ := hq
  exact k x h1 hq ⟨a, b, c⟩
theorem k_v {Q : PH → Prop} (k : ∀ h1, Q h1 → qcx h h1 mc ms → Ex G R M ns zs Zf (pc + 3) lv st h1) : ∀ rv h1, qqv Q rv h1 → qEx h h1 → qn h1 = qn h + mc → qz h1 = qz h + ms → Ex G R M ns zs Zf (pc + 3) lv (rv.toList ++ st) h1 := by
  intro rv h1 hq a b c
  obtain ⟨rfl, hq⟩ := hq
  exact k h1 hq ⟨a, b, c⟩
theorem k_r {Q : Option Nat → PH → Prop} (k : ∀ x h1, Q x h1 → qcx h h1 mc ms → Ex G R M ns zs Zf (pc + 3) lv (va_rf x :: st) h1) : ∀ rv h1, qqr Q rv h1 → qEx h h1 → qn h1 = qn h + mc → qz h1 = qz h + ms → Ex G R M ns zs Zf (pc + 3) lv (rv.toList ++ st) h1 := by
  intro rv h1 hq a b c
  obtain ⟨x, rfl, hq⟩ := hq
  exact k x h1 hq ⟨a, b, c⟩
end
theorem q_R {d d2 mc ms L : Nat} (h1 : d2 + 1 ≤ d) (h2 : L ≤ 21) : d2 + 1 ≤ (qrm d mc ms).frames ∧ 8 + (L + 11) + 40 * d2 ≤ (qrm d mc ms).locals := ⟨h1, by show _ ≤ 40 * d; omega⟩
theorem q_C {h h0 : PH} {d mc ms c2 s2 j z : Nat} (hn : qn h = qn h0 + j) (hz : qz h = qz h0 + z) (h1 : j + c2 ≤ mc) (h2 : z + s2 ≤ ms) : qn h - qn h0 + c2 ≤ (qrm d mc ms).cells ∧ qz h - qz h0 + s2 ≤ (qrm d mc ms).slots := ⟨by show _ ≤ mc; omega, by show _ ≤ ms; omega⟩
/-- a loop: an invariant, and a measure that falls at each way back -/
def qLoop {σ : Type} (body : (σ → Prop) → σ → Prop) (s : σ) : Prop := ∃ (I : σ → Prop) (m : σ → Nat), I s ∧ ∀ s, I s → body (fun s2 => I s2 ∧ m s2 < m s) s
theorem qLoop.use {σ : Type} {body : (σ → Prop) → σ → Prop} {E : σ → Prop} (hb : ∀ back s, (∀ s2, back s2 → E s2) → body back s → E s) {s : σ} (h : qLoop body s) : E s := by
  obtain ⟨I, m, hI, hs⟩ := h
  have key : ∀ (n : Nat) (s : σ), m s < n → I s → E s := by
    intro n
    induction n with
    | zero => intro s h; exact absurd h (Nat.not_lt_zero _)
    | succ n ih =>
      intro s hm hi
      exact hb _ s (fun s2 h2 => ih s2 (by omega) h2.1) (hs s hi)
  exact key _ s (Nat.lt_succ_self _) hI

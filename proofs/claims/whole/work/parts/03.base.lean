/-! ===== words of the tables: the good ones, and those of nest mates ===== -/
def qw_isN : Cond → Bool
  | .fieldLinkNest _ _ _ _ _ _ => true
  | .methodLinkNest _ _ _ _ => true
  | _ => false
def qw_good : List Cond := lw_tbl.filter goodWord
def qw_nest : List Cond := lw_tbl.filter qw_isN
theorem qw_g {w : Cond} (i : Nat) (h : lw_tbl[i]? = some w) (g : goodWord w = true) : w ∈ qw_good := List.mem_filter.mpr ⟨List.mem_of_getElem? h, g⟩
theorem qw_n {w : Cond} (i : Nat) (h : lw_tbl[i]? = some w) (g : qw_isN w = true) : w ∈ qw_nest := List.mem_filter.mpr ⟨List.mem_of_getElem? h, g⟩
theorem qw_gi : GoodIn qw_good qw_good := fun w h => ⟨h, good_of_word (List.mem_filter.mp h).2⟩
theorem qw_warm {w : Cond} {s U : State} (hw : w ∈ qw_nest) (hW : s.WarmedH U.vm) (h : va_Nw w s) : va_Nw w U := by
  have h1 := (List.mem_filter.mp hw).2
  cases w <;> first | exact va_Nw.warmF hW h | exact va_Nw.warmM hW h | cases h1
/-! ===== the pure heap: how many cells, how many slots, of each cell its kind, its length, its ints, longs and references ===== -/
abbrev PH : Type := Nat × Nat × (Nat → Nat) × (Nat → Nat) × (Nat → Nat → Int32) × (Nat → Nat → Int64) × (Nat → Nat → Option Nat)
def qn (h : PH) : Nat := h.1
def qz (h : PH) : Nat := h.2.1
def qK (h : PH) (a : Nat) : Nat := h.2.2.1 a
def qL (h : PH) (a : Nat) : Nat := h.2.2.2.1 a
def qI (h : PH) (a k : Nat) : Int32 := h.2.2.2.2.1 a k
def qJ (h : PH) (a k : Nat) : Int64 := h.2.2.2.2.2.1 a k
def qR (h : PH) (a k : Nat) : Option Nat := h.2.2.2.2.2.2 a k
def qsI (h : PH) (a k : Nat) (v : Int32) : PH := (h.1, h.2.1, h.2.2.1, h.2.2.2.1, fun x j => if x = a ∧ j = k then v else h.2.2.2.2.1 x j, h.2.2.2.2.2.1, h.2.2.2.2.2.2)
def qsJ (h : PH) (a k : Nat) (v : Int64) : PH := (h.1, h.2.1, h.2.2.1, h.2.2.2.1, h.2.2.2.2.1, fun x j => if x = a ∧ j = k then v else h.2.2.2.2.2.1 x j, h.2.2.2.2.2.2)
def qsR (h : PH) (a k : Nat) (v : Option Nat) : PH := (h.1, h.2.1, h.2.2.1, h.2.2.2.1, h.2.2.2.2.1, h.2.2.2.2.2.1, fun x j => if x = a ∧ j = k then v else h.2.2.2.2.2.2 x j)
/-- one cell more, of kind ci, of length len, of sz slots: all 0 and null -/
def qnew (h : PH) (ci len sz : Nat) : PH := (h.1 + 1, h.2.1 + sz, fun x => if x = h.1 then ci else h.2.2.1 x, fun x => if x = h.1 then len else h.2.2.2.1 x, fun x j => if x = h.1 then 0 else h.2.2.2.2.1 x j, fun x j => if x = h.1 then 0 else h.2.2.2.2.2.1 x j, fun x j => if x = h.1 then none else h.2.2.2.2.2.2 x j)
theorem qI_sI (h : PH) (a k : Nat) (v : Int32) (x j : Nat) : qI (qsI h a k v) x j = if x = a ∧ j = k then v else qI h x j := rfl
theorem qJ_sJ (h : PH) (a k : Nat) (v : Int64) (x j : Nat) : qJ (qsJ h a k v) x j = if x = a ∧ j = k then v else qJ h x j := rfl
theorem qR_sR (h : PH) (a k : Nat) (v : Option Nat) (x j : Nat) : qR (qsR h a k v) x j = if x = a ∧ j = k then v else qR h x j := rfl
theorem qI_sI_eq (h : PH) (a k : Nat) (v : Int32) : qI (qsI h a k v) a k = v := by rw [qI_sI, if_pos ⟨rfl, rfl⟩]
theorem qJ_sJ_eq (h : PH) (a k : Nat) (v : Int64) : qJ (qsJ h a k v) a k = v := by rw [qJ_sJ, if_pos ⟨rfl, rfl⟩]
theorem qR_sR_eq (h : PH) (a k : Nat) (v : Option Nat) : qR (qsR h a k v) a k = v := by rw [qR_sR, if_pos ⟨rfl, rfl⟩]
/-! the launch, the classes' numbers, the slots of their fields, the arrays' classes, where the enum's constants stand, the first address of the system's own -/
abbrev GT : Type := Launch × (Nat → ClassId) × (Nat → Nat → Nat) × (Nat → ClassId) × (Nat → Nat) × Nat
def qB (G : GT) : Nat := G.2.2.2.2.2
def qcy (G : GT) (k : Nat) : ClassId := G.2.2.2.1 k
def qad (G : GT) (k : Nat) : Nat := G.2.2.2.2.1 k
abbrev qD (G : GT) : va_G := (G.2.1, G.2.2.1)
/-- ids of cells: from 0 on the system's own; from 1000000 on the enum's constants, and behind them their array -/
def qtr (G : GT) (a : Nat) : Nat := if a < 1000000 then qB G + a else qad G (a - 1000000)
def qtv (G : GT) : Value → Value
  | .ref a => .ref (qtr G a)
  | v => v
def qrv (o : Option Nat) : Value := va_rf o
theorem qtr_lo {G : GT} {a : Nat} (h : a < 1000000) : qtr G a = qB G + a := if_pos h
abbrev qcl : List vw_C := vwCl ++ [("java/util/NoSuchElementException", (fun _ => ("", "", "", false)), 0)]
/-- the fields' kinds: 0 int, 1 boolean, 2 long, 10 + k a reference to kind k -/

def qft : Nat → List Nat
  | 0 => [24, 24, 24, 26, 0, 0, 0]
  | 1 => [28, 0, 0, 0]
  | 2 => [24, 24, 24, 0, 1, 0, 2, 25, 0, 0]
  | 3 => [24, 24, 0]
  | 4 => [0, 0, 0, 0, 0, 0, 0, 1, 0, 0]
  | 5 => [1, 0, 0, 0, 0, 0, 1]
  | 6 => [23, 0]
  | 7 => [24, 24, 24, 0, 0, 1, 0]
  | 8 => [24, 24, 24, 24, 24, 0, 0]
  | 9 => [24, 24, 0]
  | 10 => [16, 17, 18, 19, 15, 15, 12, 27, 24, 24, 11, 11, 10, 10, 13, 13, 0, 0]
  | 11 => [0, 24, 0, 0, 0, 0, 0, 0, 0, 0, 0, 0, 2, 0, 24, 24, 24, 24, 25, 26, 1, 24, 24, 0, 0, 0, 0, 0, 1, 0, 0, 0, 0, 1, 1, 24, 0, 24, 24, 24, 24, 0, 0, 0, 0, 0, 0, 0, 24, 24, 24, 0, 0, 2, 1, 25, 0, 24, 1, 24, 24, 0]
  | _ => []

def qfv (G : GT) (h : PH) (a k c : Nat) : Value := if c < 2 then .int (qI h a k) else if c = 2 then .long (qJ h a k) else va_rf ((qR h a k).map (qtr G))
/-- cell a: kinds 0 to 12 objects; 13 bytes, 14 ints, 15 longs, 16 booleans, 17 drawings, 18 parts -/
def qce (G : GT) (h : PH) (a : Nat) : va_E :=
  if qK h a < 13 then .inr (qK h a, (qft (qK h a)).mapIdx (qfv G h a))
  else if qK h a = 15 then .inl (qcy G 15, qL h a, .inr (.inl (qJ h a)))
  else if qK h a < 17 then .inl (qcy G (qK h a), qL h a, .inl (qI h a))
  else .inl (qcy G (qK h a), qL h a, .inr (.inr (.inr (.inr (fun j => (qR h a j).map (qtr G))))))
def qws (G : GT) (h : PH) : va_W := (List.range (qn h)).map (fun i => (qB G + i, qce G h i))
abbrev qA (G : GT) : Nat → Prop := fun q => qB G ≤ q
theorem qws_at {G : GT} {h : PH} {a : Nat} (ha : a < qn h) : (qws G h)[a]? = some (qB G + a, qce G h a) := by
  simp [qws, ha]
theorem qws_len {G : GT} {h : PH} : (qws G h).length = qn h := by simp [qws]
theorem qws_of {G : GT} {h : PH} {k : Nat} {q : Nat × va_E} (hq : (qws G h)[k]? = some q) : k < qn h ∧ q = (qB G + k, qce G h k) := by
  have hk : k < qn h := by
    have := (List.getElem?_eq_some_iff.mp hq).1
    rwa [qws_len] at this
  rw [qws_at hk] at hq
  exact ⟨hk, (Option.some.inj hq).symm⟩
theorem qws_D (G : GT) (h : PH) : va_D (qA G) (qws G h) := by
  refine ⟨fun i j p q hi hj e => ?_, fun k q hk => ?_⟩
  · obtain ⟨-, rfl⟩ := qws_of hi
    obtain ⟨-, rfl⟩ := qws_of hj
    exact Nat.add_left_cancel e
  · obtain ⟨-, rfl⟩ := qws_of hk
    exact Nat.le_add_right _ _
theorem qws_set {G : GT} {h h1 : PH} {a : Nat} {e : va_E} (hn : qn h1 = qn h) (he : qce G h1 a = e) (ho : ∀ b, b ≠ a → qce G h1 b = qce G h b) : (qws G h).set a (qB G + a, e) = qws G h1 := by
  apply List.ext_getElem?
  intro k
  by_cases hk : k < qn h
  · rw [qws_at (by rw [hn]; exact hk)]
    by_cases ha : k = a
    · subst ha
      rw [List.getElem?_set_self (by rw [qws_len]; exact hk), he]
    · rw [List.getElem?_set_ne (Ne.symm ha), qws_at hk, ho k ha]
  · rw [List.getElem?_eq_none (by rw [List.length_set, qws_len]; omega), List.getElem?_eq_none (by rw [qws_len, hn]; omega)]
theorem qws_new {G : GT} {h h1 : PH} {e : va_E} (hn : qn h1 = qn h + 1) (he : qce G h1 (qn h) = e) (ho : ∀ b, b < qn h → qce G h1 b = qce G h b) : qws G h ++ [(qB G + qn h, e)] = qws G h1 := by
  apply List.ext_getElem?
  intro k
  by_cases hk : k < qn h
  · rw [List.getElem?_append_left (by rw [qws_len]; exact hk), qws_at hk, qws_at (by omega), ho k hk]
  · by_cases hk2 : k = qn h
    · subst hk2
      rw [List.getElem?_append_right (by rw [qws_len]; omega), qws_at (by omega), he]
      simp [qws_len]
    · rw [List.getElem?_eq_none (by rw [List.length_append, qws_len]; simp; omega), List.getElem?_eq_none (by rw [qws_len, hn]; omega)]
/-- the declared kind of a reference field or element -/
def qrt (K k : Nat) : Option Nat := if K = 17 then some 1 else if K = 18 then some 4 else match (qft K)[k]? with
  | some c => if 10 ≤ c then some (c - 10) else none
  | none => none
/-- cell b is there, of kind t -/
def qOK (h : PH) (t b : Nat) : Prop := b < qn h ∧ qK h b = t
/-- references lead to cells of the declared kinds -/
def qWT (h : PH) : Prop := ∀ a, a < qn h → ∀ k t b, qrt (qK h a) k = some t → qR h a k = some b → qOK h t b
def qRel (G : GT) (h : PH) (H : Heap) : Prop := va_P (qD G) qcl (qws G h) H ∧ qWT h ∧ qn h ≤ 1000000
def qtys (G : GT) : List (ClassId × FieldType) := [(qcy G 13, .byte), (qcy G 14, .int), (qcy G 15, .long), (qcy G 16, .boolean), (qcy G 17, .object "ForeverOffice$Drawing"), (qcy G 18, .object "ForeverOffice$Part")]
theorem qRel.size {G : GT} {h : PH} {H : Heap} (r : qRel G h H) (hB : qB G ≤ H.size) : qB G + qn h ≤ H.size := by
  cases hn : qn h with
  | zero => exact hB
  | succ n =>
    have h1 := (r.1 n _ (qws_at (by omega))).lt
    show qB G + (n + 1) ≤ H.size
    have h2 : qB G + n < H.size := h1
    omega
theorem qOK.lo {G : GT} {h : PH} {H : Heap} {t a : Nat} (r : qRel G h H) (ok : qOK h t a) : a < 1000000 := Nat.lt_of_lt_of_le ok.1 r.2.2
/-- nothing of the shape has changed -/
def qEx (h h1 : PH) : Prop := qn h ≤ qn h1 ∧ (∀ a, a < qn h → qK h1 a = qK h a) ∧ (∀ a, a < qn h → qL h1 a = qL h a)
theorem qEx.rf (h : PH) : qEx h h := ⟨Nat.le_refl _, fun _ _ => rfl, fun _ _ => rfl⟩
theorem qEx.tr {h h1 h2 : PH} (a : qEx h h1) (b : qEx h1 h2) : qEx h h2 := ⟨Nat.le_trans a.1 b.1, fun x hx => (b.2.1 x (Nat.lt_of_lt_of_le hx a.1)).trans (a.2.1 x hx), fun x hx => (b.2.2 x (Nat.lt_of_lt_of_le hx a.1)).trans (a.2.2 x hx)⟩
theorem qOK.ex {h h1 : PH} {t a : Nat} (ok : qOK h t a) (e : qEx h h1) : qOK h1 t a := ⟨Nat.lt_of_lt_of_le ok.1 e.1, (e.2.1 a ok.1).trans ok.2⟩
theorem qEx.sI (h : PH) (a k : Nat) (v : Int32) : qEx h (qsI h a k v) := ⟨Nat.le_refl _, fun _ _ => rfl, fun _ _ => rfl⟩
theorem qEx.sJ (h : PH) (a k : Nat) (v : Int64) : qEx h (qsJ h a k v) := ⟨Nat.le_refl _, fun _ _ => rfl, fun _ _ => rfl⟩
theorem qEx.sR (h : PH) (a k : Nat) (v : Option Nat) : qEx h (qsR h a k v) := ⟨Nat.le_refl _, fun _ _ => rfl, fun _ _ => rfl⟩
theorem qEx.new (h : PH) (ci len sz : Nat) : qEx h (qnew h ci len sz) := ⟨Nat.le_succ _, fun a ha => if_neg (Nat.ne_of_lt ha), fun a ha => if_neg (Nat.ne_of_lt ha)⟩
theorem qWT.sI {h : PH} (w : qWT h) (a k : Nat) (v : Int32) : qWT (qsI h a k v) := w
theorem qWT.sJ {h : PH} (w : qWT h) (a k : Nat) (v : Int64) : qWT (qsJ h a k v) := w
theorem qWT.sR {h : PH} (w : qWT h) {a k : Nat} {v : Option Nat} (hv : ∀ t b, qrt (qK h a) k = some t → v = some b → qOK h t b) : qWT (qsR h a k v) := by
  intro x hx j t b ht hb
  rw [qR_sR] at hb
  by_cases c : x = a ∧ j = k
  · rw [if_pos c] at hb
    obtain ⟨rfl, rfl⟩ := c
    exact hv t b ht hb
  · rw [if_neg c] at hb
    exact w x hx j t b ht hb
theorem qWT.new {h : PH} (w : qWT h) (ci len sz : Nat) : qWT (qnew h ci len sz) := by
  intro x hx j t b ht hb
  have e := qEx.new h ci len sz
  by_cases c : x = h.1
  · subst c
    have : (none : Option Nat) = some b := by
      rw [← hb]; show none = if h.1 = h.1 then none else _; rw [if_pos rfl]
    cases this
  · have hx2 : x < qn h := by have : x < h.1 + 1 := hx; show x < h.1; omega
    have hb2 : qR h x j = some b := by rw [← hb]; show _ = if x = h.1 then none else _; rw [if_neg c]; rfl
    exact (w x hx2 j t b (by rw [← e.2.1 x hx2]; exact ht) hb2).ex e
/-! cells behind a store -/
theorem qce_obj {G : GT} {h : PH} {a : Nat} (hk : qK h a < 13) : qce G h a = .inr (qK h a, (qft (qK h a)).mapIdx (qfv G h a)) := if_pos hk
theorem qce_I {G : GT} {h : PH} {a : Nat} (hk : qK h a = 13 ∨ qK h a = 14 ∨ qK h a = 16) : qce G h a = .inl (qcy G (qK h a), qL h a, .inl (qI h a)) := by
  unfold qce
  rw [if_neg (by omega), if_neg (by omega), if_pos (by omega)]
theorem qce_J {G : GT} {h : PH} {a : Nat} (hk : qK h a = 15) : qce G h a = .inl (qcy G 15, qL h a, .inr (.inl (qJ h a))) := by
  unfold qce
  rw [if_neg (by omega), if_pos hk]
theorem qce_R {G : GT} {h : PH} {a : Nat} (hk : qK h a = 17 ∨ qK h a = 18) : qce G h a = .inl (qcy G (qK h a), qL h a, .inr (.inr (.inr (.inr (fun j => (qR h a j).map (qtr G)))))) := by
  unfold qce
  rw [if_neg (by omega), if_neg (by omega), if_neg (by omega)]
theorem qce_sI_ne {G : GT} {h : PH} {a k : Nat} {v : Int32} {b : Nat} (hb : b ≠ a) : qce G (qsI h a k v) b = qce G h b := by
  have hi : ∀ j, qI (qsI h a k v) b j = qI h b j := fun j => by rw [qI_sI, if_neg (fun c => hb c.1)]
  have hv : qfv G (qsI h a k v) b = qfv G h b := by
    funext j c
    show (if c < 2 then Value.int (qI (qsI h a k v) b j) else _) = _
    rw [hi]; rfl
  have hi2 : qI (qsI h a k v) b = qI h b := funext hi
  unfold qce
  rw [hv, hi2]
  rfl
theorem qce_sJ_ne {G : GT} {h : PH} {a k : Nat} {v : Int64} {b : Nat} (hb : b ≠ a) : qce G (qsJ h a k v) b = qce G h b := by
  have hi : ∀ j, qJ (qsJ h a k v) b j = qJ h b j := fun j => by rw [qJ_sJ, if_neg (fun c => hb c.1)]
  have hv : qfv G (qsJ h a k v) b = qfv G h b := by
    funext j c
    show (if c < 2 then _ else if c = 2 then Value.long (qJ (qsJ h a k v) b j) else _) = _
    rw [hi]; rfl
  have hi2 : qJ (qsJ h a k v) b = qJ h b := funext hi
  unfold qce
  rw [hv, hi2]
  rfl
theorem qce_sR_ne {G : GT} {h : PH} {a k : Nat} {v : Option Nat} {b : Nat} (hb : b ≠ a) : qce G (qsR h a k v) b = qce G h b := by
  have hi : ∀ j, qR (qsR h a k v) b j = qR h b j := fun j => by rw [qR_sR, if_neg (fun c => hb c.1)]
  have hv : qfv G (qsR h a k v) b = qfv G h b := by
    funext j c
    show (if c < 2 then _ else if c = 2 then _ else va_rf ((qR (qsR h a k v) b j).map _)) = _
    rw [hi]; rfl
  have hi2 : qR (qsR h a k v) b = qR h b := funext hi
  unfold qce
  rw [hv, hi2]
  rfl
theorem qfs_set {G : GT} {h h1 : PH} {a k c : Nat} {cs : List Nat} {v : Value} (hc : cs[k]? = some c) (h1v : qfv G h1 a k c = v) (ho : ∀ j, j ≠ k → ∀ c, qfv G h1 a j c = qfv G h a j c) : (cs.mapIdx (qfv G h a)).set k v = cs.mapIdx (qfv G h1 a) := by
  apply List.ext_getElem?
  intro j
  by_cases hj : j = k
  · subst hj
    have hl : j < cs.length := (List.getElem?_eq_some_iff.mp hc).1
    rw [List.getElem?_set_self (by rw [List.length_mapIdx]; exact hl), List.getElem?_mapIdx, hc]
    simp [h1v]
  · rw [List.getElem?_set_ne (Ne.symm hj), List.getElem?_mapIdx, List.getElem?_mapIdx]
    cases cs[j]? with
    | none => rfl
    | some c => simp [ho j hj c]

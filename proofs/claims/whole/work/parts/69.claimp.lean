/-! ===== PURE: a CLAIM's text ===== -/
def valC (c : Nat) : Option Nat := if c = cw 19 then some 0 else if c = cw 20 then some 1 else if c = cw 21 then some 2 else if c = cw 22 then some 3 else if c = cw 23 then some 4 else if c = cw 24 then some 5 else if c = cw 25 then some 6 else if c = cw 26 then some 7 else none
theorem val_c : ∀ k, k < 34 → (valC (cw k) = none ∧ q_wc 2 k = -1) ∨ (∃ y, y < 8 ∧ valC (cw k) = some y ∧ q_wc 2 k = nI y) := by decide +kernel
theorem val_n {c : Nat} (h : ∀ k, k < 34 → c ≠ cw k) : valC c = none := by
  unfold valC
  rw [if_neg (h 19 (by decide)), if_neg (h 20 (by decide)), if_neg (h 21 (by decide)), if_neg (h 22 (by decide)), if_neg (h 23 (by decide)), if_neg (h 24 (by decide)), if_neg (h 25 (by decide)), if_neg (h 26 (by decide))]
/-- ones, nodes, the nodes, the stack before each -/
abbrev CD := Nat × Nat × (Nat → ND) × (Nat → List Nat)
def xc (d : CD) : Nat := d.1
def xn (d : CD) : Nat := d.2.1
def xd (d : CD) : Nat → ND := d.2.2.1
def xS (d : CD) : Nat → List Nat := d.2.2.2
def addN (d : CD) (x : ND) (s : List Nat) : CD := (xc d, xn d + 1, (fun k => if k = xn d then x else xd d k), (fun k => if k = xn d + 1 then s else xS d k))
def incC (d : CD) : CD := (xc d + 1, xn d, xd d, xS d)
def pV (tk : Nat → TK) (i : Nat) : PR Nat := if kdT (tk i) = 2 then .inr (i + 1, 100 + ctT (tk i)) else if kdT (tk i) = 1 then (match valC (ctT (tk i)) with | some y => .inr (i + 1, y) | none => .inl (1, i)) else .inl (1, i)
def isV (tk : Nat → TK) (i : Nat) : Prop := ∃ v, pV tk i = .inr (i + 1, v)
theorem pV_or (tk : Nat → TK) (i : Nat) : pV tk i = .inl (1, i) ∨ ∃ v, pV tk i = .inr (i + 1, v) := by
  unfold pV
  split
  · exact Or.inr ⟨_, rfl⟩
  · split
    · split
      · exact Or.inr ⟨_, rfl⟩
      · exact Or.inl rfl
    · exact Or.inl rfl
theorem pV_op {b : Nat → Nat} {sz lim m i i' v : Nat} {tk : Nat → TK} (x : Tx b sz lim m tk) (hi : i ≤ m) (h : pV tk i = .inr (i', v)) : i' = i + 1 ∧ isOp v ∧ i < m := by
  unfold pV at h
  split at h
  · rename_i k2
    cases h
    have lt := x.lt hi (show ¬ kdT (tk i) = 0 by rw [k2]; decide)
    have := (x.in lt).2.2.2.1 k2
    exact ⟨rfl, Or.inr ⟨by omega, by omega⟩, lt⟩
  · split at h
    · rename_i k1
      have lt := x.lt hi (show ¬ kdT (tk i) = 0 by rw [k1]; decide)
      split at h
      · rename_i y e
        cases h
        refine ⟨rfl, Or.inl ?_, lt⟩
        by_cases kn : ∃ k, k < 34 ∧ ctT (tk i) = cw k
        · obtain ⟨k, hk, ek⟩ := kn
          rw [ek] at e
          rcases val_c k hk with u | ⟨y', y7, u, _⟩
          · rw [u.1] at e; cases e
          · rw [u] at e; cases e; exact y7
        · rw [val_n (fun k hk e => kn ⟨k, hk, e⟩)] at e; cases e
      · cases h
    · cases h
/-- a loop of the text: while the word stands -/
def lp {σ : Type} (st : Nat → σ → PR σ) (go : Nat → Bool) : Nat → Nat → σ → PR σ
  | 0, i, _ => .inl (0, i)
  | k + 1, i, d => if go i = true then bnd (st i d) (fun i d => lp st go k i d) else .inr (i, d)
def isWb (tk : Nat → TK) (c i : Nat) : Bool := decide (kdT (tk i) = 1 ∧ ctT (tk i) = c)
abbrev CX := CD × Nat
def stJ (w : Nat) (one : Nat → CD → PR CX) (i : Nat) (x : CX) : PR CX := bnd (one (i + 1) x.1) fun i y => .inr (i, (addN y.1 (w, x.2, y.2, 0) (xn y.1 :: (xS y.1 (xn y.1)).tail.tail), xn y.1))
def pAl (tk : Nat → TK) (one : Nat → CD → PR CX) (i : Nat) (d : CD) : PR CX := bnd (one i d) fun i x => lp (stJ 2 one) (isWb tk (cw 17)) 641 i x
def pCn (tk : Nat → TK) (one : Nat → CD → PR CX) (i : Nat) (d : CD) : PR CX := bnd (pAl tk one i d) fun i x => lp (stJ 3 (pAl tk one)) (isWb tk (cw 16)) 641 i x
abbrev isR (tk : Nat → TK) (i : Nat) : Prop := kdT (tk i) = 3 ∧ (ctT (tk i) = 60 ∨ ctT (tk i) = 61 ∨ ctT (tk i) = 62)
def pCmp (tk : Nat → TK) (i : Nat) (d : CD) : PR CX := bnd (pV tk i) fun i v => if isR tk i then bnd (pV tk (i + 1)) fun i2 v2 => .inr (i2, (addN d (4, v, v2, ctT (tk i)) (xn d :: xS d (xn d)), xn d)) else .inl (1, i)
noncomputable def pOf (tk : Nat → TK) : Nat → Nat → Nat → CD → PR CX
  | 0, _, i, _ => .inl (0, i)
  | f + 1, dep, i, d =>
    @ite _ ((kdT (tk i) = 1 ∧ ctT (tk i) = cw 18) ∨ (kdT (tk i) = 3 ∧ ctT (tk i) = 40) ∨ isV tk i) (Classical.propDecidable _)
      (if 20 ≤ xc d ∨ 8 < dep then .inl (4, i)
       else if kdT (tk i) = 3 ∧ ctT (tk i) = 40 then bnd (pCn tk (pOf tk f (dep + 1)) (i + 1) (incC d)) fun i x => bnd (pS tk 41 i) fun i _ => .inr (i, x)
       else if kdT (tk i) = 1 ∧ ctT (tk i) = cw 18 then bnd (pOf tk f (dep + 1) (i + 1) (incC d)) fun i x => .inr (i, (addN x.1 (1, x.2, 0, 0) (xn x.1 :: (xS x.1 (xn x.1)).tail), xn x.1))
       else pCmp tk i (incC d))
      (.inl (1, i))
/-! what comes is a claim -/
def Wd (d : CD) : Prop := xS d 0 = [] ∧ ∀ k, k < xn d → ndOk (xd d k) k (xS d k) (xS d (k + 1))
def Bd (d : CD) : Prop := Wd d ∧ xn d ≤ 2 * xc d ∧ xc d ≤ 20
def GP (d d2 : CD) (t : Nat) : Prop := Wd d2 ∧ xS d2 (xn d2) = t :: xS d (xn d) ∧ xc d < xc d2 ∧ xc d2 ≤ 20 ∧ xn d2 + 1 + 2 * xc d ≤ xn d + 2 * xc d2
theorem GP.b {d d2 : CD} {t : Nat} (g : GP d d2 t) (b : Bd d) : Bd d2 := ⟨g.1, by have := g.2.2.2.2; have := b.2.1; omega, g.2.2.2.1⟩
theorem Wd.add {d : CD} {x : ND} {s : List Nat} (w : Wd d) (o : ndOk x (xn d) (xS d (xn d)) s) : Wd (addN d x s) ∧ xS (addN d x s) (xn (addN d x s)) = s := by
  refine ⟨⟨?_, fun k hk => ?_⟩, ?_⟩
  · show (if 0 = xn d + 1 then s else xS d 0) = []
    rw [if_neg (by omega)]; exact w.1
  · have hk : k < xn d + 1 := hk
    show ndOk (if k = xn d then x else xd d k) k (if k = xn d + 1 then s else xS d k) (if k + 1 = xn d + 1 then s else xS d (k + 1))
    rw [if_neg (show ¬ k = xn d + 1 by omega)]
    by_cases z : k = xn d
    · rw [if_pos z, if_pos (by omega), z]; exact o
    · rw [if_neg z, if_neg (by omega)]; exact w.2 k (by omega)
  · show (if xn d + 1 = xn d + 1 then s else _) = s
    rw [if_pos rfl]
section
variable {b : Nat → Nat} {sz lim m : Nat} {tk : Nat → TK}
/-- what reads one keeps the rules -/
def OneOk (m : Nat) (one : Nat → CD → PR CX) : Prop := ∀ i d i' d' t, i ≤ m → Bd d → one i d = .inr (i', (d', t)) → i < i' ∧ i' ≤ m ∧ GP d d' t
theorem stJ_ok {one : Nat → CD → PR CX} (o : OneOk m one) {w : Nat} (hw : w = 2 ∨ w = 3) {d d1 d2 : CD} {t1 t2 i i' : Nat} (hi : i < m) (bd : Bd d) (g : GP d d1 t1) (h : stJ w one i (d1, t1) = .inr (i', (d2, t2))) : i + 1 < i' ∧ i' ≤ m ∧ GP d d2 t2 := by
  obtain ⟨i1, y, a1, h⟩ := bnd_inv h
  obtain ⟨d3, t3⟩ := y
  obtain ⟨l1, l2, g3⟩ := o _ _ _ _ _ (by omega) (g.b bd) a1
  cases h
  obtain ⟨w3, s3, c3, c20, n3⟩ := g3
  have s3' : xS d3 (xn d3) = t3 :: t1 :: xS d (xn d) := by rw [s3, g.2.1]
  have ad := w3.add (x := (w, t1, t3, 0)) (s := xn d3 :: (xS d3 (xn d3)).tail.tail) (Or.inr (Or.inr ⟨hw, xS d (xn d), s3', by rw [s3']; rfl⟩))
  refine ⟨by omega, l2, ad.1, ?_, ?_, c20, ?_⟩
  · rw [ad.2, s3']; rfl
  · have := g.2.2.1
    show xc d < xc d3
    omega
  · have := g.2.2.2.2
    show xn d3 + 1 + 1 + 2 * xc d ≤ xn d + 2 * xc d3
    omega
theorem lp_ok {one : Nat → CD → PR CX} (o : OneOk m one) {w c : Nat} (x : Tx b sz lim m tk) (hw : w = 2 ∨ w = 3) {d : CD} (bd : Bd d) : ∀ k i i' d1 t1 d2 t2, i ≤ m → GP d d1 t1 → lp (stJ w one) (isWb tk c) k i (d1, t1) = .inr (i', (d2, t2)) → i ≤ i' ∧ i' ≤ m ∧ GP d d2 t2 := by
  intro k
  induction k with
  | zero => intro i i' d1 t1 d2 t2 _ _ h; cases h
  | succ k ih =>
    intro i i' d1 t1 d2 t2 hi g h
    unfold lp at h
    split at h
    · rename_i z
      have z' := of_decide_eq_true z
      have lt := x.lt hi (show ¬ kdT (tk i) = 0 by rw [z'.1]; decide)
      obtain ⟨i1, y, a1, h⟩ := bnd_inv h
      obtain ⟨d3, t3⟩ := y
      obtain ⟨l1, l2, g3⟩ := stJ_ok o hw lt bd g a1
      obtain ⟨l3, l4, g4⟩ := ih _ _ _ _ _ _ l2 g3 h
      exact ⟨by omega, l4, g4⟩
    · cases h; exact ⟨Nat.le_refl _, hi, g⟩
theorem pAl_ok {one : Nat → CD → PR CX} (x : Tx b sz lim m tk) (o : OneOk m one) : OneOk m (pAl tk one) := by
  intro i d i' d' t hi bd h
  obtain ⟨i1, y, a1, h⟩ := bnd_inv h
  obtain ⟨d3, t3⟩ := y
  obtain ⟨l1, l2, g3⟩ := o _ _ _ _ _ hi bd a1
  obtain ⟨l3, l4, g4⟩ := lp_ok o x (Or.inl rfl) bd _ _ _ _ _ _ _ l2 g3 h
  exact ⟨by omega, l4, g4⟩
theorem pCn_ok {one : Nat → CD → PR CX} (x : Tx b sz lim m tk) (o : OneOk m one) : OneOk m (pCn tk one) := by
  intro i d i' d' t hi bd h
  obtain ⟨i1, y, a1, h⟩ := bnd_inv h
  obtain ⟨d3, t3⟩ := y
  obtain ⟨l1, l2, g3⟩ := pAl_ok x o _ _ _ _ _ hi bd a1
  obtain ⟨l3, l4, g4⟩ := lp_ok (pAl_ok x o) x (Or.inr rfl) bd _ _ _ _ _ _ _ l2 g3 h
  exact ⟨by omega, l4, g4⟩
theorem pOf_ok (x : Tx b sz lim m tk) : ∀ f dep, OneOk m (pOf tk f dep) := by
  intro f
  induction f with
  | zero => intro dep i d i' d' t _ _ h; cases h
  | succ f ih =>
    intro dep i d i' d' t hi bd h
    unfold pOf at h
    split at h
    · split at h
      · cases h
      · rename_i n20
        have bi : Bd (incC d) := ⟨bd.1, by have := bd.2.1; show xn d ≤ 2 * (xc d + 1); omega, by show xc d + 1 ≤ 20; omega⟩
        have up : ∀ {d2 : CD} {t : Nat}, GP (incC d) d2 t → GP d d2 t := fun g => by
          obtain ⟨w3, s3, c3, c20, n3⟩ := g
          have c3 : xc d + 1 < _ := c3
          have n3 : _ + 1 + 2 * (xc d + 1) ≤ xn d + _ := n3
          exact ⟨w3, s3, by omega, c20, by omega⟩
        split at h
        · rename_i z
          have lt := x.lt hi (show ¬ kdT (tk i) = 0 by rw [z.1]; decide)
          obtain ⟨i1, y, a1, h⟩ := bnd_inv h
          obtain ⟨i2, _, a2, h⟩ := bnd_inv h
          obtain ⟨d3, t3⟩ := y
          obtain ⟨l1, l2, g3⟩ := pCn_ok x (ih (dep + 1)) _ _ _ _ _ (by omega) bi a1
          have e2 := pS_inv a2
          have lt2 : i1 < m := by
            unfold pS at a2
            split at a2
            · rename_i q
              exact x.lt l2 (by rw [q.1]; decide)
            · cases a2
          cases h
          exact ⟨by omega, by omega, up g3⟩
        · split at h
          · rename_i z
            have lt := x.lt hi (show ¬ kdT (tk i) = 0 by rw [z.1]; decide)
            obtain ⟨i1, y, a1, h⟩ := bnd_inv h
            obtain ⟨d3, t3⟩ := y
            obtain ⟨l1, l2, g3⟩ := ih (dep + 1) _ _ _ _ _ (by omega) bi a1
            cases h
            obtain ⟨w3, s3, c3, c20, n3⟩ := g3
            have ad := w3.add (x := (1, t3, 0, 0)) (s := xn d3 :: (xS d3 (xn d3)).tail) (Or.inr (Or.inl ⟨rfl, xS d (xn d), s3, by rw [s3]; rfl⟩))
            have c3 : xc d + 1 < xc d3 := c3
            have n3 : xn d3 + 1 + 2 * (xc d + 1) ≤ xn d + 2 * xc d3 := n3
            refine ⟨by omega, l2, ad.1, ?_, by show xc d < xc d3; omega, c20, by show xn d3 + 1 + 1 + 2 * xc d ≤ xn d + 2 * xc d3; omega⟩
            rw [ad.2, s3]; rfl
          · obtain ⟨i1, v, a1, h⟩ := bnd_inv h
            obtain ⟨e1, o1, lt1⟩ := pV_op x hi a1
            split at h
            · rename_i r
              have lt2 := x.lt (show i1 ≤ m by omega) (show ¬ kdT (tk i1) = 0 by rw [r.1]; decide)
              obtain ⟨i2, v2, a2, h⟩ := bnd_inv h
              obtain ⟨e2, o2, lt3⟩ := pV_op x (show i1 + 1 ≤ m by omega) a2
              cases h
              have ad := bi.1.add (x := (4, v, v2, ctT (tk i1))) (s := xn (incC d) :: xS (incC d) (xn (incC d))) (Or.inl ⟨rfl, o1, o2, r.2, rfl⟩)
              refine ⟨by omega, by omega, ad.1, ad.2, by show xc d < xc d + 1; omega, bi.2.2, by show xn d + 1 + 1 + 2 * xc d ≤ xn d + 2 * (xc d + 1); omega⟩
            · cases h
    · cases h
end

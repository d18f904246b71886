/-! ===== PURE: a heap told by lists, for the constructors ===== -/
def lkR (rs : List (Nat × Nat × Option Nat)) (a j : Nat) : Option Nat := match rs with
  | [] => none
  | q :: r => if a = q.1 ∧ j = q.2.1 then q.2.2 else lkR r a j
def lkI (is : List (Nat × Nat × Int32)) (a j : Nat) : Int32 := match is with
  | [] => 0
  | q :: r => if a = q.1 ∧ j = q.2.1 then q.2.2 else lkI r a j
/-- k cells; kinds and lengths by functions; refs and ints by lists, the newest first; no longs -/
def NR (h : PH) (k : Nat) (K L : Nat → Nat) (rs : List (Nat × Nat × Option Nat)) (is : List (Nat × Nat × Int32)) : Prop := qn h = k ∧ ∀ a, a < k → qK h a = K a ∧ qL h a = L a ∧ (∀ j, qR h a j = lkR rs a j) ∧ (∀ j, qI h a j = lkI is a j) ∧ ∀ j, qJ h a j = 0
theorem lkR_lt {k j : Nat} : ∀ {rs : List (Nat × Nat × Option Nat)}, rs.all (fun q => decide (q.1 < k)) = true → lkR rs k j = none
  | [], _ => rfl
  | q :: r, c => by
    rw [List.all_cons, Bool.and_eq_true] at c
    have := of_decide_eq_true c.1
    show (if k = q.1 ∧ j = q.2.1 then q.2.2 else lkR r k j) = none
    rw [if_neg (by omega)]; exact lkR_lt c.2
theorem lkI_lt {k j : Nat} : ∀ {is : List (Nat × Nat × Int32)}, is.all (fun q => decide (q.1 < k)) = true → lkI is k j = 0
  | [], _ => rfl
  | q :: r, c => by
    rw [List.all_cons, Bool.and_eq_true] at c
    have := of_decide_eq_true c.1
    show (if k = q.1 ∧ j = q.2.1 then q.2.2 else lkI r k j) = 0
    rw [if_neg (by omega)]; exact lkI_lt c.2
section
variable {h h1 : PH} {k : Nat} {K L : Nat → Nat} {rs : List (Nat × Nat × Option Nat)} {is : List (Nat × Nat × Int32)}
theorem NR.new {c l z : Nat} (s : NR h k K L rs is) (e : h1 = qnew h c l z) (hK : K k = c) (hL : L k = l) (c1 : rs.all (fun q => decide (q.1 < k)) = true) (c2 : is.all (fun q => decide (q.1 < k)) = true) : NR h1 (k + 1) K L rs is := by
  obtain ⟨n, s⟩ := s
  subst e
  refine ⟨by rw [nw_n, n], fun a ha => ?_⟩
  rw [nw_K, nw_L, nw_R, nw_I, nw_J, n]
  by_cases y : a = k
  · subst y
    rw [if_pos rfl, if_pos rfl, if_pos rfl, if_pos rfl, if_pos rfl]
    exact ⟨hK.symm, hL.symm, fun j => (lkR_lt c1).symm, fun j => (lkI_lt c2).symm, fun _ => rfl⟩
  · rw [if_neg y, if_neg y, if_neg y, if_neg y, if_neg y]
    exact s a (by omega)
theorem NR.sR {x j : Nat} {v : Option Nat} (s : NR h k K L rs is) (e : h1 = qsR h x j v) : NR h1 k K L ((x, j, v) :: rs) is := by
  obtain ⟨n, s⟩ := s
  subst e
  refine ⟨n, fun a ha => ?_⟩
  obtain ⟨y1, y2, y3, y4, y5⟩ := s a ha
  refine ⟨y1, y2, fun i => ?_, y4, y5⟩
  rw [qR_sR]
  show _ = (if a = x ∧ i = j then v else lkR rs a i)
  rw [y3]
theorem NR.sI {x j : Nat} {v : Int32} (s : NR h k K L rs is) (e : h1 = qsI h x j v) : NR h1 k K L rs ((x, j, v) :: is) := by
  obtain ⟨n, s⟩ := s
  subst e
  refine ⟨n, fun a ha => ?_⟩
  obtain ⟨y1, y2, y3, y4, y5⟩ := s a ha
  refine ⟨y1, y2, y3, fun i => ?_, y5⟩
  rw [qI_sI]
  show _ = (if a = x ∧ i = j then v else lkI is a i)
  rw [y4]
theorem NR.sJ {x j : Nat} (s : NR h k K L rs is) (e : h1 = qsJ h x j 0) : NR h1 k K L rs is := by
  obtain ⟨n, s⟩ := s
  subst e
  refine ⟨n, fun a ha => ?_⟩
  obtain ⟨y1, y2, y3, y4, y5⟩ := s a ha
  refine ⟨y1, y2, y3, y4, fun i => ?_⟩
  rw [qJ_sJ, y5]
  split <;> rfl
end

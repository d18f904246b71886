/-! ===== PURE: runs: the class's turn and the model's play go the same way ===== -/
theorem Fg.push {a : Nat} {h h1 : PH} (f : Fg [a] [] h h1) (k : Nat) (v : Int32) : Fg [a] [] h (qsI h1 a k v) := f.tr (Fg.cI _ _ _ _) (by simp [fsub]) (by simp [fsub])
theorem Fg.ne {S : List Nat} {h h1 : PH} (f : Fg S [] h h1) {x : Nat} (hx : x ∉ S) (j : Nat) : qI h1 x j = qI h x j ∧ qJ h1 x j = qJ h x j ∧ qR h1 x j = qR h x j := f.2 x hx j (List.not_mem_nil)
/-- (forward, turnings in a row, t, left, steps, turnings, greatest) -/
abbrev RS := Bool × Nat × Nat × Int32 × Nat × Nat × Int32
def rf (s : RS) : Bool := s.1
def rr (s : RS) : Nat := s.2.1
def rt (s : RS) : Nat := s.2.2.1
def rl (s : RS) : Int32 := s.2.2.2.1
def rd (s : RS) : Nat := s.2.2.2.2.1
def ru (s : RS) : Nat := s.2.2.2.2.2.1
def rm (s : RS) : Int32 := s.2.2.2.2.2.2
def re (F B : Nat → Int32) (s : RS) : Int32 := rl s + (if rf s = true then F (rt s) else B (rt s))
def rstep (N : Nat) (F B : Nat → Int32) (s : RS) : RS :=
  if re F B s < 0 then (!rf s, rr s + 1, rt s, rl s, rd s, ru s + 1, rm s)
  else (rf s, 0, (if rf s = true then (rt s + 1) % N else (rt s + N - 1) % N), re F B s, rd s + 1, ru s, qmax (rm s) (re F B s))
def rgo (N : Nat) (F B : Nat → Int32) (s0 : RS) : Nat → RS
  | 0 => s0
  | k + 1 => rstep N F B (rgo N F B s0 k)
def rstop (s : RS) : Prop := 2 ≤ rr s ∨ 20000 ≤ rd s
def rok (N k : Nat) (s : RS) : Prop := rt s < N ∧ rr s ≤ 2 ∧ rd s ≤ 20000 ∧ ru s ≤ rd s + rr s ∧ k = rd s + ru s
theorem rok_step {N k : Nat} {F B : Nat → Int32} {s : RS} (hN : 0 < N) (o : rok N k s) (ns : ¬ rstop s) : rok N (k + 1) (rstep N F B s) := by
  obtain ⟨o1, o2, o3, o4, o5⟩ := o
  have n1 : rr s < 2 := by
    rcases Nat.lt_or_ge (rr s) 2 with z | z
    · exact z
    · exact absurd (Or.inl z) ns
  have n2 : rd s < 20000 := by
    rcases Nat.lt_or_ge (rd s) 20000 with z | z
    · exact z
    · exact absurd (Or.inr z) ns
  unfold rstep
  by_cases c : re F B s < 0
  · rw [if_pos c]
    exact ⟨o1, by show rr s + 1 ≤ 2; omega, o3, by show ru s + 1 ≤ rd s + (rr s + 1); omega, by show k + 1 = rd s + (ru s + 1); omega⟩
  · rw [if_neg c]
    refine ⟨?_, by show 0 ≤ 2; omega, by show rd s + 1 ≤ 20000; omega, by show ru s ≤ rd s + 1 + 0; omega, by show k + 1 = rd s + 1 + ru s; omega⟩
    show (if rf s = true then (rt s + 1) % N else (rt s + N - 1) % N) < N
    split <;> exact Nat.mod_lt _ hN
/-- where it ends -/
def rend (N : Nat) (F B : Nat → Int32) (s0 : RS) (k : Nat) : Prop := rok N k (rgo N F B s0 k) ∧ rstop (rgo N F B s0 k) ∧ ∀ j, j < k → ¬ rstop (rgo N F B s0 j)
theorem rend_uniq {N : Nat} {F B : Nat → Int32} {s0 : RS} {k j : Nat} (a : rend N F B s0 k) (b : rend N F B s0 j) : k = j := by
  rcases Nat.lt_trichotomy k j with z | z | z
  · exact absurd a.2.1 (b.2.2 k z)
  · exact z
  · exact absurd b.2.1 (a.2.2 j z)
theorem before_ok {h : PH} {N t : Nat} {Q : Int32 → PH → Prop} (hp : qI h 13 2 = nI N) (hN : N ≤ 48) (ht : t < N) (q : Q (nI ((t + N - 1) % N)) h) : wp_X10_before 13 (nI t) h Q := by
  refine ⟨fun c => ?_, fun c => ?_⟩
  · have t0 : t = 0 := by
      rcases Nat.eq_zero_or_pos t with z | z
      · exact z
      · exact absurd c (nI_nle z (by omega))
    rw [hp]
    rw [t0, show 0 + N - 1 = N - 1 by omega, Nat.mod_eq_of_lt (by omega)] at q
    rw [show N = (N - 1) + 1 by omega, nI_pred]; exact q
  · have t0 : 0 < t := by
      rcases Nat.eq_zero_or_pos t with z | z
      · exact absurd (by rw [z]; decide) c
      · exact z
    rw [show t + N - 1 = t - 1 + N by omega, Nat.add_mod_right, Nat.mod_eq_of_lt (by omega)] at q
    rw [show t = (t - 1) + 1 by omega, nI_pred]; exact q
/-- a run of the class holds s -/
def RC (h : PH) (r : Nat) (s : RS) : Prop := qI h r 1 = nI (rt s) ∧ qI h r 2 = rl s ∧ qI h r 3 = nI (rd s) ∧ qI h r 4 = nI (ru s) ∧ qI h r 5 = rm s ∧ qI h r 6 = (if rr s = 2 then 1 else 0)
/-- the class's world -/
def WF (h : PH) (N : Nat) (F B : Nat → Int32) : Prop := (qR h 13 0 = some 14 ∧ qL h 14 = 48 ∧ ∀ t, t < N → qI h 14 t = F t) ∧ (qR h 13 1 = some 15 ∧ qL h 15 = 48 ∧ ∀ t, t < N → qI h 15 t = B t) ∧ qI h 13 2 = nI N ∧ 8 ≤ N ∧ N ≤ 48
theorem WF.ag {h h1 : PH} {N : Nat} {F B : Nat → Int32} (d : WF h N F B) (f : Ag [14, 15] [(13, 0), (13, 1), (13, 2)] h h1) : WF h1 N F B := by
  obtain ⟨⟨a1, a2, a3⟩, ⟨b1, b2, b3⟩, c1, c2⟩ := d
  exact ⟨⟨by rw [f.r rfl]; exact a1, by rw [f.L rfl]; exact a2, fun t ht => by rw [f.I rfl]; exact a3 t ht⟩, ⟨by rw [f.r rfl]; exact b1, by rw [f.L rfl]; exact b2, fun t ht => by rw [f.I rfl]; exact b3 t ht⟩, by rw [f.i rfl]; exact c1, c2⟩
theorem fag_w {r : Nat} (hr : r = 16 ∨ r = 17) : fag [r] [] [14, 15] [(13, 0), (13, 1), (13, 2)] = true := by
  rcases hr with rfl | rfl <;> rfl
theorem b2i_0t {b : Bool} (h : b2i b = 0) : b = false := (b2i_0 b).mp h
theorem turn_ok {h : PH} {N r : Nat} {F B : Nat → Int32} {s0 : RS} {Q : PH → Prop} (w : WF h N F B) (hr : r = 16 ∨ r = 17) (ok0 : rok N 0 s0) (f0 : rf s0 = true) (rr0 : rr s0 = 0) (c0 : RC h r s0)
    (q : ∀ h1 k, Fg [r] [] h h1 → qI h1 r 0 = qI h r 0 → rend N F B s0 k → RC h1 r (rgo N F B s0 k) → Q h1) : wp_X5_turn r 13 h Q := by
  have hN8 := w.2.2.2.1
  have hN := w.2.2.2.2
  refine ⟨fun st => ∃ k, rok N k (rgo N F B s0 k) ∧ (∀ j, j < k → ¬ rstop (rgo N F B s0 j)) ∧ st.1 = b2i (rf (rgo N F B s0 k)) ∧ st.2.1 = (if rr (rgo N F B s0 k) = 0 then 0 else 1) ∧ st.2.2.1 = nI k ∧ Fg [r] [] h st.2.2.2 ∧ qI st.2.2.2 r 0 = qI h r 0 ∧ RC st.2.2.2 r (rgo N F B s0 k), fun st => 50000 - st.2.2.1.toNatClampNeg, ⟨0, ok0, fun j hj => absurd hj (Nat.not_lt_zero j), by show (1 : Int32) = b2i (rf s0); rw [f0]; rfl, by show (0 : Int32) = (if rr s0 = 0 then 0 else 1); rw [rr0]; rfl, rfl, Fg.rf _ _ _, rfl, c0⟩, ?_⟩
  rintro ⟨l2, l3, l4, h1⟩ ⟨k, ok, ns, e1, e2, e3, f1, z1, rc⟩
  dsimp only at e1 e2 e3 f1 z1 rc
  have w1 : WF h1 N F B := w.ag (f1.ag (fag_w hr))
  generalize hs : rgo N F B s0 k = s at *
  obtain ⟨o1, o2, o3, o4, o5⟩ := ok
  obtain ⟨c1, c2, c3, c4, c5, c6⟩ := rc
  have fin : rstop s → Q h1 := fun st => q h1 k f1 z1 ⟨by rw [hs]; exact ⟨o1, o2, o3, o4, o5⟩, by rw [hs]; exact st, ns⟩ (by rw [hs]; exact ⟨c1, c2, c3, c4, c5, c6⟩)
  show wb_X5_turn_7 r 13 Q _ l2 l3 l4 h1
  unfold wb_X5_turn_7
  rw [e3, c3, c6]
  refine ⟨fun c => fin ?_, fun c => ⟨fun c => fin ?_, fun d => ⟨fun c => fin ?_, fun d2 => ?_⟩⟩⟩
  · have : 40002 ≤ k := (nI_leI (a := 40002) (by decide) (by omega)).mp c
    unfold rstop
    omega
  · exact Or.inr ((nI_leI (a := 20000) (by decide) (by omega)).mp c)
  · by_cases e : rr s = 2
    · exact Or.inl (by omega)
    · rw [if_neg e] at c; exact absurd rfl c
  · have n1 : rr s < 2 := by
      by_cases e : rr s = 2
      · rw [if_pos e] at d2; exact absurd d2 (by decide)
      · omega
    have n2 : rd s < 20000 := by
      rcases Nat.lt_or_ge (rd s) 20000 with z | z
      · exact z
      · exact absurd ((nI_leI (a := 20000) (by decide) (by omega)).mpr z) d
    have nst : ¬ rstop s := fun z => by rcases z with z | z <;> omega
    have ns2 : ∀ j, j < k + 1 → ¬ rstop (rgo N F B s0 j) := fun j hj => by
      rcases (show j < k ∨ j = k by omega) with z | z
      · exact ns j z
      · rw [z, hs]; exact nst
    have ok2 : rok N (k + 1) (rstep N F B s) := rok_step (by omega) ⟨o1, o2, o3, o4, o5⟩ nst
    have hs2 : rgo N F B s0 (k + 1) = rstep N F B s := by show rstep N F B (rgo N F B s0 k) = _; rw [hs]
    have l3z : l3 = 0 ∨ l3 = 1 := by
      rw [e2]
      by_cases z : rr s = 0
      · exact Or.inl (if_pos z)
      · exact Or.inr (if_neg z)
    have main : wp_X5_turn_60 r 13 l2 l3 (nI k) (if rf s = true then F (rt s) else B (rt s)) (qI h1 r 2) (fun s2 => (∃ k, rok N k (rgo N F B s0 k) ∧ (∀ j, j < k → ¬ rstop (rgo N F B s0 j)) ∧ s2.1 = b2i (rf (rgo N F B s0 k)) ∧ s2.2.1 = (if rr (rgo N F B s0 k) = 0 then 0 else 1) ∧ s2.2.2.1 = nI k ∧ Fg [r] [] h s2.2.2.2 ∧ qI s2.2.2.2 r 0 = qI h r 0 ∧ RC s2.2.2.2 r (rgo N F B s0 k)) ∧ 50000 - s2.2.2.1.toNatClampNeg < 50000 - (nI k).toNatClampNeg) h1 Q := by
      intro v ev
      have ev2 : v = re F B s := by rw [ev, c2]; rfl
      have kk : (nI k).toNatClampNeg = k := nI_clamp (by omega)
      have kk1 : (nI (k + 1)).toNatClampNeg = k + 1 := nI_clamp (by omega)
      refine ⟨fun cneg => ⟨l3z, fun h2 eh2 => ?_⟩, fun cpos h2 eh2 => ?_⟩
      · rw [ev2] at cneg
        have st2 : rstep N F B s = (!rf s, rr s + 1, rt s, rl s, rd s, ru s + 1, rm s) := by unfold rstep; rw [if_pos cneg]
        have tail : ∀ h3, h3 = qsI h2 r 4 (qI h2 r 4 + 1) → ∀ v2, v2 = nI k + 1 → ∀ b : Int32, b = b2i (!rf s) → ((∃ k, rok N k (rgo N F B s0 k) ∧ (∀ j, j < k → ¬ rstop (rgo N F B s0 j)) ∧ b = b2i (rf (rgo N F B s0 k)) ∧ (1 : Int32) = (if rr (rgo N F B s0 k) = 0 then 0 else 1) ∧ v2 = nI k ∧ Fg [r] [] h h3 ∧ qI h3 r 0 = qI h r 0 ∧ RC h3 r (rgo N F B s0 k)) ∧ 50000 - v2.toNatClampNeg < 50000 - (nI k).toNatClampNeg) := by
          intro h3 eh3 v2 ev3 b eb
          refine ⟨⟨k + 1, by rw [hs2]; exact ok2, ns2, by rw [hs2, st2]; exact eb, ?_, by rw [ev3]; exact nI_1 k, ?_, ?_, ?_⟩, by rw [ev3, nI_1, kk, kk1]; omega⟩
          · rw [hs2, st2]; show (1 : Int32) = (if rr s + 1 = 0 then 0 else 1); rw [if_neg (by omega)]
          · rw [eh3, eh2]; exact (f1.push _ _).push _ _
          · rw [eh3, eh2]; simp only [qI_sI]; simp; exact z1
          · rw [hs2, st2]
            refine ⟨?_, ?_, ?_, ?_, ?_, ?_⟩
            · rw [eh3, eh2]; simp only [qI_sI]; simp; exact c1
            · rw [eh3, eh2]; simp only [qI_sI]; simp; exact c2
            · rw [eh3, eh2]; simp only [qI_sI]; simp; exact c3
            · rw [eh3, eh2]; simp only [qI_sI]; simp; rw [c4]; exact nI_1 _
            · rw [eh3, eh2]; simp only [qI_sI]; simp; exact c5
            · rw [eh3, eh2]; simp only [qI_sI]; simp
              show l3 = (if rr s + 1 = 2 then 1 else 0)
              rw [e2]
              rcases (show rr s = 0 ∨ rr s = 1 by omega) with z | z <;> rw [z] <;> rfl
        refine ⟨fun cb h3 eh3 v2 ev3 => tail h3 eh3 v2 ev3 0 ?_, fun cb h3 eh3 v2 ev3 => tail h3 eh3 v2 ev3 1 ?_⟩
        · rw [e1] at cb; rw [b2i_t cb]; rfl
        · rw [e1] at cb; rw [b2i_0t cb]; rfl
      · rw [ev2] at cpos
        have st2 : rstep N F B s = (rf s, 0, (if rf s = true then (rt s + 1) % N else (rt s + N - 1) % N), re F B s, rd s + 1, ru s, qmax (rm s) (re F B s)) := by unfold rstep; rw [if_neg cpos]
        have e13 : qI h2 13 2 = nI N := by rw [eh2, rI_sI, if_neg (by rcases hr with rfl | rfl <;> decide)]; exact w1.2.2.1
        have er1 : qI h2 r 1 = nI (rt s) := by rw [eh2]; simp only [qI_sI]; simp; exact c1
        have tail : ∀ x : Int32, x = nI (if rf s = true then (rt s + 1) % N else (rt s + N - 1) % N) → wp_X5_turn_98 r 13 l2 (nI k) v x r (fun s2 => (∃ k, rok N k (rgo N F B s0 k) ∧ (∀ j, j < k → ¬ rstop (rgo N F B s0 j)) ∧ s2.1 = b2i (rf (rgo N F B s0 k)) ∧ s2.2.1 = (if rr (rgo N F B s0 k) = 0 then 0 else 1) ∧ s2.2.2.1 = nI k ∧ Fg [r] [] h s2.2.2.2 ∧ qI s2.2.2.2 r 0 = qI h r 0 ∧ RC s2.2.2.2 r (rgo N F B s0 k)) ∧ 50000 - s2.2.2.1.toNatClampNeg < 50000 - (nI k).toNatClampNeg) h2 Q := by
          intro x ex h3 eh3
          refine max_ok (fun h4 eh4 h5 eh5 v2 ev3 => ⟨⟨k + 1, by rw [hs2]; exact ok2, ns2, by rw [hs2, st2]; exact e1, ?_, by show v2 = _; rw [ev3]; exact nI_1 k, ?_, ?_, ?_⟩, by show 50000 - v2.toNatClampNeg < _; rw [ev3, nI_1, kk, kk1]; omega⟩)
          · rw [hs2, st2]; rfl
          · show Fg [r] [] h h5
            rw [eh5, eh4, eh3, eh2]; exact (((f1.push _ _).push _ _).push _ _).push _ _
          · show qI h5 r 0 = _
            rw [eh5, eh4, eh3, eh2]; simp only [qI_sI]; simp; exact z1
          · rw [hs2, st2]
            show RC h5 r _
            refine ⟨?_, ?_, ?_, ?_, ?_, ?_⟩
            · rw [eh5, eh4, eh3, eh2]; simp only [qI_sI]; simp; exact ex
            · rw [eh5, eh4, eh3, eh2]; simp only [qI_sI]; simp; exact ev2
            · rw [eh5, eh4, eh3, eh2]; simp only [qI_sI]; simp; rw [c3]; exact nI_1 _
            · rw [eh5, eh4, eh3, eh2]; simp only [qI_sI]; simp; exact c4
            · rw [eh5, eh4, eh3, eh2]; simp only [qI_sI]; simp; rw [c5, ev2]; rfl
            · rw [eh5, eh4, eh3, eh2]; simp only [qI_sI]; simp
              rw [c6, if_neg (by omega)]; rfl
        refine ⟨fun cb => ?_, fun cb => ?_⟩
        · rw [er1]
          refine before_ok e13 hN o1 (tail _ ?_)
          rw [e1] at cb
          rw [if_neg (by rw [b2i_0t cb]; decide)]
        · rw [er1]
          refine after_ok e13 hN o1 (tail _ ?_)
          rw [e1] at cb
          rw [if_pos (b2i_t cb)]
    refine ⟨fun cb => ⟨15, w1.2.1.1, ?_, ?_⟩, fun cb => ⟨14, w1.1.1, ?_, ?_⟩⟩
    · rw [c1, w1.2.1.2.1]; exact vp_in_nI (by omega) (by omega)
    · rw [c1, nI_clamp (by omega), w1.2.1.2.2 _ o1]
      rw [e1] at cb
      have := main
      rw [if_neg (by rw [b2i_0t cb]; decide)] at this
      exact this
    · rw [c1, w1.1.2.1]; exact vp_in_nI (by omega) (by omega)
    · rw [c1, nI_clamp (by omega), w1.1.2.2 _ o1]
      rw [e1] at cb
      have := main
      rw [if_pos (b2i_t cb)] at this
      exact this
/-- the model holds s -/
def RM (h : PH) (s : RS) : Prop := qI h 70 23 = nI (rt s) ∧ qI h 70 24 = rl s ∧ qI h 70 25 = nI (ru s) ∧ qI h 70 26 = rm s ∧ qI h 70 27 = nI (rd s)
/-- the model's world -/
def MF (h : PH) (N : Nat) (F B : Nat → Int32) : Prop := Mo h N ∧ (qR h 70 21 = some 78 ∧ qL h 78 = 48 ∧ ∀ t, t < N → qI h 78 t = F t) ∧ (qR h 70 22 = some 79 ∧ qL h 79 = 48 ∧ ∀ t, t < N → qI h 79 ((t + N - 1) % N) = B t)
theorem Mo.ag {h h1 : PH} {N : Nat} (m : Mo h N) (f : Ag [] [(70, 14), (70, 17), (72, 0), (75, 0)] h h1) : Mo h1 N := by
  obtain ⟨a1, a2, a3, a4, a5, a6, a7⟩ := m
  exact ⟨by rw [f.r rfl]; exact a1, by rw [f.l 0 rfl]; exact a2, by rw [f.i rfl]; exact a3, a4, a5, by rw [f.r rfl]; exact a6, by rw [f.l 0 rfl]; exact a7⟩
theorem MF.ag {h h1 : PH} {N : Nat} {F B : Nat → Int32} (d : MF h N F B) (f : Ag [78, 79] [(70, 14), (70, 17), (72, 0), (75, 0), (70, 21), (70, 22)] h h1) : MF h1 N F B := by
  obtain ⟨m, ⟨a1, a2, a3⟩, ⟨b1, b2, b3⟩⟩ := d
  exact ⟨m.ag ⟨fun a ha => absurd ha (List.not_mem_nil), fun g hg => f.2 g (by revert hg; revert g; decide)⟩, ⟨by rw [f.r rfl]; exact a1, by rw [f.L rfl]; exact a2, fun t ht => by rw [f.I rfl]; exact a3 t ht⟩, ⟨by rw [f.r rfl]; exact b1, by rw [f.L rfl]; exact b2, fun t ht => by rw [f.I rfl]; exact b3 t ht⟩⟩
def mfF : List (Nat × Nat) := [(70, 23), (70, 24), (70, 25), (70, 26), (70, 27), (70, 28)]
theorem play_ok {h : PH} {N t0 : Nat} {push : Int32} {F B : Nat → Int32} {Q : PH → Prop} (w : MF h N F B) (ht0 : t0 < N)
    (q : ∀ h1 k, Fg [] mfF h h1 → rend N F B (true, 0, t0, push, 0, 0, push) k → RM h1 (rgo N F B (true, 0, t0, push, 0, 0, push) k) → qI h1 70 28 = (if rr (rgo N F B (true, 0, t0, push, 0, 0, push) k) = 2 then 1 else 0) → Q h1) : wp_X12_play 70 (nI t0) push h Q := by
  have hN8 := w.1.2.2.2.1
  have hN := w.1.2.2.2.2.1
  intro h1 e1 h2 e2 h3 e3 h4 e4 h5 e5 h6 e6
  have f6 : Fg [] mfF h h6 := by
    rw [e6, e5, e4, e3, e2, e1]
    exact (((((Fg.sI _ _ _ _).tr (Fg.sI _ _ _ _) (U := []) (V := mfF) rfl rfl).tr (Fg.sI _ _ _ _) (U := []) (V := mfF) rfl rfl).tr (Fg.sI _ _ _ _) (U := []) (V := mfF) rfl rfl).tr (Fg.sI _ _ _ _) (U := []) (V := mfF) rfl rfl).tr (Fg.sI _ _ _ _) rfl rfl
  generalize hs0 : ((true, 0, t0, push, 0, 0, push) : RS) = s0 at q
  refine ⟨fun st => ∃ k, rok N k (rgo N F B s0 k) ∧ (∀ j, j < k → ¬ rstop (rgo N F B s0 j)) ∧ st.1 = b2i (rf (rgo N F B s0 k)) ∧ st.2.1 = nI (rr (rgo N F B s0 k)) ∧ Fg [] mfF h st.2.2 ∧ RM st.2.2 (rgo N F B s0 k), fun st => 50000 - (st.2.2 |> fun x => (qI x 70 27).toNatClampNeg + (qI x 70 25).toNatClampNeg), ⟨0, by rw [← hs0]; exact ⟨ht0, by show 0 ≤ 2; omega, by show 0 ≤ 20000; omega, by show 0 ≤ 0 + 0; omega, rfl⟩, fun j hj => absurd hj (Nat.not_lt_zero j), by rw [← hs0]; rfl, by rw [← hs0]; rfl, f6, ?_⟩, ?_⟩
  · rw [← hs0]
    show RM h6 _
    refine ⟨?_, ?_, ?_, ?_, ?_⟩ <;> (rw [e6, e5, e4, e3, e2, e1]; simp only [qI_sI]; simp) <;> rfl
  · rintro ⟨l3, l4, h1⟩ ⟨k, ok, ns, b1, b2, f1, rc⟩
    dsimp only at b1 b2 f1 rc
    have w1 : MF h1 N F B := w.ag (f1.ag rfl)
    generalize hs : rgo N F B s0 k = s at *
    obtain ⟨o1, o2, o3, o4, o5⟩ := ok
    obtain ⟨c1, c2, c3, c4, c5⟩ := rc
    have fin : ∀ h2 : PH, rstop s → h2 = qsI h1 70 28 (if rr s = 2 then 1 else 0) → Q h2 := fun h2 st eh2 => q h2 k (by rw [eh2]; exact f1.tr (Fg.sI _ _ _ _) rfl rfl) ⟨by rw [hs]; exact ⟨o1, o2, o3, o4, o5⟩, by rw [hs]; exact st, ns⟩ (by
      rw [hs]
      refine ⟨?_, ?_, ?_, ?_, ?_⟩
      · rw [eh2]; simp only [qI_sI]; simp; exact c1
      · rw [eh2]; simp only [qI_sI]; simp; exact c2
      · rw [eh2]; simp only [qI_sI]; simp; exact c3
      · rw [eh2]; simp only [qI_sI]; simp; exact c4
      · rw [eh2]; simp only [qI_sI]; simp; exact c5) (by rw [hs, eh2]; simp only [qI_sI]; simp)
    show wb_X12_play_35 70 Q _ l3 l4 h1
    unfold wb_X12_play_35
    rw [b2, c5]
    have r2 : nI (rr s) = 2 ↔ rr s = 2 := nI_eq (b := 2) (by omega) (by decide)
    refine ⟨fun c => ?_, fun cn => ⟨fun c => ?_, fun cd => ?_⟩⟩
    · have : 2 ≤ rr s := (nI_leI (a := 2) (by decide) (by omega)).mp c
      exact ⟨fun z h2 eh2 => absurd (r2.mpr (by omega)) z, fun z h2 eh2 => fin h2 (Or.inl this) (by rw [if_pos (by omega)]; exact eh2)⟩
    · have : 20000 ≤ rd s := (nI_leI (a := 20000) (by decide) (by omega)).mp c
      exact ⟨fun z h2 eh2 => fin h2 (Or.inr this) (by rw [if_neg (fun y => z (r2.mpr y))]; exact eh2), fun z h2 eh2 => fin h2 (Or.inr this) (by rw [if_pos (r2.mp z)]; exact eh2)⟩
    · have n1 : rr s < 2 := by
        rcases Nat.lt_or_ge (rr s) 2 with z | z
        · exact z
        · exact absurd ((nI_leI (a := 2) (by decide) (by omega)).mpr z) cn
      have n2 : rd s < 20000 := by
        rcases Nat.lt_or_ge (rd s) 20000 with z | z
        · exact z
        · exact absurd ((nI_leI (a := 20000) (by decide) (by omega)).mpr z) cd
      have nst : ¬ rstop s := fun z => by rcases z with z | z <;> omega
      have ns2 : ∀ j, j < k + 1 → ¬ rstop (rgo N F B s0 j) := fun j hj => by
        rcases (show j < k ∨ j = k by omega) with z | z
        · exact ns j z
        · rw [z, hs]; exact nst
      have ok2 : rok N (k + 1) (rstep N F B s) := rok_step (by omega) ⟨o1, o2, o3, o4, o5⟩ nst
      have hs2 : rgo N F B s0 (k + 1) = rstep N F B s := by show rstep N F B (rgo N F B s0 k) = _; rw [hs]
      have mes : 50000 - ((qI h1 70 27).toNatClampNeg + (qI h1 70 25).toNatClampNeg) = 50000 - k := by rw [c5, c3, nI_clamp (by omega), nI_clamp (by omega), o5]
      have big : ∀ (sp : Nat) (x : Int32), sp = (if rf s = true then rt s else (rt s + N - 1) % N) → x = (if rf s = true then F (rt s) else B (rt s)) → wp_X12_play_99 70 l3 (nI (rr s)) (nI sp) x (qI h1 70 24) (fun s2 => (∃ k, rok N k (rgo N F B s0 k) ∧ (∀ j, j < k → ¬ rstop (rgo N F B s0 j)) ∧ s2.1 = b2i (rf (rgo N F B s0 k)) ∧ s2.2.1 = nI (rr (rgo N F B s0 k)) ∧ Fg [] mfF h s2.2.2 ∧ RM s2.2.2 (rgo N F B s0 k)) ∧ 50000 - ((qI s2.2.2 70 27).toNatClampNeg + (qI s2.2.2 70 25).toNatClampNeg) < 50000 - ((qI h1 70 27).toNatClampNeg + (qI h1 70 25).toNatClampNeg)) h1 Q := by
        intro sp x esp ex v ev
        have ev2 : v = re F B s := by rw [ev, c2, ex]; rfl
        rw [mes]
        refine ⟨fun cpos h2 eh2 => ?_, fun cneg => ?_⟩
        · rw [ev2] at cpos
          have st2 : rstep N F B s = (rf s, 0, (if rf s = true then (rt s + 1) % N else (rt s + N - 1) % N), re F B s, rd s + 1, ru s, qmax (rm s) (re F B s)) := by unfold rstep; rw [if_neg (i_nlt.mpr cpos)]
          have tail : ∀ h3, Fg [] mfF h h3 → qI h3 70 23 = nI (rt s) → qI h3 70 24 = re F B s → qI h3 70 25 = nI (ru s) → qI h3 70 26 = qmax (rm s) (re F B s) → qI h3 70 27 = nI (rd s) → wp_X12_play_157 70 l3 0 (nI sp) (fun s2 => (∃ k, rok N k (rgo N F B s0 k) ∧ (∀ j, j < k → ¬ rstop (rgo N F B s0 j)) ∧ s2.1 = b2i (rf (rgo N F B s0 k)) ∧ s2.2.1 = nI (rr (rgo N F B s0 k)) ∧ Fg [] mfF h s2.2.2 ∧ RM s2.2.2 (rgo N F B s0 k)) ∧ 50000 - ((qI s2.2.2 70 27).toNatClampNeg + (qI s2.2.2 70 25).toNatClampNeg) < 50000 - k) h3 Q := by
            intro h3 f3 g1 g2 g3 g4 g5
            have fin2 : ∀ h4 : PH, ∀ y : Int32, y = nI (if rf s = true then (rt s + 1) % N else (rt s + N - 1) % N) → ∀ h5, h4 = qsI h3 70 23 y → h5 = qsI h4 70 27 (qI h4 70 27 + 1) → ((∃ k, rok N k (rgo N F B s0 k) ∧ (∀ j, j < k → ¬ rstop (rgo N F B s0 j)) ∧ l3 = b2i (rf (rgo N F B s0 k)) ∧ (0 : Int32) = nI (rr (rgo N F B s0 k)) ∧ Fg [] mfF h h5 ∧ RM h5 (rgo N F B s0 k)) ∧ 50000 - ((qI h5 70 27).toNatClampNeg + (qI h5 70 25).toNatClampNeg) < 50000 - k) := by
              intro h4 y ey h5 eh4 eh5
              have i27 : qI h5 70 27 = nI (rd s + 1) := by rw [eh5, eh4]; simp only [qI_sI]; simp; rw [g5]; exact nI_1 _
              have i25 : qI h5 70 25 = nI (ru s) := by rw [eh5, eh4]; simp only [qI_sI]; simp; exact g3
              refine ⟨⟨k + 1, by rw [hs2]; exact ok2, ns2, by rw [hs2, st2]; exact b1, by rw [hs2, st2]; rfl, by rw [eh5, eh4]; exact (f3.tr (Fg.sI _ _ _ _) (U := []) (V := mfF) rfl rfl).tr (Fg.sI _ _ _ _) rfl rfl, ?_⟩, by rw [i27, i25, nI_clamp (by omega), nI_clamp (by omega)]; omega⟩
              rw [hs2, st2]
              refine ⟨?_, ?_, i25, ?_, i27⟩
              · rw [eh5, eh4]; simp only [qI_sI]; simp; exact ey
              · rw [eh5, eh4]; simp only [qI_sI]; simp; exact g2
              · rw [eh5, eh4]; simp only [qI_sI]; simp; exact g4
            refine ⟨fun cb h4 eh4 h5 eh5 => fin2 h4 _ ?_ h5 eh4 eh5, fun cb => ?_⟩
            · rw [b1] at cb
              have : ¬ rf s = true := by rw [b2i_0t cb]; decide
              rw [if_neg this] at esp ⊢
              rw [esp]
            · rw [g1, nI_1]
              have w3 : MF h3 N F B := w.ag (f3.ag rfl)
              refine round_ok w3.1 (fun h4 eh4 h5 eh5 => fin2 h4 _ ?_ h5 eh4 eh5)
              rw [b1] at cb
              rw [if_pos (b2i_t cb)]
              exact rnd_nat (by omega) (by omega) (by omega)
          have i26 : qI h2 70 26 = rm s := by rw [eh2]; simp only [qI_sI]; simp; exact c4
          have g1 : qI h2 70 23 = nI (rt s) := by rw [eh2]; simp only [qI_sI]; simp; exact c1
          have g2 : qI h2 70 24 = re F B s := by rw [eh2]; simp only [qI_sI]; simp; exact ev2
          have g3 : qI h2 70 25 = nI (ru s) := by rw [eh2]; simp only [qI_sI]; simp; exact c3
          have g5 : qI h2 70 27 = nI (rd s) := by rw [eh2]; simp only [qI_sI]; simp; exact c5
          have f2 : Fg [] mfF h h2 := by rw [eh2]; exact f1.tr (Fg.sI _ _ _ _) rfl rfl
          rw [i26, ev2]
          refine ⟨fun cm => tail h2 f2 g1 g2 g3 ?_ g5, fun cm h3 eh3 => tail h3 (by rw [eh3]; exact f2.tr (Fg.sI _ _ _ _) rfl rfl) ?_ ?_ ?_ ?_ ?_⟩
          · rw [i26]; unfold qmax; rw [if_neg (i_nlt.mpr cm)]
          · rw [eh3]; simp only [qI_sI]; simp; exact g1
          · rw [eh3]; simp only [qI_sI]; simp; exact g2
          · rw [eh3]; simp only [qI_sI]; simp; exact g3
          · rw [eh3]; simp only [qI_sI]; simp; unfold qmax; rw [if_pos (i_nle.mp cm)]
          · rw [eh3]; simp only [qI_sI]; simp; exact g5
        · rw [ev2] at cneg
          have st2 : rstep N F B s = (!rf s, rr s + 1, rt s, rl s, rd s, ru s + 1, rm s) := by unfold rstep; rw [if_pos (i_nle.mp cneg)]
          have fin2 : ∀ b : Int32, b = b2i (!rf s) → ∀ h2, h2 = qsI h1 70 25 (qI h1 70 25 + 1) → ∀ v2, v2 = nI (rr s) + 1 → ((∃ k, rok N k (rgo N F B s0 k) ∧ (∀ j, j < k → ¬ rstop (rgo N F B s0 j)) ∧ b = b2i (rf (rgo N F B s0 k)) ∧ v2 = nI (rr (rgo N F B s0 k)) ∧ Fg [] mfF h h2 ∧ RM h2 (rgo N F B s0 k)) ∧ 50000 - ((qI h2 70 27).toNatClampNeg + (qI h2 70 25).toNatClampNeg) < 50000 - k) := by
            intro b eb h2 eh2 v2 ev3
            have i27 : qI h2 70 27 = nI (rd s) := by rw [eh2]; simp only [qI_sI]; simp; exact c5
            have i25 : qI h2 70 25 = nI (ru s + 1) := by rw [eh2]; simp only [qI_sI]; simp; rw [c3]; exact nI_1 _
            refine ⟨⟨k + 1, by rw [hs2]; exact ok2, ns2, by rw [hs2, st2]; exact eb, by rw [hs2, st2, ev3]; exact nI_1 _, by rw [eh2]; exact f1.tr (Fg.sI _ _ _ _) rfl rfl, ?_⟩, by rw [i27, i25, nI_clamp (by omega), nI_clamp (by omega)]; omega⟩
            rw [hs2, st2]
            refine ⟨?_, ?_, i25, ?_, i27⟩
            · rw [eh2]; simp only [qI_sI]; simp; exact c1
            · rw [eh2]; simp only [qI_sI]; simp; exact c2
            · rw [eh2]; simp only [qI_sI]; simp; exact c4
          refine ⟨fun cb h2 eh2 v2 ev3 => fin2 0 ?_ h2 eh2 v2 ev3, fun cb h2 eh2 v2 ev3 => fin2 1 ?_ h2 eh2 v2 ev3⟩
          · rw [b1] at cb; rw [b2i_t cb]; rfl
          · rw [b1] at cb; rw [b2i_0t cb]; rfl
      rw [c1]
      have hm : (rt s + N - 1) % N < N := Nat.mod_lt _ (by omega)
      refine ⟨fun cb => ?_, fun cb => ?_⟩
      · rw [b1] at cb
        have nf : ¬ rf s = true := by rw [b2i_0t cb]; decide
        refine round_ok w1.1 ?_
        have er : rnd (nI (rt s) - 1) (nI N) = nI ((rt s + N - 1) % N) := rnd_sub (p := 1) o1 (by omega) (by omega)
        rw [er]
        refine ⟨fun _ => ⟨79, w1.2.2.1, by rw [w1.2.2.2.1]; exact vp_in_nI (by omega) (by omega), big _ _ (by rw [if_neg nf]) ?_⟩, fun z => absurd (by rw [b1]; exact cb) z⟩
        rw [nI_clamp (by omega), w1.2.2.2.2 _ o1, if_neg nf]
      · rw [b1] at cb
        have nf : rf s = true := b2i_t cb
        refine ⟨fun z => absurd (by rw [← b1]; exact z) cb, fun _ => ⟨78, w1.2.1.1, by rw [w1.2.1.2.1]; exact vp_in_nI (by omega) (by omega), big _ _ (by rw [if_pos nf]) ?_⟩⟩
        rw [nI_clamp (by omega), w1.2.1.2.2 _ o1, if_pos nf]

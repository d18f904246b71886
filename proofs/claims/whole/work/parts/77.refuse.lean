/-! ===== PURE: the model's five calls that may refuse: what they leave ===== -/
abbrev F3 (h g : PH) : Prop := Fg [] [(70, 0), (70, 20), (72, 0)] h g
section
variable {h : PH} {N rb n d e : Nat} {Ds : Nat → PD} {Q : Int32 → PH → Prop}
theorem ref_ok {h1 : PH} (i : Inv h) (id : IDd h N rb n Ds d e) (f : Fg [] [(70, 0), (70, 20), (72, 0)] h h1) (dl : DrL h1 N rb n Ds) (q : ∀ g, Inv g → F3 h g → qI g 70 0 = 1 → Q 0 g) : wp_X12_refuse 70 h1 Q := by
  intro g eg
  have fg : Fg [] [(70, 0), (70, 20), (72, 0)] h g := by rw [eg]; exact f.tr (Fg.sI _ _ _ _) rfl rfl
  have f1 : Fg [] [(70, 0)] h1 g := by rw [eg]; exact Fg.sI _ _ _ _
  exact q g (i.lay id fg (dl.ag (f1.ag rfl))) fg (by rw [eg, rI_sI, if_pos rfl, up_eq])
theorem acc_ok {h1 g : PH} (i : Inv h) (id : IDd h N rb n Ds d e) (f : Fg [] [(70, 0), (70, 20), (72, 0)] h h1) (dm : DrM h1 N rb n Ds) (dl : DrL h1 N rb n Ds) (eg : g = qsI h1 70 0 0) : Inv g ∧ F3 h g ∧ qI g 70 0 = 0 ∧ DrM g N rb n Ds := by
  have fg : Fg [] [(70, 0), (70, 20), (72, 0)] h g := by rw [eg]; exact f.tr (Fg.sI _ _ _ _) rfl rfl
  have f1 : Fg [] [(70, 0)] h1 g := by rw [eg]; exact Fg.sI _ _ _ _
  exact ⟨i.lay id fg (dl.ag (f1.ag rfl)), fg, by rw [eg, rI_sI, if_pos rfl, up_eq], dm.ag (f1.ag rfl)⟩
theorem m_place {p t : Int32} (i : Inv h) (id : IDd h N rb n Ds d e) (q1 : ∀ g k j, k < n → p = nI k → j < N → t = nI j → Inv g → F3 h g → qI g 70 0 = 0 → Q (nI ((dpin (Ds k) + j) % N)) g) (q0 : ∀ g, ¬ (∃ k j, k < n ∧ p = nI k ∧ j < N ∧ t = nI j) → Inv g → F3 h g → qI g 70 0 = 1 → Q 0 g) : wp_X12_place 70 p t h Q := by
  have dl := id.2.2.1
  refine misPart_ok dl (fun k hk ek => ⟨fun y => absurd y (by decide), fun _ => ?_⟩) (fun no => ⟨fun _ => ref_ok i id (Fg.rf _ _ _) dl (fun g a b c => q0 g (fun ⟨k, j, hk, ek, _⟩ => no k hk ek) a b c), fun y => absurd rfl y⟩)
  refine isTime_ok dl (fun h1 f1 dm1 dl1 => ⟨fun j hj ej => ⟨fun _ g eg => ?_, fun y => absurd y (by decide)⟩, fun no => ⟨fun y => absurd rfl y, fun _ => ref_ok i id (f1.mono rfl) dl1 (fun g a b c => q0 g (fun ⟨_, j, _, _, hj, ej⟩ => no j hj ej) a b c)⟩⟩)
  obtain ⟨a, b, c, dm⟩ := acc_ok i id (f1.mono rfl) dm1 dl1 eg
  subst ek ej
  have n12 : n ≤ 12 := dm.2.2.2.1
  obtain ⟨okd, row⟩ := dm.2.2.2.2.2 k hk
  have N48 := dm.1.2.2.2.2.1
  refine mplace_ok dm.1 (by omega) ?_
  have pin : dpin (Ds k) < N := okd.2.1
  rw [row 1 (by decide), show mRow (Ds k) 1 = nI (dpin (Ds k)) from rfl, nI_add, rnd_nat (by omega) (by omega) (by omega)]
  exact q1 g k j hk rfl hj rfl a b c
theorem m_energy {p t : Int32} (i : Inv h) (id : IDd h N rb n Ds d e) (q1 : ∀ g k j, k < n → p = nI k → j < N → t = nI j → Inv g → F3 h g → qI g 70 0 = 0 → Q (pEn (cRow (Ds k)) (nI j) (nI N)) g) (q0 : ∀ g, ¬ (∃ k j, k < n ∧ p = nI k ∧ j < N ∧ t = nI j) → Inv g → F3 h g → qI g 70 0 = 1 → Q 0 g) : wp_X12_energy 70 p t h Q := by
  have dl := id.2.2.1
  refine misPart_ok dl (fun k hk ek => ⟨fun y => absurd y (by decide), fun _ => ?_⟩) (fun no => ⟨fun _ => ref_ok i id (Fg.rf _ _ _) dl (fun g a b c => q0 g (fun ⟨k, j, hk, ek, _⟩ => no k hk ek) a b c), fun y => absurd rfl y⟩)
  refine isTime_ok dl (fun h1 f1 dm1 dl1 => ⟨fun j hj ej => ⟨fun _ g eg => ?_, fun y => absurd y (by decide)⟩, fun no => ⟨fun y => absurd rfl y, fun _ => ref_ok i id (f1.mono rfl) dl1 (fun g a b c => q0 g (fun ⟨_, j, _, _, hj, ej⟩ => no j hj ej) a b c)⟩⟩)
  obtain ⟨a, b, c, dm⟩ := acc_ok i id (f1.mono rfl) dm1 dl1 eg
  subst ek ej
  have n12 : n ≤ 12 := dm.2.2.2.1
  obtain ⟨okd, row⟩ := dm.2.2.2.2.2 k hk
  exact menergy_ok dm.1 (by omega) okd row hj (q1 g k j hk rfl hj rfl a b c)
theorem m_gives {p t w : Int32} (i : Inv h) (id : IDd h N rb n Ds d e) (q1 : ∀ g k j L, k < n → p = nI k → j < N → t = nI j → L < 32 → w = nI L → Inv g → F3 h g → qI g 70 0 = 0 → Q (gv (Ds k) N j (nI L)) g) (q0 : ∀ g, ¬ (∃ k j L, k < n ∧ p = nI k ∧ j < N ∧ t = nI j ∧ L < 32 ∧ w = nI L) → Inv g → F3 h g → qI g 70 0 = 1 → Q 0 g) : wp_X12_gives 70 p t w h Q := by
  have dl := id.2.2.1
  refine misPart_ok dl (fun k hk ek => ⟨fun y => absurd y (by decide), fun _ => ?_⟩) (fun no => ⟨fun _ => ref_ok i id (Fg.rf _ _ _) dl (fun g a b c => q0 g (fun ⟨k, j, L, hk, ek, _⟩ => no k hk ek) a b c), fun y => absurd rfl y⟩)
  refine isTime_ok dl (fun h1 f1 dm1 dl1 => ⟨fun j hj ej => ⟨fun y => absurd y (by decide), fun _ => ?_⟩, fun no => ⟨fun _ => ref_ok i id (f1.mono rfl) dl1 (fun g a b c => q0 g (fun ⟨_, j, _, _, _, hj, ej, _⟩ => no j hj ej) a b c), fun y => absurd rfl y⟩⟩)
  refine isWorld_ok (fun L hL eL => ⟨fun _ g eg => ?_, fun y => absurd y (by decide)⟩) (fun no => ⟨fun y => absurd rfl y, fun _ => ref_ok i id (f1.mono rfl) dl1 (fun g a b c => q0 g (fun ⟨_, _, L, _, _, _, _, hL, eL⟩ => no L hL eL) a b c)⟩)
  obtain ⟨a, b, c, dm⟩ := acc_ok i id (f1.mono rfl) dm1 dl1 eg
  subst ek ej eL
  have n12 : n ≤ 12 := dm.2.2.2.1
  obtain ⟨okd, row⟩ := dm.2.2.2.2.2 k hk
  exact mgives_ok dm.1 (by omega) okd row hj (q1 g k j L hk rfl hj rfl hL rfl a b c)
theorem m_sum {p w : Int32} (i : Inv h) (id : IDd h N rb n Ds d e) (q1 : ∀ g k L, k < n → p = nI k → L < 32 → w = nI L → Inv g → F3 h g → qI g 70 0 = 0 → Q (qsum (fun t => gv (Ds k) N t (nI L)) N) g) (q2 : ∀ g L, p = -1 → L < 32 → w = nI L → Inv g → F3 h g → qI g 70 0 = 0 → Q (wholeV N rb n Ds (nI L)) g) (q0 : ∀ g, ¬ ((p = -1 ∨ ∃ k, k < n ∧ p = nI k) ∧ ∃ L, L < 32 ∧ w = nI L) → Inv g → F3 h g → qI g 70 0 = 1 → Q 0 g) : wp_X12_sum 70 p w h Q := by
  refine lay_ok id.2.2.1 (fun h1 f1 dm1 dl1 => ?_)
  have f1' : Fg [] [(70, 0), (70, 20), (72, 0)] h h1 := f1.mono rfl
  have n12 : n ≤ 12 := dm1.2.2.2.1
  refine ⟨fun ep => ?_, fun np => misPart_ok dl1 (fun k hk ek => ⟨fun y => absurd y (by decide), fun _ => ?_⟩) (fun no => ⟨fun _ => ref_ok i id f1' dl1 (fun g a b c => q0 g (fun ⟨u, _⟩ => u.elim np (fun ⟨k, hk, ek⟩ => no k hk ek)) a b c), fun y => absurd rfl y⟩)⟩
  · refine isWorld_ok (fun L hL eL => ⟨fun _ g eg => ⟨fun y => absurd ep y, fun _ => ?_⟩, fun y => absurd y (by decide)⟩) (fun no => ⟨fun y => absurd rfl y, fun _ => ref_ok i id f1' dl1 (fun g a b c => q0 g (fun ⟨_, L, hL, eL⟩ => no L hL eL) a b c)⟩)
    obtain ⟨a, b, c, dm⟩ := acc_ok i id f1' dm1 dl1 eg
    subst eL
    exact mwhole_ok dm (q2 g L ep hL rfl a b c)
  · refine isWorld_ok (fun L hL eL => ⟨fun _ g eg => ⟨fun _ => ?_, fun y => absurd y np⟩, fun y => absurd y (by decide)⟩) (fun no => ⟨fun y => absurd rfl y, fun _ => ref_ok i id f1' dl1 (fun g a b c => q0 g (fun ⟨_, L, hL, eL⟩ => no L hL eL) a b c)⟩)
    obtain ⟨a, b, c, dm⟩ := acc_ok i id f1' dm1 dl1 eg
    subst eL ek
    obtain ⟨okd, row⟩ := dm.2.2.2.2.2 k hk
    exact msum_ok dm.1 (by omega) okd row (q1 g k L hk rfl hL rfl a b c)
end

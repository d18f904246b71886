/-! ===== PURE: the model's call value ===== -/
theorem m_value {h : PH} {N rb n d e : Nat} {Ds : Nat → PD} {Q : Int32 → PH → Prop} {v t : Int32} (i : Inv h) (id : IDd h N rb n Ds d e) (q1 : ∀ g x y, x < 8 → v = nI x → tOk N y → t = tI y → Inv g → F3 h g → qI g 70 0 = 0 → Q (vvt N n Ds y x) g) (q0 : ∀ g, ¬ (∃ x y, x < 8 ∧ v = nI x ∧ tOk N y ∧ t = tI y) → Inv g → F3 h g → qI g 70 0 = 1 → Q 0 g) : wp_X12_value 70 v t h Q := by
  have dl := id.2.2.1
  -- what is left once both are good
  have fin : ∀ (x : Nat) (y : Option Nat) (h1 : PH), x < 8 → v = nI x → tOk N y → t = tI y → Fg [] [(70, 0), (70, 20), (72, 0)] h h1 → DrL h1 N rb n Ds → ∀ g, g = qsI h1 70 0 0 → wp_X12_lay 70 g (fun h8 => wp_X12_valued 70 v t h8 (fun r11 h10 => Q r11 h10)) := by
    intro x y h1 hx ev hy et f1 dl1 g eg
    have fg : Fg [] [(70, 0), (70, 20), (72, 0)] h g := by rw [eg]; exact f1.tr (Fg.sI _ _ _ _) rfl rfl
    have f0 : Fg [] [(70, 0)] h1 g := by rw [eg]; exact Fg.sI _ _ _ _
    refine lay_ok (dl1.ag (f0.ag rfl)) (fun h2 f2 dm2 dl2 => ?_)
    have fA : Fg [] [(70, 0), (70, 20), (72, 0)] h h2 := fg.tr f2 rfl rfl
    subst ev et
    refine mvalued_ok dm2 (Or.inl hx) hy ?_
    have ov : opv (vvt N n Ds y) x = vvt N n Ds y x := by
      unfold opv
      rw [if_neg (by omega)]
    rw [ov]
    exact q1 h2 x y hx rfl hy rfl (i.lay id fA dl2) fA (by rw [f2.I rfl, eg, rI_sI, if_pos rfl, up_eq])
  refine isIn_ok (M := 7) rfl (by decide) (fun x hx ex => ⟨fun y => absurd y (by decide), fun _ => ⟨fun em g eg => ?_, fun nm => ?_⟩⟩) (fun no => ⟨fun _ => ref_ok i id (Fg.rf _ _ _) dl (fun g a b c => q0 g (fun ⟨x, y, hx, ex, _⟩ => no x (by omega) ex) a b c), fun y => absurd rfl y⟩)
  · exact fin x none h (by omega) ex trivial em (Fg.rf _ _ _) dl g eg
  · refine isTime_ok dl (fun h1 f1 dm1 dl1 => ⟨fun j hj ej => ⟨fun _ g eg => fin x (some j) h1 (by omega) ex hj ej (f1.mono rfl) dl1 g eg, fun y => absurd y (by decide)⟩, fun no => ⟨fun y => absurd rfl y, fun _ => ref_ok i id (f1.mono rfl) dl1 (fun g a b c => q0 g (fun ⟨x, y, _, _, hy, ey⟩ => ?_) a b c)⟩⟩)
    cases y with
    | none => exact nm ey
    | some j => exact no j hy ey

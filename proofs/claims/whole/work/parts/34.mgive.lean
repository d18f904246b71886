/-! ===== PURE: what the model's parts give is what the class's give ===== -/
theorem nI_inj {a b : Nat} (ha : a < 2 ^ 31) (hb : b < 2 ^ 31) (e : nI a = nI b) : a = b := (nI_eq ha hb).mp e
/-- the distance round of places j and p -/
def ndist (j p N : Nat) : Nat := if p ≤ j then (if j - p ≤ N - (j - p) then j - p else N - (j - p)) else (if p - j ≤ N - (p - j) then p - j else N - (p - j))
theorem dist_e {D : PD} {N j : Nat} (o : okD N D) (hN : N ≤ 48) (hj : j < N) : pDist (cRow D) (nI j) (nI N) = nI (ndist j (dat D) N) := by
  have hp : dat D < N := o.2.2.2.2.2.2.1
  unfold pDist
  rw [show cRow D 6 = nI (dat D) from rfl]
  have key : ∀ a, a < N → qmin (nI a) (nI N - nI a) = nI (if a ≤ N - a then a else N - a) := by
    intro a ha
    rw [pk_sub (by omega)]
    unfold qmin
    by_cases c : a ≤ N - a
    · rw [if_pos c, if_neg (nI_nlt c (by omega))]
    · rw [if_neg c, if_pos (nI_lt (by omega) (by omega))]
  unfold ndist
  by_cases c : dat D ≤ j
  · rw [if_pos c, pk_sub c, show qabs (nI (j - dat D)) = nI (j - dat D) from if_pos (nI_pos' (by omega))]
    exact key _ (by omega)
  · rw [if_neg c]
    have e1 : qabs (nI j - nI (dat D)) = nI (dat D - j) := by
      have hs : nI j - nI (dat D) < 0 := pk_sneg (by omega) (by omega)
      unfold qabs
      rw [if_neg (i_nle.mpr hs)]
      apply Int32.toInt_inj.mp
      have e2 : (nI j - nI (dat D)).toInt = (j : Int) - (dat D : Nat) := pk_sub_toInt (by omega) (by omega)
      rw [fb_negI (by rw [e2]; omega), e2, nI_toInt (by omega)]
      omega
    rw [e1]
    exact key _ (by omega)
theorem m148_ok {h : PH} {N k x : Nat} {j : Int32} {w : Int32} {D : PD} {Q : Int32 → PH → Prop} (m : Mo h N) (hk : k < 12) (o : okD N D) (e : rowM (mrow h 0 k) D) (hx : x ≤ 48) (q : Q (if pWithin (cRow D) j then 0 else -w * qmax 0 (6 - nI x)) h) : wp_X12_energyOf_148 70 (nI k) j w (nI x) h Q := by
  have hN := m.2.2.2.2.1
  refine ⟨fun c => ?_, fun c => mwithin_ok m hk ⟨fun w => ?_, fun w => ?_⟩⟩
  · have hx6 : 6 ≤ x := by
      rcases Nat.lt_or_ge x 6 with z | z
      · exact absurd (nI_lt z (by omega) : nI x < nI 6) (i_nlt.mpr c)
      · exact z
    have e1 : qmax 0 (6 - nI x) = 0 := by
      unfold qmax
      have : ¬ (0 : Int32) < 6 - nI x := by
        rw [i_nlt]
        have h1 : (6 - nI x : Int32).toInt = 6 - (x : Int) := pk_sub_toInt (a := 6) (b := x) (by decide) (by omega)
        rw [Int32.le_iff_toInt_le, h1]
        show 6 - (x : Int) ≤ 0
        omega
      rw [if_neg this]
    rw [e1, Int32.mul_zero] at q
    cases hw : pWithin (cRow D) j with
    | true => rw [hw] at q; exact q
    | false => rw [hw] at q; exact q
  · have hx6 : x < 6 := by
      rcases Nat.lt_or_ge x 6 with z | z
      · exact z
      · exact absurd (nI_le z (by omega) : nI 6 ≤ nI x) c
    have e1 : qmax 0 (6 - nI x) = 6 - nI x := by
      unfold qmax
      have : (0 : Int32) < 6 - nI x := by
        have h1 : (6 - nI x : Int32).toInt = 6 - (x : Int) := pk_sub_toInt (a := 6) (b := x) (by decide) (by omega)
        rw [Int32.lt_iff_toInt_lt, h1]
        show 0 < 6 - (x : Int)
        omega
      rw [if_pos this]
    rw [mWithin_e o hN e] at w
    rw [(b2i_0 _).mp w, e1] at q
    exact q
  · rw [mWithin_e o hN e] at w
    rw [if_pos (b2i_t w)] at q
    exact q
theorem menergy_ok {h : PH} {N k j : Nat} {D : PD} {Q : Int32 → PH → Prop} (m : Mo h N) (hk : k < 12) (o : okD N D) (e : rowM (mrow h 0 k) D) (hj : j < N) (q : Q (pEn (cRow D) (nI j) (nI N)) h) : wp_X12_energyOf 70 (nI k) (nI j) h Q := by
  have hN := m.2.2.2.2.1
  have hR := m.2.2.2.2.2.1
  have hkd : dk D < 5 := o.1
  have hat : dat D < N := o.2.2.2.2.2.2.1
  have e2 : qI h 75 (nI (8 * k) + 2).toNatClampNeg = nI (dw D) := (slot_at hk (i := 2) (by decide) rfl).trans (e 2 (by decide))
  have e0 : qI h 75 (nI (8 * k) + 0).toNatClampNeg = nI (dk D) := (slot_at hk (i := 0) (by decide) rfl).trans (e 0 (by decide))
  show wp_X12_slot 0 (nI k) h _
  unfold wp_X12_slot
  rw [slot0_n]
  refine ⟨75, hR, slot_in m hk (i := 2) (by decide) rfl, ?_⟩
  intro v ev
  rw [e2] at ev
  subst ev
  refine ⟨75, hR, slot_in m hk (i := 0) (by decide) rfl, ?_⟩
  rw [e0]
  unfold pEn at q
  rw [show cRow D 0 = nI (dk D) from rfl, show cRow D 3 = nI (dw D) from rfl] at q
  refine ⟨fun c => ?_, fun c => ?_, fun c => ?_, fun c => ?_, fun c0 c1 c2 c3 => ?_⟩
  · rw [if_pos c] at q
    exact marm_ok m hk o e (nI_inj (by omega) (by decide) c) (mhigh_ok m q)
  · rw [if_neg (by rw [c]; decide), if_pos c] at q
    refine mwithin_ok m hk ⟨fun w => ?_, fun w => ⟨72, m.1, in08 m, mhigh_ok m ?_⟩⟩
    · rw [mWithin_e o hN e] at w
      rw [(b2i_0 _).mp w] at q; exact q
    · rw [mWithin_e o hN e] at w
      rw [if_pos (b2i_t w)] at q
      rw [c0_n, m.2.2.1]; exact q
  · rw [if_neg (by rw [c]; decide), if_neg (by rw [c]; decide), if_pos c, dist_e o hN hj] at q
    have hk2 : dk D = 2 := nI_inj (by omega) (by decide) c
    have e7 : qI h 75 (nI (8 * k) + 7).toNatClampNeg = nI (dat D) := (slot_at hk (i := 7) (by decide) rfl).trans ((e 7 (by decide)).trans (if_pos hk2))
    have hdd : (j + N - dat D) % N = if dat D ≤ j then j - dat D else j + N - dat D := by
      by_cases z : dat D ≤ j
      · rw [if_pos z, show j + N - dat D = (j - dat D) + N by omega, Nat.add_mod_right, Nat.mod_eq_of_lt (by omega)]
      · rw [if_neg z, Nat.mod_eq_of_lt (by omega)]
    refine ⟨75, hR, slot_in m hk (i := 7) (by decide) rfl, round_ok m ?_⟩
    rw [e7, rnd_sub hj hat (by omega), hdd]
    unfold ndist at q
    have et : qI h 72 (0 : Int32).toNatClampNeg = nI N := by rw [c0_n]; exact m.2.2.1
    refine ⟨72, m.1, in08 m, fun cc => ?_, fun cc => ⟨72, m.1, in08 m, fun v ev => ?_⟩⟩
    · rw [et] at cc
      refine m148_ok m hk o e (by split <;> omega) ?_
      by_cases z : dat D ≤ j
      · rw [if_pos z, pk_sub (by omega)] at cc
        have cc := (nI_leI (by omega) (by omega)).mp cc
        rw [if_pos z, if_pos cc] at q
        rw [if_pos z]; exact q
      · rw [if_neg z, pk_sub (by omega)] at cc
        have cc := (nI_leI (by omega) (by omega)).mp cc
        rw [if_neg z] at q
        rw [if_neg z]
        by_cases y : dat D - j ≤ N - (dat D - j)
        · rw [if_pos y] at q
          rw [show j + N - dat D = dat D - j by omega]; exact q
        · rw [if_neg y] at q
          rw [show j + N - dat D = N - (dat D - j) by omega]; exact q
    · rw [et] at cc ev
      by_cases z : dat D ≤ j
      · rw [if_pos z, pk_sub (by omega)] at cc ev
        have cc : ¬ (j - dat D ≤ N - (j - dat D)) := fun w => cc ((nI_leI (by omega) (by omega)).mpr w)
        rw [if_pos z, if_neg cc] at q
        rw [ev]
        exact m148_ok m hk o e (by omega) q
      · rw [if_neg z, pk_sub (by omega)] at cc ev
        have cc : ¬ (j + N - dat D ≤ N - (j + N - dat D)) := fun w => cc ((nI_leI (by omega) (by omega)).mpr w)
        rw [if_neg z, if_pos (show dat D - j ≤ N - (dat D - j) by omega)] at q
        rw [ev, show N - (j + N - dat D) = dat D - j by omega]
        exact m148_ok m hk o e (by omega) q
  · rw [if_neg (by rw [c]; decide), if_neg (by rw [c]; decide), if_neg (by rw [c]; decide), if_pos c] at q
    refine mwithin_ok m hk ⟨fun w => ?_, fun w => ?_⟩
    · rw [mWithin_e o hN e] at w
      rw [(b2i_0 _).mp w] at q; exact q
    · rw [mWithin_e o hN e] at w
      rw [if_pos (b2i_t w)] at q; exact q
  · rw [if_neg c0, if_neg c1, if_neg c2, if_neg c3] at q
    exact q
theorem mgives_ok {h : PH} {N k t : Nat} {laws : Int32} {D : PD} {Q : Int32 → PH → Prop} (m : Mo h N) (hk : k < 12) (o : okD N D) (e : rowM (mrow h 0 k) D) (ht : t < N) (q : Q (pGive (cRow D) (nI t) laws (nI N)) h) : wp_X12_givesOf 70 (nI k) (nI t) laws h Q := by
  have hN := m.2.2.2.2.1
  have hN8 := m.2.2.2.1
  have hR := m.2.2.2.2.2.1
  have hkd : dk D < 5 := o.1
  have hpin : dpin D < N := o.2.1
  have e1 : qI h 75 (nI (8 * k) + 1).toNatClampNeg = nI (dpin D) := (slot_at hk (i := 1) (by decide) rfl).trans (e 1 (by decide))
  have e2 : qI h 75 (nI (8 * k) + 2).toNatClampNeg = nI (dw D) := (slot_at hk (i := 2) (by decide) rfl).trans (e 2 (by decide))
  have e0 : qI h 75 (nI (8 * k) + 0).toNatClampNeg = nI (dk D) := (slot_at hk (i := 0) (by decide) rfl).trans (e 0 (by decide))
  have er1 : mrow h 0 k 1 = nI (dpin D) := e 1 (by decide)
  show wp_X12_slot 0 (nI k) h _
  unfold wp_X12_slot
  rw [slot0_n]
  refine ⟨75, hR, slot_in m hk (i := 0) (by decide) rfl, ?_⟩
  rw [e0]
  unfold pGive at q
  rw [show cRow D 0 = nI (dk D) from rfl, show cRow D 2 = nI (dpin D) from rfl, show cRow D 3 = nI (dw D) from rfl, place_e o hN ht] at q
  have hi : (dpin D + t) % N < N := Nat.mod_lt _ (by omega)
  rw [next_e hN hi] at q
  generalize hgi : (dpin D + t) % N = i at q hi
  have hj : (i + 1) % N < N := Nat.mod_lt _ (by omega)
  refine ⟨fun c => ?_, fun c => ⟨75, hR, slot_in m hk (i := 1) (by decide) rfl, fun z => ?_, fun z => ⟨75, hR, slot_in m hk (i := 2) (by decide) rfl, ?_⟩⟩⟩
  · rw [if_neg c] at q
    refine mplace_ok m hk ?_
    rw [er1, nI_add, rnd_nat (by omega) (by omega) (by omega), hgi]
    refine round_ok m ?_
    rw [nI_1, rnd_nat (by omega) (by omega) (by omega)]
    generalize hgj : (i + 1) % N = j at q hj
    refine menergy_ok m hk o e hi (menergy_ok m hk o e hj ?_)
    intro v ev
    rw [← ev] at q
    refine mwithin_ok m hk (mwithin_ok m hk ⟨75, hR, slot_in m hk (i := 0) (by decide) rfl, ?_⟩)
    rw [e0, mWithin_e o hN e, mWithin_e o hN e]
    have ec : cRow D 0 = nI (dk D) := rfl
    refine ⟨fun d0 => ?_, fun d1 => ?_, fun d2 => ?_, fun n0 n1 n2 => ?_⟩
    · have eL : pLaw (cRow D) = 8 := by unfold pLaw; rw [ec, if_pos d0]
      have eC : pLawC (cRow D) (nI i) (nI j) (nI N) = decide (pHigh (nI i) (nI N) < pHigh (nI j) (nI N)) := by unfold pLawC; rw [ec, if_pos d0]
      rw [eL, eC, if_pos d0] at q
      refine ⟨fun z => ?_, fun z => mhigh_ok m (mhigh_ok m ⟨fun y => ?_, fun y => ?_⟩)⟩
      · rw [if_pos z] at q; exact q
      · rw [if_neg z, decide_eq_false (i_nlt.mpr y)] at q; exact q
      · rw [if_neg z, decide_eq_true (i_nle.mp y)] at q; exact q
    · have n0 : ¬ nI (dk D) = 0 := by rw [d1]; decide
      have n2 : ¬ nI (dk D) = 2 := by rw [d1]; decide
      have eL : pLaw (cRow D) = 1 := by unfold pLaw; rw [ec, if_neg n0, if_pos d1]
      have eC : pLawC (cRow D) (nI i) (nI j) (nI N) = (!pWithin (cRow D) (nI i) && pWithin (cRow D) (nI j)) := by unfold pLawC; rw [ec, if_neg n0, if_neg n2]
      rw [eL, eC, if_neg n0] at q
      refine ⟨fun z => ?_, fun z => ⟨fun y => ?_, fun y => ⟨fun x => ?_, fun x => ?_⟩⟩⟩
      · rw [if_pos z] at q; exact q
      · rw [if_neg z, b2i_t y] at q; exact q
      · rw [if_neg z, (b2i_0 _).mp x, Bool.and_false] at q; exact q
      · rw [if_neg z, (b2i_0 _).mp y, b2i_t x] at q; exact q
    · have n0 : ¬ nI (dk D) = 0 := by rw [d2]; decide
      have n1 : ¬ nI (dk D) = 1 := by rw [d2]; decide
      have eL : pLaw (cRow D) = 2 := by unfold pLaw; rw [ec, if_neg n0, if_neg n1, if_pos d2]
      have eC : pLawC (cRow D) (nI i) (nI j) (nI N) = (pWithin (cRow D) (nI i) != pWithin (cRow D) (nI j)) := by unfold pLawC; rw [ec, if_neg n0, if_pos d2]
      rw [eL, eC, if_neg n0] at q
      refine ⟨fun z => ?_, fun z => ⟨fun y => ?_, fun y => ?_⟩⟩
      · rw [if_pos z] at q; exact q
      · rw [if_neg z, (b2i_eq _ _).mp y, bne_self_eq_false] at q; exact q
      · have e9 : (pWithin (cRow D) (nI i) != pWithin (cRow D) (nI j)) = true := by
          rw [bne_iff_ne]; exact fun w => y ((b2i_eq _ _).mpr w)
        rw [if_neg z, e9] at q; exact q
    · have d3 : nI (dk D) = 3 := by
        have a0 : dk D ≠ 0 := fun z => n0 (by rw [z]; rfl)
        have a1 : dk D ≠ 1 := fun z => n1 (by rw [z]; rfl)
        have a2 : dk D ≠ 2 := fun z => n2 (by rw [z]; rfl)
        have a4 : dk D ≠ 4 := fun z => c (by rw [z]; rfl)
        rw [show dk D = 3 by omega]; rfl
      have eL : pLaw (cRow D) = 4 := by unfold pLaw; rw [ec, if_neg n0, if_neg n1, if_neg n2, if_pos d3]
      have eC : pLawC (cRow D) (nI i) (nI j) (nI N) = (!pWithin (cRow D) (nI i) && pWithin (cRow D) (nI j)) := by unfold pLawC; rw [ec, if_neg n0, if_neg n2]
      rw [eL, eC, if_neg n0] at q
      refine ⟨fun z => ?_, fun z => ⟨fun y => ?_, fun y => ⟨fun x => ?_, fun x => ?_⟩⟩⟩
      · rw [if_pos z] at q; exact q
      · rw [if_neg z, b2i_t y] at q; exact q
      · rw [if_neg z, (b2i_0 _).mp x, Bool.and_false] at q; exact q
      · rw [if_neg z, (b2i_0 _).mp y, b2i_t x] at q; exact q
  · rw [e1] at z
    rw [if_pos c, if_neg z] at q; exact q
  · rw [e1] at z
    rw [e2]
    rw [if_pos c, if_pos z] at q; exact q

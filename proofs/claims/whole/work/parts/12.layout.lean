set_option maxHeartbeats 4000000 in
set_option maxRecDepth 100000 in
theorem c_X3_set (lx : Launch) (D : va_G) (cs : Nat → ClassId) (al : Nat) (wide : Int) (high : Int) (border : Int) (pattern : Int) (w2 : Int) (h2 : Int) (b2 : Int) (p2 : Int)  : Cv lx D cs yX3_set wsX3_set ({ frames := 1, cells := 0, slots := 0, locals := 24 }) [.ref al, .int (iI w2), .int (iI h2), .int (iI b2), .int (iI p2)] [oL al wide high border pattern] (fun (u : Unit) => True) (fun u : Unit => [oL al w2 h2 b2 p2]) 0 0 := by
  refine Cv_of (cc := cX3_set) (nL := 5) (ret := none) (lv0 := [(0, .ref al), (1, .int (iI w2)), (2, .int (iI h2)), (3, .int (iI b2)), (4, .int (iI p2))]) RX3 "set" (by decide +kernel) rfl (Nat.le_of_ble_eq_true rfl) rfl (fun p9 e9 s9 m9 ar9 be9 me9 c9 A9 Q9 hQ hC => ?_)
  have iX3 : ∀ w ∈ wsX30, w ∈ wsX3_set := by decide +kernel
  have L0 : Cond.fieldLink RX3 9 "Groutline$Layout" "wide" "I" ∈ wsX3_set := by decide +kernel
  have L1 : Cond.fieldLink RX3 15 "Groutline$Layout" "high" "I" ∈ wsX3_set := by decide +kernel
  have L2 : Cond.fieldLink RX3 18 "Groutline$Layout" "border" "I" ∈ wsX3_set := by decide +kernel
  have L3 : Cond.fieldLink RX3 21 "Groutline$Layout" "pattern" "I" ∈ wsX3_set := by decide +kernel
  refine v_aload_n hC 1 0 dX3_set_0 rfl rfl rfl ?_
  refine v_iload_n hC 2 1 dX3_set_1 rfl rfl rfl ?_
  refine v_put hC 5 0 0 [oL al w2 high border pattern] (C := RX3) (T := TX3) (N := 4) dX3_set_2 rfl iX3 tyX3_ok nmX3 L0 rfl rfl (by decide) rfl rfl rfl (Nat.le_of_ble_eq_true rfl) rfl ?_
  refine v_aload_n hC 6 0 dX3_set_5 rfl rfl rfl ?_
  refine v_iload_n hC 7 2 dX3_set_6 rfl rfl rfl ?_
  refine v_put hC 10 0 1 [oL al w2 h2 border pattern] (C := RX3) (T := TX3) (N := 4) dX3_set_7 rfl iX3 tyX3_ok nmX3 L1 rfl rfl (by decide) rfl rfl rfl (Nat.le_of_ble_eq_true rfl) rfl ?_
  refine v_aload_n hC 11 0 dX3_set_10 rfl rfl rfl ?_
  refine v_iload_n hC 12 3 dX3_set_11 rfl rfl rfl ?_
  refine v_put hC 15 0 2 [oL al w2 h2 b2 pattern] (C := RX3) (T := TX3) (N := 4) dX3_set_12 rfl iX3 tyX3_ok nmX3 L2 rfl rfl (by decide) rfl rfl rfl (Nat.le_of_ble_eq_true rfl) rfl ?_
  refine v_aload_n hC 16 0 dX3_set_15 rfl rfl rfl ?_
  refine v_iload hC 18 4 dX3_set_16 rfl rfl ?_
  refine v_put hC 21 0 3 [oL al w2 h2 b2 p2] (C := RX3) (T := TX3) (N := 4) dX3_set_18 rfl iX3 tyX3_ok nmX3 L3 rfl rfl (by decide) rfl rfl rfl (Nat.le_of_ble_eq_true rfl) rfl ?_
  exact v_vret hC hQ () [0] dX3_set_21 rfl rfl ⟨by decide, by decide⟩ trivial

set_option maxHeartbeats 4000000 in
set_option maxRecDepth 100000 in
theorem c_X3_rightBorder (lx : Launch) (D : va_G) (cs : Nat → ClassId) (al : Nat) (wide : Int) (high : Int) (border : Int) (pattern : Int)  : Ci lx D cs yX3_rightBorder wsX3_rightBorder ({ frames := 1, cells := 0, slots := 0, locals := 24 }) [.ref al] [oL al wide high border pattern] (fun (z : Int) (u : Unit) => (z = 12 - border)) (fun u : Unit => [oL al wide high border pattern]) 0 0 := by
  refine Ci_of (cc := cX3_rightBorder) (nL := 1) (ret := (some .int)) (lv0 := [(0, .ref al)]) RX3 "rightBorder" (by decide +kernel) rfl (Nat.le_of_ble_eq_true rfl) rfl (fun p9 e9 s9 m9 ar9 be9 me9 c9 A9 Q9 hQ hC => ?_)
  have iX3 : ∀ w ∈ wsX30, w ∈ wsX3_rightBorder := by decide +kernel
  have L0 : Cond.fieldLink RX3 18 "Groutline$Layout" "border" "I" ∈ wsX3_rightBorder := by decide +kernel
  refine v_bipush hC 2 dX3_rightBorder_0 rfl rfl ?_
  refine v_aload_n hC 3 0 dX3_rightBorder_2 rfl rfl rfl ?_
  refine v_get hC 6 0 2 (C := RX3) (T := TX3) (N := 4) dX3_rightBorder_3 rfl iX3 L0 rfl rfl (by decide) rfl ?_
  refine v_isub hC 7 (12 - border) dX3_rightBorder_6 rfl rfl ?_
  exact v_iret hC hQ () [0] dX3_rightBorder_7 rfl rfl ⟨by decide, by decide⟩ (by (try dsimp only); all_goals (first | rfl | omega))

set_option maxHeartbeats 4000000 in
set_option maxRecDepth 100000 in
theorem c_X3_lowerBorder (lx : Launch) (D : va_G) (cs : Nat → ClassId) (al : Nat) (wide : Int) (high : Int) (border : Int) (pattern : Int)  : Ci lx D cs yX3_lowerBorder wsX3_lowerBorder ({ frames := 1, cells := 0, slots := 0, locals := 24 }) [.ref al] [oL al wide high border pattern] (fun (z : Int) (u : Unit) => (z = 8 - border)) (fun u : Unit => [oL al wide high border pattern]) 0 0 := by
  refine Ci_of (cc := cX3_lowerBorder) (nL := 1) (ret := (some .int)) (lv0 := [(0, .ref al)]) RX3 "lowerBorder" (by decide +kernel) rfl (Nat.le_of_ble_eq_true rfl) rfl (fun p9 e9 s9 m9 ar9 be9 me9 c9 A9 Q9 hQ hC => ?_)
  have iX3 : ∀ w ∈ wsX30, w ∈ wsX3_lowerBorder := by decide +kernel
  have L0 : Cond.fieldLink RX3 18 "Groutline$Layout" "border" "I" ∈ wsX3_lowerBorder := by decide +kernel
  refine v_bipush hC 2 dX3_lowerBorder_0 rfl rfl ?_
  refine v_aload_n hC 3 0 dX3_lowerBorder_2 rfl rfl rfl ?_
  refine v_get hC 6 0 2 (C := RX3) (T := TX3) (N := 4) dX3_lowerBorder_3 rfl iX3 L0 rfl rfl (by decide) rfl ?_
  refine v_isub hC 7 (8 - border) dX3_lowerBorder_6 rfl rfl ?_
  exact v_iret hC hQ () [0] dX3_lowerBorder_7 rfl rfl ⟨by decide, by decide⟩ (by (try dsimp only); all_goals (first | rfl | omega))

set_option maxHeartbeats 4000000 in
set_option maxRecDepth 100000 in
theorem c_X3_isBorder (lx : Launch) (D : va_G) (cs : Nat → ClassId) (al : Nat) (wide : Int) (high : Int) (border : Int) (pattern : Int) (x : Int) (y : Int) (hb : 0 ≤ border ∧ border ≤ 2) (hx : -2147483648 ≤ x ∧ x < 2147483648) (hy : -2147483648 ≤ y ∧ y < 2147483648) : Ci lx D cs yX3_isBorder wsX3_isBorder ({ frames := 2, cells := 0, slots := 0, locals := 44 }) [.ref al, .int (iI x), .int (iI y)] [oL al wide high border pattern] (fun (z : Int) (u : Unit) => (z = 0 ∨ z = 1) ∧ (z = 1 ↔ x < border ∨ 12 - border ≤ x ∨ y < border ∨ 8 - border ≤ y)) (fun u : Unit => [oL al wide high border pattern]) 0 0 := by
  refine Ci_of (cc := cX3_isBorder) (nL := 3) (ret := (some .boolean)) (lv0 := [(0, .ref al), (1, .int (iI x)), (2, .int (iI y))]) RX3 "isBorder" (by decide +kernel) rfl (Nat.le_of_ble_eq_true rfl) rfl (fun p9 e9 s9 m9 ar9 be9 me9 c9 A9 Q9 hQ hC => ?_)
  have iX3 : ∀ w ∈ wsX30, w ∈ wsX3_isBorder := by decide +kernel
  have L0 : Cond.fieldLink RX3 18 "Groutline$Layout" "border" "I" ∈ wsX3_isBorder := by decide +kernel
  refine v_iload_n hC 1 1 dX3_isBorder_0 rfl rfl rfl ?_
  refine v_aload_n hC 2 0 dX3_isBorder_1 rfl rfl rfl ?_
  refine v_get hC 5 0 2 (C := RX3) (T := TX3) (N := 4) dX3_isBorder_2 rfl iX3 L0 rfl rfl (by decide) rfl ?_
  refine v_icmp_lt hC 32 8 dX3_isBorder_5 (by decide) rfl (by omega) (by omega) (fun c_5 => ?_) (fun c_5 => ?_)
  · skip
    refine v_iconst hC 33 dX3_isBorder_32 rfl ?_
    refine v_goto hC 37 dX3_isBorder_33 (by decide) ?_
    exact v_zret hC hQ () [0] dX3_isBorder_37 (by omega) rfl rfl ⟨by decide, by decide⟩ ⟨by (try dsimp only); all_goals (omega), by (try dsimp only); all_goals (omega)⟩
  · skip
    refine v_iload_n hC 9 1 dX3_isBorder_8 rfl rfl rfl ?_
    refine v_aload_n hC 10 0 dX3_isBorder_9 rfl rfl rfl ?_
    refine v_callVi hC 13 0 [0] [] [] (As := []) (rest := [.int (iI x)]) (c_X3_rightBorder lx D cs al wide high border pattern ) dX3_isBorder_10 rfl rfl 0 rfl rfl gX3_isBorder_X3_rightBorder rfl rfl rfl (by decide +kernel) ⟨by decide, by decide⟩ rfl rfl rfl rfl (by decide) rfl (Nat.le_of_ble_eq_true rfl) ⟨rfl, rfl⟩ ⟨by decide, by decide⟩ (fun z10 u10 h10 => ?_)
    (try dsimp only at h10)
    subst h10
    show V p9 lx e9 ({ frames := 2, cells := 0, slots := 0, locals := 44 }) s9 m9 ar9 be9 me9 c9 Q9 D A9 s9.heap 3 0 0 [oL al wide high border pattern] [(0, .ref al), (1, .int (iI x)), (2, .int (iI y))] 13 [.int (iI (12 - border)), .int (iI x)]
    refine v_icmp_ge hC 32 16 dX3_isBorder_13 (by decide) rfl (by omega) (by omega) (fun c_13 => ?_) (fun c_13 => ?_)
    · skip
      refine v_iconst hC 33 dX3_isBorder_32 rfl ?_
      refine v_goto hC 37 dX3_isBorder_33 (by decide) ?_
      exact v_zret hC hQ () [0] dX3_isBorder_37 (by omega) rfl rfl ⟨by decide, by decide⟩ ⟨by (try dsimp only); all_goals (omega), by (try dsimp only); all_goals (omega)⟩
    · skip
      refine v_iload_n hC 17 2 dX3_isBorder_16 rfl rfl rfl ?_
      refine v_aload_n hC 18 0 dX3_isBorder_17 rfl rfl rfl ?_
      refine v_get hC 21 0 2 (C := RX3) (T := TX3) (N := 4) dX3_isBorder_18 rfl iX3 L0 rfl rfl (by decide) rfl ?_
      refine v_icmp_lt hC 32 24 dX3_isBorder_21 (by decide) rfl (by omega) (by omega) (fun c_21 => ?_) (fun c_21 => ?_)
      · skip
        refine v_iconst hC 33 dX3_isBorder_32 rfl ?_
        refine v_goto hC 37 dX3_isBorder_33 (by decide) ?_
        exact v_zret hC hQ () [0] dX3_isBorder_37 (by omega) rfl rfl ⟨by decide, by decide⟩ ⟨by (try dsimp only); all_goals (omega), by (try dsimp only); all_goals (omega)⟩
      · skip
        refine v_iload_n hC 25 2 dX3_isBorder_24 rfl rfl rfl ?_
        refine v_aload_n hC 26 0 dX3_isBorder_25 rfl rfl rfl ?_
        refine v_callVi hC 29 0 [0] [] [] (As := []) (rest := [.int (iI y)]) (c_X3_lowerBorder lx D cs al wide high border pattern ) dX3_isBorder_26 rfl rfl 0 rfl rfl gX3_isBorder_X3_lowerBorder rfl rfl rfl (by decide +kernel) ⟨by decide, by decide⟩ rfl rfl rfl rfl (by decide) rfl (Nat.le_of_ble_eq_true rfl) ⟨rfl, rfl⟩ ⟨by decide, by decide⟩ (fun z26 u26 h26 => ?_)
        (try dsimp only at h26)
        subst h26
        show V p9 lx e9 ({ frames := 2, cells := 0, slots := 0, locals := 44 }) s9 m9 ar9 be9 me9 c9 Q9 D A9 s9.heap 3 0 0 [oL al wide high border pattern] [(0, .ref al), (1, .int (iI x)), (2, .int (iI y))] 29 [.int (iI (8 - border)), .int (iI y)]
        refine v_icmp_lt hC 36 32 dX3_isBorder_29 (by decide) rfl (by omega) (by omega) (fun c_29 => ?_) (fun c_29 => ?_)
        · skip
          refine v_iconst hC 37 dX3_isBorder_36 rfl ?_
          exact v_zret hC hQ () [0] dX3_isBorder_37 (by omega) rfl rfl ⟨by decide, by decide⟩ ⟨by (try dsimp only); all_goals (omega), by (try dsimp only); all_goals (omega)⟩
        · skip
          refine v_iconst hC 33 dX3_isBorder_32 rfl ?_
          refine v_goto hC 37 dX3_isBorder_33 (by decide) ?_
          exact v_zret hC hQ () [0] dX3_isBorder_37 (by omega) rfl rfl ⟨by decide, by decide⟩ ⟨by (try dsimp only); all_goals (omega), by (try dsimp only); all_goals (omega)⟩

set_option maxHeartbeats 4000000 in
set_option maxRecDepth 100000 in
theorem c_X3_courseOfRow (lx : Launch) (D : va_G) (cs : Nat → ClassId) (al : Nat) (wide : Int) (high : Int) (border : Int) (pattern : Int) (y : Int) (hh : 1 ≤ high ∧ high ≤ 4) (hb : 0 ≤ border ∧ border ≤ 2) (hy : border ≤ y ∧ y < 100) : Ci lx D cs yX3_courseOfRow wsX3_courseOfRow ({ frames := 2, cells := 0, slots := 0, locals := 45 }) [.ref al, .int (iI y)] [oL al wide high border pattern] (fun (z : Int) (u : Unit) => (z = (y - border) / high)) (fun u : Unit => [oL al wide high border pattern]) 0 0 := by
  refine Ci_of (cc := cX3_courseOfRow) (nL := 2) (ret := (some .int)) (lv0 := [(0, .ref al), (1, .int (iI y))]) RX3 "courseOfRow" (by decide +kernel) rfl (Nat.le_of_ble_eq_true rfl) rfl (fun p9 e9 s9 m9 ar9 be9 me9 c9 A9 Q9 hQ hC => ?_)
  have iX3 : ∀ w ∈ wsX30, w ∈ wsX3_courseOfRow := by decide +kernel
  have L0 : Cond.fieldLink RX3 15 "Groutline$Layout" "high" "I" ∈ wsX3_courseOfRow := by decide +kernel
  have L1 : Cond.fieldLink RX3 18 "Groutline$Layout" "border" "I" ∈ wsX3_courseOfRow := by decide +kernel
  have L2 : Cond.initialized yX7_timesIn.cls ∈ wsX3_courseOfRow := by decide +kernel
  have L3 : Cond.static yX7_timesIn ∈ wsX3_courseOfRow := by decide +kernel
  refine v_aload_n hC 1 0 dX3_courseOfRow_0 rfl rfl rfl ?_
  refine v_get hC 4 0 1 (C := RX3) (T := TX3) (N := 4) dX3_courseOfRow_1 rfl iX3 L0 rfl rfl (by decide) rfl ?_
  refine v_iload_n hC 5 1 dX3_courseOfRow_4 rfl rfl rfl ?_
  refine v_aload_n hC 6 0 dX3_courseOfRow_5 rfl rfl rfl ?_
  refine v_get hC 9 0 2 (C := RX3) (T := TX3) (N := 4) dX3_courseOfRow_6 rfl iX3 L1 rfl rfl (by decide) rfl ?_
  refine v_isub hC 10 (y - border) dX3_courseOfRow_9 rfl rfl ?_
  refine v_callSNi hC 13 2 [] [0] [oL al wide high border pattern] (As := [.int (iI high), .int (iI (y - border))]) (rest := []) (c_X7_timesIn lx D cs high (y - border) (by omega) (by omega)) dX3_courseOfRow_10 rfl rfl gX3_courseOfRow_X7_timesIn_n31 L2 L3 RX7 (by decide +kernel) rfl rfl rfl (by decide +kernel) ⟨by decide, by decide⟩ rfl rfl rfl rfl (by decide) rfl (Nat.le_of_ble_eq_true rfl) ⟨rfl, rfl⟩ ⟨by decide, by decide⟩ (fun z10 u10 h10 => ?_)
  (try dsimp only at h10)
  subst h10
  show V p9 lx e9 ({ frames := 2, cells := 0, slots := 0, locals := 45 }) s9 m9 ar9 be9 me9 c9 Q9 D A9 s9.heap 2 0 0 [oL al wide high border pattern] [(0, .ref al), (1, .int (iI y))] 13 [.int (iI ((y - border) / high))]
  exact v_iret hC hQ () [0] dX3_courseOfRow_13 rfl rfl ⟨by decide, by decide⟩ (by (try dsimp only); all_goals (first | rfl | omega))

set_option maxHeartbeats 4000000 in
set_option maxRecDepth 100000 in
theorem c_X3_countCourses (lx : Launch) (D : va_G) (cs : Nat → ClassId) (al : Nat) (wide : Int) (high : Int) (border : Int) (pattern : Int) (hh : 1 ≤ high ∧ high ≤ 4) (hb : 0 ≤ border ∧ border ≤ 2) : Ci lx D cs yX3_countCourses wsX3_countCourses ({ frames := 3, cells := 0, slots := 0, locals := 66 }) [.ref al] [oL al wide high border pattern] (fun (z : Int) (u : Unit) => (z = cC high border)) (fun u : Unit => [oL al wide high border pattern]) 0 0 := by
  refine Ci_of (cc := cX3_countCourses) (nL := 1) (ret := (some .int)) (lv0 := [(0, .ref al)]) RX3 "countCourses" (by decide +kernel) rfl (Nat.le_of_ble_eq_true rfl) rfl (fun p9 e9 s9 m9 ar9 be9 me9 c9 A9 Q9 hQ hC => ?_)
  refine v_aload_n hC 1 0 dX3_countCourses_0 rfl rfl rfl ?_
  refine v_aload_n hC 2 0 dX3_countCourses_1 rfl rfl rfl ?_
  refine v_callVi hC 5 0 [0] [] [] (As := []) (rest := [.ref al]) (c_X3_lowerBorder lx D cs al wide high border pattern ) dX3_countCourses_2 rfl rfl 0 rfl rfl gX3_countCourses_X3_lowerBorder rfl rfl rfl (by decide +kernel) ⟨by decide, by decide⟩ rfl rfl rfl rfl (by decide) rfl (Nat.le_of_ble_eq_true rfl) ⟨rfl, rfl⟩ ⟨by decide, by decide⟩ (fun z2 u2 h2 => ?_)
  (try dsimp only at h2)
  subst h2
  show V p9 lx e9 ({ frames := 3, cells := 0, slots := 0, locals := 66 }) s9 m9 ar9 be9 me9 c9 Q9 D A9 s9.heap 1 0 0 [oL al wide high border pattern] [(0, .ref al)] 5 [.int (iI (8 - border)), .ref al]
  refine v_iconst hC 6 dX3_countCourses_5 rfl ?_
  refine v_isub hC 7 (8 - border - 1) dX3_countCourses_6 rfl rfl ?_
  refine v_callVi hC 10 1 [0] [] [] (As := [.int (iI (8 - border - 1))]) (rest := []) (c_X3_courseOfRow lx D cs al wide high border pattern (8 - border - 1) (by omega) (by omega) (by omega)) dX3_countCourses_7 rfl rfl 0 rfl rfl gX3_countCourses_X3_courseOfRow rfl rfl rfl (by decide +kernel) ⟨by decide, by decide⟩ rfl rfl rfl rfl (by decide) rfl (Nat.le_of_ble_eq_true rfl) ⟨rfl, rfl⟩ ⟨by decide, by decide⟩ (fun z7 u7 h7 => ?_)
  (try dsimp only at h7)
  subst h7
  show V p9 lx e9 ({ frames := 3, cells := 0, slots := 0, locals := 66 }) s9 m9 ar9 be9 me9 c9 Q9 D A9 s9.heap 1 0 0 [oL al wide high border pattern] [(0, .ref al)] 10 [.int (iI (((8 - border - 1) - border) / high))]
  refine v_iconst hC 11 dX3_countCourses_10 rfl ?_
  refine v_iadd hC 12 (((8 - border - 1) - border) / high + 1) dX3_countCourses_11 rfl rfl ?_
  exact v_iret hC hQ () [0] dX3_countCourses_12 rfl rfl ⟨by decide, by decide⟩ (by (try dsimp only); all_goals (unfold cC; rw [show 8 - border - 1 - border = 7 - 2 * border by omega]))

set_option maxHeartbeats 4000000 in
set_option maxRecDepth 100000 in
theorem c_X3_countStrips (lx : Launch) (D : va_G) (cs : Nat → ClassId) (al : Nat) (wide : Int) (high : Int) (border : Int) (pattern : Int) (hh : 1 ≤ high ∧ high ≤ 4) (hb : 0 ≤ border ∧ border ≤ 2) : Ci lx D cs yX3_countStrips wsX3_countStrips ({ frames := 4, cells := 0, slots := 0, locals := 86 }) [.ref al] [oL al wide high border pattern] (fun (z : Int) (u : Unit) => (z = nS high border)) (fun u : Unit => [oL al wide high border pattern]) 0 0 := by
  refine Ci_of (cc := cX3_countStrips) (nL := 1) (ret := (some .int)) (lv0 := [(0, .ref al)]) RX3 "countStrips" (by decide +kernel) rfl (Nat.le_of_ble_eq_true rfl) rfl (fun p9 e9 s9 m9 ar9 be9 me9 c9 A9 Q9 hQ hC => ?_)
  have iX3 : ∀ w ∈ wsX30, w ∈ wsX3_countStrips := by decide +kernel
  have L0 : Cond.fieldLink RX3 18 "Groutline$Layout" "border" "I" ∈ wsX3_countStrips := by decide +kernel
  refine v_aload_n hC 1 0 dX3_countStrips_0 rfl rfl rfl ?_
  refine v_get hC 4 0 2 (C := RX3) (T := TX3) (N := 4) dX3_countStrips_1 rfl iX3 L0 rfl rfl (by decide) rfl ?_
  refine v_aload_n hC 5 0 dX3_countStrips_4 rfl rfl rfl ?_
  refine v_callVi hC 8 0 [0] [] [] (As := []) (rest := [.int (iI border)]) (c_X3_countCourses lx D cs al wide high border pattern (by omega) (by omega)) dX3_countStrips_5 rfl rfl 0 rfl rfl gX3_countStrips_X3_countCourses rfl rfl rfl (by decide +kernel) ⟨by decide, by decide⟩ rfl rfl rfl rfl (by decide) rfl (Nat.le_of_ble_eq_true rfl) ⟨rfl, rfl⟩ ⟨by decide, by decide⟩ (fun z5 u5 h5 => ?_)
  (try dsimp only at h5)
  subst h5
  show V p9 lx e9 ({ frames := 4, cells := 0, slots := 0, locals := 86 }) s9 m9 ar9 be9 me9 c9 Q9 D A9 s9.heap 1 0 0 [oL al wide high border pattern] [(0, .ref al)] 8 [.int (iI (cC high border)), .int (iI border)]
  refine v_iadd hC 9 (border + (cC high border)) dX3_countStrips_8 rfl rfl ?_
  refine v_aload_n hC 10 0 dX3_countStrips_9 rfl rfl rfl ?_
  refine v_get hC 13 0 2 (C := RX3) (T := TX3) (N := 4) dX3_countStrips_10 rfl iX3 L0 rfl rfl (by decide) rfl ?_
  refine v_iadd hC 14 (border + (cC high border) + border) dX3_countStrips_13 rfl rfl ?_
  exact v_iret hC hQ () [0] dX3_countStrips_14 rfl rfl ⟨by decide, by decide⟩ (by (try dsimp only); all_goals (unfold nS; omega))

set_option maxHeartbeats 4000000 in
set_option maxRecDepth 100000 in
theorem c_X3_hasStrip (lx : Launch) (D : va_G) (cs : Nat → ClassId) (al : Nat) (wide : Int) (high : Int) (border : Int) (pattern : Int) (x : Int) (hh : 1 ≤ high ∧ high ≤ 4) (hb : 0 ≤ border ∧ border ≤ 2) (hx : -2147483648 ≤ x ∧ x < 2147483648) : Ci lx D cs yX3_hasStrip wsX3_hasStrip ({ frames := 5, cells := 0, slots := 0, locals := 106 }) [.ref al, .int (iI x)] [oL al wide high border pattern] (fun (z : Int) (u : Unit) => (z = 0 ∨ z = 1) ∧ (z = 1 ↔ 0 ≤ x ∧ x < nS high border)) (fun u : Unit => [oL al wide high border pattern]) 0 0 := by
  refine Ci_of (cc := cX3_hasStrip) (nL := 2) (ret := (some .boolean)) (lv0 := [(0, .ref al), (1, .int (iI x))]) RX3 "hasStrip" (by decide +kernel) rfl (Nat.le_of_ble_eq_true rfl) rfl (fun p9 e9 s9 m9 ar9 be9 me9 c9 A9 Q9 hQ hC => ?_)
  have hn9 := nS_rng hh hb
  refine v_iload_n hC 1 1 dX3_hasStrip_0 rfl rfl rfl ?_
  refine v_if_lt hC 16 4 dX3_hasStrip_1 (by decide) rfl (by omega) (fun c_1 => ?_) (fun c_1 => ?_)
  · skip
    refine v_iconst hC 17 dX3_hasStrip_16 rfl ?_
    exact v_zret hC hQ () [0] dX3_hasStrip_17 (by omega) rfl rfl ⟨by decide, by decide⟩ ⟨by (try dsimp only); all_goals (omega), by (try dsimp only); all_goals (omega)⟩
  · skip
    refine v_iload_n hC 5 1 dX3_hasStrip_4 rfl rfl rfl ?_
    refine v_aload_n hC 6 0 dX3_hasStrip_5 rfl rfl rfl ?_
    refine v_callVi hC 9 0 [0] [] [] (As := []) (rest := [.int (iI x)]) (c_X3_countStrips lx D cs al wide high border pattern (by omega) (by omega)) dX3_hasStrip_6 rfl rfl 0 rfl rfl gX3_hasStrip_X3_countStrips rfl rfl rfl (by decide +kernel) ⟨by decide, by decide⟩ rfl rfl rfl rfl (by decide) rfl (Nat.le_of_ble_eq_true rfl) ⟨rfl, rfl⟩ ⟨by decide, by decide⟩ (fun z6 u6 h6 => ?_)
    (try dsimp only at h6)
    subst h6
    show V p9 lx e9 ({ frames := 5, cells := 0, slots := 0, locals := 106 }) s9 m9 ar9 be9 me9 c9 Q9 D A9 s9.heap 2 0 0 [oL al wide high border pattern] [(0, .ref al), (1, .int (iI x))] 9 [.int (iI (nS high border)), .int (iI x)]
    refine v_icmp_ge hC 16 12 dX3_hasStrip_9 (by decide) rfl (by omega) (by omega) (fun c_9 => ?_) (fun c_9 => ?_)
    · skip
      refine v_iconst hC 17 dX3_hasStrip_16 rfl ?_
      exact v_zret hC hQ () [0] dX3_hasStrip_17 (by omega) rfl rfl ⟨by decide, by decide⟩ ⟨by (try dsimp only); all_goals (omega), by (try dsimp only); all_goals (omega)⟩
    · skip
      refine v_iconst hC 13 dX3_hasStrip_12 rfl ?_
      refine v_goto hC 17 dX3_hasStrip_13 (by decide) ?_
      exact v_zret hC hQ () [0] dX3_hasStrip_17 (by omega) rfl rfl ⟨by decide, by decide⟩ ⟨by (try dsimp only); all_goals (omega), by (try dsimp only); all_goals (omega)⟩

set_option maxHeartbeats 4000000 in
set_option maxRecDepth 100000 in
theorem c_X3_stripOfRow (lx : Launch) (D : va_G) (cs : Nat → ClassId) (al : Nat) (wide : Int) (high : Int) (border : Int) (pattern : Int) (y : Int) (hh : 1 ≤ high ∧ high ≤ 4) (hb : 0 ≤ border ∧ border ≤ 2) (hy : 0 ≤ y ∧ y < 8) : Ci lx D cs yX3_stripOfRow wsX3_stripOfRow ({ frames := 4, cells := 0, slots := 0, locals := 86 }) [.ref al, .int (iI y)] [oL al wide high border pattern] (fun (z : Int) (u : Unit) => (z = sR high border y)) (fun u : Unit => [oL al wide high border pattern]) 0 0 := by
  refine Ci_of (cc := cX3_stripOfRow) (nL := 2) (ret := (some .int)) (lv0 := [(0, .ref al), (1, .int (iI y))]) RX3 "stripOfRow" (by decide +kernel) rfl (Nat.le_of_ble_eq_true rfl) rfl (fun p9 e9 s9 m9 ar9 be9 me9 c9 A9 Q9 hQ hC => ?_)
  have hn9 := cC_rng hh hb
  have iX3 : ∀ w ∈ wsX30, w ∈ wsX3_stripOfRow := by decide +kernel
  have L0 : Cond.fieldLink RX3 18 "Groutline$Layout" "border" "I" ∈ wsX3_stripOfRow := by decide +kernel
  refine v_iload_n hC 1 1 dX3_stripOfRow_0 rfl rfl rfl ?_
  refine v_aload_n hC 2 0 dX3_stripOfRow_1 rfl rfl rfl ?_
  refine v_get hC 5 0 2 (C := RX3) (T := TX3) (N := 4) dX3_stripOfRow_2 rfl iX3 L0 rfl rfl (by decide) rfl ?_
  refine v_icmp_ge hC 10 8 dX3_stripOfRow_5 (by decide) rfl (by omega) (by omega) (fun c_5 => ?_) (fun c_5 => ?_)
  · skip
    refine v_iload_n hC 11 1 dX3_stripOfRow_10 rfl rfl rfl ?_
    refine v_aload_n hC 12 0 dX3_stripOfRow_11 rfl rfl rfl ?_
    refine v_callVi hC 15 0 [0] [] [] (As := []) (rest := [.int (iI y)]) (c_X3_lowerBorder lx D cs al wide high border pattern ) dX3_stripOfRow_12 rfl rfl 0 rfl rfl gX3_stripOfRow_X3_lowerBorder rfl rfl rfl (by decide +kernel) ⟨by decide, by decide⟩ rfl rfl rfl rfl (by decide) rfl (Nat.le_of_ble_eq_true rfl) ⟨rfl, rfl⟩ ⟨by decide, by decide⟩ (fun z12 u12 h12 => ?_)
    (try dsimp only at h12)
    subst h12
    show V p9 lx e9 ({ frames := 4, cells := 0, slots := 0, locals := 86 }) s9 m9 ar9 be9 me9 c9 Q9 D A9 s9.heap 2 0 0 [oL al wide high border pattern] [(0, .ref al), (1, .int (iI y))] 15 [.int (iI (8 - border)), .int (iI y)]
    refine v_icmp_lt hC 35 18 dX3_stripOfRow_15 (by decide) rfl (by omega) (by omega) (fun c_15 => ?_) (fun c_15 => ?_)
    · skip
      refine v_aload_n hC 36 0 dX3_stripOfRow_35 rfl rfl rfl ?_
      refine v_get hC 39 0 2 (C := RX3) (T := TX3) (N := 4) dX3_stripOfRow_36 rfl iX3 L0 rfl rfl (by decide) rfl ?_
      refine v_aload_n hC 40 0 dX3_stripOfRow_39 rfl rfl rfl ?_
      refine v_iload_n hC 41 1 dX3_stripOfRow_40 rfl rfl rfl ?_
      refine v_callVi hC 44 1 [0] [] [] (As := [.int (iI y)]) (rest := [.int (iI border)]) (c_X3_courseOfRow lx D cs al wide high border pattern y (by omega) (by omega) (by omega)) dX3_stripOfRow_41 rfl rfl 0 rfl rfl gX3_stripOfRow_X3_courseOfRow rfl rfl rfl (by decide +kernel) ⟨by decide, by decide⟩ rfl rfl rfl rfl (by decide) rfl (Nat.le_of_ble_eq_true rfl) ⟨rfl, rfl⟩ ⟨by decide, by decide⟩ (fun z41 u41 h41 => ?_)
      (try dsimp only at h41)
      subst h41
      show V p9 lx e9 ({ frames := 4, cells := 0, slots := 0, locals := 86 }) s9 m9 ar9 be9 me9 c9 Q9 D A9 s9.heap 2 0 0 [oL al wide high border pattern] [(0, .ref al), (1, .int (iI y))] 44 [.int (iI ((y - border) / high)), .int (iI border)]
      refine v_iadd hC 45 (border + ((y - border) / high)) dX3_stripOfRow_44 rfl rfl ?_
      exact v_iret hC hQ () [0] dX3_stripOfRow_45 rfl rfl ⟨by decide, by decide⟩ (by (try dsimp only); all_goals (unfold sR; (first | (rw [if_pos (by omega)]; done) | (rw [if_neg (by omega), if_pos (by omega)]; done) | (rw [if_neg (by omega), if_neg (by omega)]; done))))
    · skip
      refine v_aload_n hC 19 0 dX3_stripOfRow_18 rfl rfl rfl ?_
      refine v_get hC 22 0 2 (C := RX3) (T := TX3) (N := 4) dX3_stripOfRow_19 rfl iX3 L0 rfl rfl (by decide) rfl ?_
      refine v_aload_n hC 23 0 dX3_stripOfRow_22 rfl rfl rfl ?_
      refine v_callVi hC 26 0 [0] [] [] (As := []) (rest := [.int (iI border)]) (c_X3_countCourses lx D cs al wide high border pattern (by omega) (by omega)) dX3_stripOfRow_23 rfl rfl 0 rfl rfl gX3_stripOfRow_X3_countCourses rfl rfl rfl (by decide +kernel) ⟨by decide, by decide⟩ rfl rfl rfl rfl (by decide) rfl (Nat.le_of_ble_eq_true rfl) ⟨rfl, rfl⟩ ⟨by decide, by decide⟩ (fun z23 u23 h23 => ?_)
      (try dsimp only at h23)
      subst h23
      show V p9 lx e9 ({ frames := 4, cells := 0, slots := 0, locals := 86 }) s9 m9 ar9 be9 me9 c9 Q9 D A9 s9.heap 2 0 0 [oL al wide high border pattern] [(0, .ref al), (1, .int (iI y))] 26 [.int (iI (cC high border)), .int (iI border)]
      refine v_iadd hC 27 (border + (cC high border)) dX3_stripOfRow_26 rfl rfl ?_
      refine v_iload_n hC 28 1 dX3_stripOfRow_27 rfl rfl rfl ?_
      refine v_iadd hC 29 (border + (cC high border) + y) dX3_stripOfRow_28 rfl rfl ?_
      refine v_aload_n hC 30 0 dX3_stripOfRow_29 rfl rfl rfl ?_
      refine v_callVi hC 33 0 [0] [] [] (As := []) (rest := [.int (iI (border + (cC high border) + y))]) (c_X3_lowerBorder lx D cs al wide high border pattern ) dX3_stripOfRow_30 rfl rfl 0 rfl rfl gX3_stripOfRow_X3_lowerBorder rfl rfl rfl (by decide +kernel) ⟨by decide, by decide⟩ rfl rfl rfl rfl (by decide) rfl (Nat.le_of_ble_eq_true rfl) ⟨rfl, rfl⟩ ⟨by decide, by decide⟩ (fun z30 u30 h30 => ?_)
      (try dsimp only at h30)
      subst h30
      show V p9 lx e9 ({ frames := 4, cells := 0, slots := 0, locals := 86 }) s9 m9 ar9 be9 me9 c9 Q9 D A9 s9.heap 2 0 0 [oL al wide high border pattern] [(0, .ref al), (1, .int (iI y))] 33 [.int (iI (8 - border)), .int (iI (border + (cC high border) + y))]
      refine v_isub hC 34 (border + (cC high border) + y - (8 - border)) dX3_stripOfRow_33 rfl rfl ?_
      exact v_iret hC hQ () [0] dX3_stripOfRow_34 rfl rfl ⟨by decide, by decide⟩ (by (try dsimp only); all_goals (unfold sR; (first | (rw [if_pos (by omega)]; done) | (rw [if_neg (by omega), if_pos (by omega)]; done) | (rw [if_neg (by omega), if_neg (by omega)]; done))))
  · skip
    refine v_iload_n hC 9 1 dX3_stripOfRow_8 rfl rfl rfl ?_
    exact v_iret hC hQ () [0] dX3_stripOfRow_9 rfl rfl ⟨by decide, by decide⟩ (by (try dsimp only); all_goals (unfold sR; (first | (rw [if_pos (by omega)]; done) | (rw [if_neg (by omega), if_pos (by omega)]; done) | (rw [if_neg (by omega), if_neg (by omega)]; done))))

set_option maxHeartbeats 4000000 in
set_option maxRecDepth 100000 in
theorem c_X2_set (lx : Launch) (D : va_G) (cs : Nat → ClassId) (af : Nat) (fl : Int) (fr : Int) (ft : Int) (fb : Int) (x1 : Int) (x2 : Int) (x3 : Int) (x4 : Int)  : Cv lx D cs yX2_set wsX2_set ({ frames := 1, cells := 0, slots := 0, locals := 24 }) [.ref af, .int (iI x1), .int (iI x2), .int (iI x3), .int (iI x4)] [oF af fl fr ft fb] (fun (u : Unit) => True) (fun u : Unit => [oF af x1 x2 x3 x4]) 0 0 := by
  refine Cv_of (cc := cX2_set) (nL := 5) (ret := none) (lv0 := [(0, .ref af), (1, .int (iI x1)), (2, .int (iI x2)), (3, .int (iI x3)), (4, .int (iI x4))]) RX2 "set" (by decide +kernel) rfl (Nat.le_of_ble_eq_true rfl) rfl (fun p9 e9 s9 m9 ar9 be9 me9 c9 A9 Q9 hQ hC => ?_)
  have iX2 : ∀ w ∈ wsX20, w ∈ wsX2_set := by decide +kernel
  have L0 : Cond.fieldLink RX2 7 "Groutline$Frame" "left" "I" ∈ wsX2_set := by decide +kernel
  have L1 : Cond.fieldLink RX2 13 "Groutline$Frame" "right" "I" ∈ wsX2_set := by decide +kernel
  have L2 : Cond.fieldLink RX2 16 "Groutline$Frame" "top" "I" ∈ wsX2_set := by decide +kernel
  have L3 : Cond.fieldLink RX2 19 "Groutline$Frame" "bottom" "I" ∈ wsX2_set := by decide +kernel
  refine v_aload_n hC 1 0 dX2_set_0 rfl rfl rfl ?_
  refine v_iload_n hC 2 1 dX2_set_1 rfl rfl rfl ?_
  refine v_put hC 5 0 0 [oF af x1 fr ft fb] (C := RX2) (T := TX2) (N := 4) dX2_set_2 rfl iX2 tyX2_ok nmX2 L0 rfl rfl (by decide) rfl rfl rfl (Nat.le_of_ble_eq_true rfl) rfl ?_
  refine v_aload_n hC 6 0 dX2_set_5 rfl rfl rfl ?_
  refine v_iload_n hC 7 2 dX2_set_6 rfl rfl rfl ?_
  refine v_put hC 10 0 1 [oF af x1 x2 ft fb] (C := RX2) (T := TX2) (N := 4) dX2_set_7 rfl iX2 tyX2_ok nmX2 L1 rfl rfl (by decide) rfl rfl rfl (Nat.le_of_ble_eq_true rfl) rfl ?_
  refine v_aload_n hC 11 0 dX2_set_10 rfl rfl rfl ?_
  refine v_iload_n hC 12 3 dX2_set_11 rfl rfl rfl ?_
  refine v_put hC 15 0 2 [oF af x1 x2 x3 fb] (C := RX2) (T := TX2) (N := 4) dX2_set_12 rfl iX2 tyX2_ok nmX2 L2 rfl rfl (by decide) rfl rfl rfl (Nat.le_of_ble_eq_true rfl) rfl ?_
  refine v_aload_n hC 16 0 dX2_set_15 rfl rfl rfl ?_
  refine v_iload hC 18 4 dX2_set_16 rfl rfl ?_
  refine v_put hC 21 0 3 [oF af x1 x2 x3 x4] (C := RX2) (T := TX2) (N := 4) dX2_set_18 rfl iX2 tyX2_ok nmX2 L3 rfl rfl (by decide) rfl rfl rfl (Nat.le_of_ble_eq_true rfl) rfl ?_
  exact v_vret hC hQ () [0] dX2_set_21 rfl rfl ⟨by decide, by decide⟩ trivial

set_option maxHeartbeats 4000000 in
set_option maxRecDepth 100000 in
theorem c_X3_frame (lx : Launch) (D : va_G) (cs : Nat → ClassId) (al : Nat) (af : Nat) (wide : Int) (high : Int) (border : Int) (pattern : Int) (fl : Int) (fr : Int) (ft : Int) (fb : Int) (x : Int) (y : Int) (hw : 1 ≤ wide ∧ wide ≤ 4) (hh : 1 ≤ high ∧ high ≤ 4) (hb : 0 ≤ border ∧ border ≤ 2) (hp : 0 ≤ pattern ∧ pattern ≤ 1) (hx : 0 ≤ x ∧ x < 12) (hy : 0 ≤ y ∧ y < 8) : Cv lx D cs yX3_frame wsX3_frame ({ frames := 3, cells := 0, slots := 0, locals := 66 }) [.ref al, .int (iI x), .int (iI y), .ref af] [oL al wide high border pattern, oF af fl fr ft fb] (fun (u : Int × Int × Int × Int) => (u.1 = fL wide high border pattern x y) ∧ (u.2.1 = fR wide high border pattern x y) ∧ (u.2.2.1 = fT wide high border pattern x y) ∧ (u.2.2.2 = fB wide high border pattern x y)) (fun u : Int × Int × Int × Int => [oL al wide high border pattern, oF af u.1 u.2.1 u.2.2.1 u.2.2.2]) 0 0 := by
  refine Cv_of (cc := cX3_frame) (nL := 9) (ret := none) (lv0 := [(0, .ref al), (1, .int (iI x)), (2, .int (iI y)), (3, .ref af)]) RX3 "frame" (by decide +kernel) rfl (Nat.le_of_ble_eq_true rfl) rfl (fun p9 e9 s9 m9 ar9 be9 me9 c9 A9 Q9 hQ hC => ?_)
  have iX3 : ∀ w ∈ wsX30, w ∈ wsX3_frame := by decide +kernel
  have L0 : Cond.fieldLink RX3 21 "Groutline$Layout" "pattern" "I" ∈ wsX3_frame := by decide +kernel
  have L1 : Cond.fieldLink RX3 18 "Groutline$Layout" "border" "I" ∈ wsX3_frame := by decide +kernel
  have L2 : Cond.fieldLink RX3 9 "Groutline$Layout" "wide" "I" ∈ wsX3_frame := by decide +kernel
  have L3 : Cond.initialized yX7_timesIn.cls ∈ wsX3_frame := by decide +kernel
  have L4 : Cond.static yX7_timesIn ∈ wsX3_frame := by decide +kernel
  have L5 : Cond.fieldLink RX3 15 "Groutline$Layout" "high" "I" ∈ wsX3_frame := by decide +kernel
  have L6 : Cond.methodLink RX3 55 Lib.Math.max.name ∈ wsX3_frame := by decide +kernel
  have L7 : Cond.static Lib.Math.max.name ∈ wsX3_frame := by decide +kernel
  have L8 : Cond.initialized "java/lang/Math" ∈ wsX3_frame := by decide +kernel
  have L9 : Cond.code Lib.Math.max.name Lib.Math.max.code 2 (some .int) ∈ wsX3_frame := by decide +kernel
  have L10 : Cond.methodLink RX3 60 Lib.Math.min.name ∈ wsX3_frame := by decide +kernel
  have L11 : Cond.static Lib.Math.min.name ∈ wsX3_frame := by decide +kernel
  have L12 : Cond.code Lib.Math.min.name Lib.Math.min.code 2 (some .int) ∈ wsX3_frame := by decide +kernel
  refine v_aload_n hC 1 0 dX3_frame_0 rfl rfl rfl ?_
  refine v_iload_n hC 2 1 dX3_frame_1 rfl rfl rfl ?_
  refine v_iload_n hC 3 2 dX3_frame_2 rfl rfl rfl ?_
  refine v_callVi hC 6 2 [0] [1] [oF af fl fr ft fb] (As := [.int (iI x), .int (iI y)]) (rest := []) (c_X3_isBorder lx D cs al wide high border pattern x y (by omega) (by omega) (by omega)) dX3_frame_3 rfl rfl 0 rfl rfl gX3_frame_X3_isBorder rfl rfl rfl (by decide +kernel) ⟨by decide, by decide⟩ rfl rfl rfl rfl (by decide) rfl (Nat.le_of_ble_eq_true rfl) ⟨rfl, rfl⟩ ⟨by decide, by decide⟩ (fun z3 u3 h3 => ?_)
  (try dsimp only at h3)
  obtain ⟨h3_1, h3_2⟩ := h3
  show V p9 lx e9 ({ frames := 3, cells := 0, slots := 0, locals := 66 }) s9 m9 ar9 be9 me9 c9 Q9 D A9 s9.heap 9 0 0 [oF af fl fr ft fb, oL al wide high border pattern] [(0, .ref al), (1, .int (iI x)), (2, .int (iI y)), (3, .ref af)] 6 [.int (iI z3)]
  refine v_if_eq hC 22 9 dX3_frame_6 (by decide) rfl (by omega) (fun c_6 => ?_) (fun c_6 => ?_)
  · skip
    refine v_aload_n hC 23 0 dX3_frame_22 rfl rfl rfl ?_
    refine v_iload_n hC 24 2 dX3_frame_23 rfl rfl rfl ?_
    refine v_callVi hC 27 1 [1] [0] [oF af fl fr ft fb] (As := [.int (iI y)]) (rest := []) (c_X3_courseOfRow lx D cs al wide high border pattern y (by omega) (by omega) (by omega)) dX3_frame_24 rfl rfl 1 rfl rfl gX3_frame_X3_courseOfRow rfl rfl rfl (by decide +kernel) ⟨by decide, by decide⟩ rfl rfl rfl rfl (by decide) rfl (Nat.le_of_ble_eq_true rfl) ⟨rfl, rfl⟩ ⟨by decide, by decide⟩ (fun z24 u24 h24 => ?_)
    (try dsimp only at h24)
    subst h24
    show V p9 lx e9 ({ frames := 3, cells := 0, slots := 0, locals := 66 }) s9 m9 ar9 be9 me9 c9 Q9 D A9 s9.heap 9 0 0 [oF af fl fr ft fb, oL al wide high border pattern] [(0, .ref al), (1, .int (iI x)), (2, .int (iI y)), (3, .ref af)] 27 [.int (iI ((y - border) / high))]
    refine v_istore hC 29 [(4, .int (iI ((y - border) / high))), (0, .ref al), (1, .int (iI x)), (2, .int (iI y)), (3, .ref af)] dX3_frame_27 rfl (by decide) rfl ?_
    refine v_aload_n hC 30 1 dX3_frame_29 rfl rfl rfl ?_
    refine v_get hC 33 1 3 (C := RX3) (T := TX3) (N := 4) dX3_frame_30 rfl iX3 L0 rfl rfl (by decide) rfl ?_
    refine v_iconst hC 34 dX3_frame_33 rfl ?_
    refine v_icmp_ne hC 49 37 dX3_frame_34 (by decide) rfl (by omega) (by omega) (fun c_34 => ?_) (fun c_34 => ?_)
    · skip
      refine v_iconst hC 50 dX3_frame_49 rfl ?_
      refine v_istore hC 52 [(5, .int (iI 0)), (4, .int (iI ((y - border) / high))), (0, .ref al), (1, .int (iI x)), (2, .int (iI y)), (3, .ref af)] dX3_frame_50 rfl (by decide) rfl ?_
      refine v_aload_n hC 53 2 dX3_frame_52 rfl rfl rfl ?_
      refine v_get hC 56 1 2 (C := RX3) (T := TX3) (N := 4) dX3_frame_53 rfl iX3 L1 rfl rfl (by decide) rfl ?_
      refine v_iload hC 58 0 dX3_frame_56 rfl rfl ?_
      refine v_if_eq hC 70 61 dX3_frame_58 (by decide) rfl (by omega) (fun c_58 => ?_) (fun c_58 => ?_)
      · skip
        refine v_iconst hC 71 dX3_frame_70 rfl ?_
        refine v_isub hC 72 (border - 0) dX3_frame_71 rfl rfl ?_
        have cut_72 : ∀ (fs : Int), (fs = border - shf wide high border pattern y) → V p9 lx e9 ({ frames := 3, cells := 0, slots := 0, locals := 66 }) s9 m9 ar9 be9 me9 c9 Q9 D A9 s9.heap 9 0 0 [oF af fl fr ft fb, oL al wide high border pattern] [(0, .ref al), (1, .int (iI x)), (2, .int (iI y)), (3, .ref af), (4, .int (iI ((y - border) / high)))] 72 [.int (iI fs)] := by
          intro fs hfs
          refine v_istore hC 74 [(6, .int (iI fs)), (0, .ref al), (1, .int (iI x)), (2, .int (iI y)), (3, .ref af), (4, .int (iI ((y - border) / high)))] dX3_frame_72 rfl (by decide) rfl ?_
          refine v_iload hC 76 0 dX3_frame_74 rfl rfl ?_
          refine v_aload_n hC 77 1 dX3_frame_76 rfl rfl rfl ?_
          refine v_get hC 80 1 0 (C := RX3) (T := TX3) (N := 4) dX3_frame_77 rfl iX3 L2 rfl rfl (by decide) rfl ?_
          refine v_iload_n hC 81 2 dX3_frame_80 rfl rfl rfl ?_
          refine v_iload hC 83 0 dX3_frame_81 rfl rfl ?_
          refine v_isub hC 84 (x - fs) dX3_frame_83 rfl rfl ?_
          have hs9 := shf_rng (high := high) (border := border) (pattern := pattern) (y := y) hw
          refine v_callSNi hC 87 2 [] [0, 1] [oF af fl fr ft fb, oL al wide high border pattern] (As := [.int (iI wide), .int (iI (x - fs))]) (rest := [.int (iI fs)]) (c_X7_timesIn lx D cs wide (x - fs) (by omega) (by omega)) dX3_frame_84 rfl rfl gX3_frame_X7_timesIn_n31 L3 L4 RX7 (by decide +kernel) rfl rfl rfl (by decide +kernel) ⟨by decide, by decide⟩ rfl rfl rfl rfl (by decide) rfl (Nat.le_of_ble_eq_true rfl) ⟨rfl, rfl⟩ ⟨by decide, by decide⟩ (fun z84 u84 h84 => ?_)
          (try dsimp only at h84)
          subst h84
          have hd9 := dm_rng (t := x - fs) (w := wide) (by omega) hw.1
          have hd8 := dm_rng (t := y - border) (w := high) (by omega) hh.1
          show V p9 lx e9 ({ frames := 3, cells := 0, slots := 0, locals := 66 }) s9 m9 ar9 be9 me9 c9 Q9 D A9 s9.heap 9 0 0 [oF af fl fr ft fb, oL al wide high border pattern] [(6, .int (iI fs)), (0, .ref al), (1, .int (iI x)), (2, .int (iI y)), (3, .ref af), (4, .int (iI ((y - border) / high)))] 87 [.int (iI ((x - fs) / wide)), .int (iI fs)]
          refine v_aload_n hC 88 1 dX3_frame_87 rfl rfl rfl ?_
          refine v_get hC 91 1 0 (C := RX3) (T := TX3) (N := 4) dX3_frame_88 rfl iX3 L2 rfl rfl (by decide) rfl ?_
          refine v_imul hC 92 (((x - fs) / wide) * wide) dX3_frame_91 rfl rfl ?_
          refine v_iadd hC 93 (fs + (((x - fs) / wide) * wide)) dX3_frame_92 rfl rfl ?_
          refine v_istore hC 95 [(7, .int (iI (fs + (((x - fs) / wide) * wide)))), (6, .int (iI fs)), (0, .ref al), (1, .int (iI x)), (2, .int (iI y)), (3, .ref af), (4, .int (iI ((y - border) / high)))] dX3_frame_93 rfl (by decide) rfl ?_
          refine v_aload_n hC 96 2 dX3_frame_95 rfl rfl rfl ?_
          refine v_get hC 99 1 2 (C := RX3) (T := TX3) (N := 4) dX3_frame_96 rfl iX3 L1 rfl rfl (by decide) rfl ?_
          refine v_iload hC 101 6 dX3_frame_99 rfl rfl ?_
          refine v_aload_n hC 102 2 dX3_frame_101 rfl rfl rfl ?_
          refine v_get hC 105 1 1 (C := RX3) (T := TX3) (N := 4) dX3_frame_102 rfl iX3 L5 rfl rfl (by decide) rfl ?_
          refine v_imul hC 106 (((y - border) / high) * high) dX3_frame_105 rfl rfl ?_
          refine v_iadd hC 107 (border + (((y - border) / high) * high)) dX3_frame_106 rfl rfl ?_
          refine v_istore hC 109 [(8, .int (iI (border + (((y - border) / high) * high)))), (7, .int (iI (fs + (((x - fs) / wide) * wide)))), (6, .int (iI fs)), (0, .ref al), (1, .int (iI x)), (2, .int (iI y)), (3, .ref af), (4, .int (iI ((y - border) / high)))] dX3_frame_107 rfl (by decide) rfl ?_
          refine v_aload_n hC 110 6 dX3_frame_109 rfl rfl rfl ?_
          refine v_iload hC 112 1 dX3_frame_110 rfl rfl ?_
          refine v_aload_n hC 113 3 dX3_frame_112 rfl rfl rfl ?_
          refine v_get hC 116 1 2 (C := RX3) (T := TX3) (N := 4) dX3_frame_113 rfl iX3 L1 rfl rfl (by decide) rfl ?_
          refine v_mmax hC 119 dX3_frame_116 rfl L6 L7 L8 L9 ⟨by decide, Nat.le_of_ble_eq_true rfl, by decide, by decide⟩ (by omega) (by omega) ?_
          refine v_iload hC 121 1 dX3_frame_119 rfl rfl ?_
          refine v_aload_n hC 122 3 dX3_frame_121 rfl rfl rfl ?_
          refine v_get hC 125 1 0 (C := RX3) (T := TX3) (N := 4) dX3_frame_122 rfl iX3 L2 rfl rfl (by decide) rfl ?_
          refine v_iadd hC 126 (fs + (((x - fs) / wide) * wide) + wide) dX3_frame_125 rfl rfl ?_
          refine v_aload_n hC 127 3 dX3_frame_126 rfl rfl rfl ?_
          refine v_callVi hC 130 0 [1] [0] [oF af fl fr ft fb] (As := []) (rest := [.int (iI (fs + (((x - fs) / wide) * wide) + wide)), .int (iI (max (fs + (((x - fs) / wide) * wide)) border)), .ref af]) (c_X3_rightBorder lx D cs al wide high border pattern ) dX3_frame_127 rfl rfl 1 rfl rfl gX3_frame_X3_rightBorder rfl rfl rfl (by decide +kernel) ⟨by decide, by decide⟩ rfl rfl rfl rfl (by decide) rfl (Nat.le_of_ble_eq_true rfl) ⟨rfl, rfl⟩ ⟨by decide, by decide⟩ (fun z127 u127 h127 => ?_)
          (try dsimp only at h127)
          subst h127
          show V p9 lx e9 ({ frames := 3, cells := 0, slots := 0, locals := 66 }) s9 m9 ar9 be9 me9 c9 Q9 D A9 s9.heap 9 0 0 [oF af fl fr ft fb, oL al wide high border pattern] [(8, .int (iI (border + (((y - border) / high) * high)))), (7, .int (iI (fs + (((x - fs) / wide) * wide)))), (6, .int (iI fs)), (0, .ref al), (1, .int (iI x)), (2, .int (iI y)), (3, .ref af), (4, .int (iI ((y - border) / high)))] 130 [.int (iI (12 - border)), .int (iI (fs + (((x - fs) / wide) * wide) + wide)), .int (iI (max (fs + (((x - fs) / wide) * wide)) border)), .ref af]
          refine v_mmin hC 133 dX3_frame_130 rfl L10 L11 L8 L12 ⟨by decide, Nat.le_of_ble_eq_true rfl, by decide, by decide⟩ (by omega) (by omega) ?_
          refine v_iload hC 135 0 dX3_frame_133 rfl rfl ?_
          refine v_iload hC 137 0 dX3_frame_135 rfl rfl ?_
          refine v_aload_n hC 138 3 dX3_frame_137 rfl rfl rfl ?_
          refine v_get hC 141 1 1 (C := RX3) (T := TX3) (N := 4) dX3_frame_138 rfl iX3 L5 rfl rfl (by decide) rfl ?_
          refine v_iadd hC 142 (border + (((y - border) / high) * high) + high) dX3_frame_141 rfl rfl ?_
          refine v_aload_n hC 143 3 dX3_frame_142 rfl rfl rfl ?_
          refine v_callVi hC 146 0 [1] [0] [oF af fl fr ft fb] (As := []) (rest := [.int (iI (border + (((y - border) / high) * high) + high)), .int (iI (border + (((y - border) / high) * high))), .int (iI (min (fs + (((x - fs) / wide) * wide) + wide) (12 - border))), .int (iI (max (fs + (((x - fs) / wide) * wide)) border)), .ref af]) (c_X3_lowerBorder lx D cs al wide high border pattern ) dX3_frame_143 rfl rfl 1 rfl rfl gX3_frame_X3_lowerBorder rfl rfl rfl (by decide +kernel) ⟨by decide, by decide⟩ rfl rfl rfl rfl (by decide) rfl (Nat.le_of_ble_eq_true rfl) ⟨rfl, rfl⟩ ⟨by decide, by decide⟩ (fun z143 u143 h143 => ?_)
          (try dsimp only at h143)
          subst h143
          show V p9 lx e9 ({ frames := 3, cells := 0, slots := 0, locals := 66 }) s9 m9 ar9 be9 me9 c9 Q9 D A9 s9.heap 9 0 0 [oF af fl fr ft fb, oL al wide high border pattern] [(8, .int (iI (border + (((y - border) / high) * high)))), (7, .int (iI (fs + (((x - fs) / wide) * wide)))), (6, .int (iI fs)), (0, .ref al), (1, .int (iI x)), (2, .int (iI y)), (3, .ref af), (4, .int (iI ((y - border) / high)))] 146 [.int (iI (8 - border)), .int (iI (border + (((y - border) / high) * high) + high)), .int (iI (border + (((y - border) / high) * high))), .int (iI (min (fs + (((x - fs) / wide) * wide) + wide) (12 - border))), .int (iI (max (fs + (((x - fs) / wide) * wide)) border)), .ref af]
          refine v_mmin hC 149 dX3_frame_146 rfl L10 L11 L8 L12 ⟨by decide, Nat.le_of_ble_eq_true rfl, by decide, by decide⟩ (by omega) (by omega) ?_
          refine v_callVv hC 152 4 [0] [1] [oL al wide high border pattern] (As := [.int (iI (max (fs + (((x - fs) / wide) * wide)) border)), .int (iI (min (fs + (((x - fs) / wide) * wide) + wide) (12 - border))), .int (iI (border + (((y - border) / high) * high))), .int (iI (min (border + (((y - border) / high) * high) + high) (8 - border)))]) (rest := []) (c_X2_set lx D cs af fl fr ft fb (max (fs + (((x - fs) / wide) * wide)) border) (min (fs + (((x - fs) / wide) * wide) + wide) (12 - border)) (border + (((y - border) / high) * high)) (min (border + (((y - border) / high) * high) + high) (8 - border)) ) dX3_frame_149 rfl rfl 0 rfl rfl gX3_frame_X2_set rfl rfl rfl (by decide +kernel) ⟨by decide, by decide⟩ rfl rfl rfl rfl (by decide) rfl (Nat.le_of_ble_eq_true rfl) ⟨rfl, rfl⟩ ⟨by decide, by decide⟩ (fun u149 h149 => ?_)
          (try dsimp only at h149)
          show V p9 lx e9 ({ frames := 3, cells := 0, slots := 0, locals := 66 }) s9 m9 ar9 be9 me9 c9 Q9 D A9 s9.heap 9 0 0 [oL al wide high border pattern, oF af (max (fs + (((x - fs) / wide) * wide)) border) (min (fs + (((x - fs) / wide) * wide) + wide) (12 - border)) (border + (((y - border) / high) * high)) (min (border + (((y - border) / high) * high) + high) (8 - border))] [(8, .int (iI (border + (((y - border) / high) * high)))), (7, .int (iI (fs + (((x - fs) / wide) * wide)))), (6, .int (iI fs)), (0, .ref al), (1, .int (iI x)), (2, .int (iI y)), (3, .ref af), (4, .int (iI ((y - border) / high)))] 152 []
          exact v_vret hC hQ (max (fs + (((x - fs) / wide) * wide)) border, min (fs + (((x - fs) / wide) * wide) + wide) (12 - border), border + (((y - border) / high) * high), min (border + (((y - border) / high) * high) + high) (8 - border)) [0, 1] dX3_frame_152 rfl rfl ⟨by decide, by decide⟩ ⟨by (try dsimp only); all_goals (unfold fL tlL; rw [if_neg (by omega), hfs]), by (try dsimp only); all_goals (unfold fR tlL; rw [if_neg (by omega), hfs]), by (try dsimp only); all_goals (unfold fT; rw [if_neg (by omega)]), by (try dsimp only); all_goals (unfold fB; rw [if_neg (by omega)])⟩
        exact v_sub [0, 1] [2, 3, 4, 5, 1] _ _ rfl rfl rfl (cut_72 (border - 0) (by unfold shf; first | (rw [if_pos (by omega)] <;> omega) | (rw [if_neg (by omega)] <;> omega)))
      · exfalso; exact absurd c_58 (by decide)
    · skip
      refine v_iload hC 39 0 dX3_frame_37 rfl rfl ?_
      refine v_iconst hC 40 dX3_frame_39 rfl ?_
      refine v_iand hC 41 (((y - border) / high) % 2) 2 1 dX3_frame_40 rfl (by decide) (by decide) (by decide) rfl ?_
      refine v_iconst hC 42 dX3_frame_41 rfl ?_
      refine v_icmp_ne hC 49 45 dX3_frame_42 (by decide) rfl (by omega) (by omega) (fun c_42 => ?_) (fun c_42 => ?_)
      · skip
        refine v_iconst hC 50 dX3_frame_49 rfl ?_
        refine v_istore hC 52 [(5, .int (iI 0)), (4, .int (iI ((y - border) / high))), (0, .ref al), (1, .int (iI x)), (2, .int (iI y)), (3, .ref af)] dX3_frame_50 rfl (by decide) rfl ?_
        refine v_aload_n hC 53 2 dX3_frame_52 rfl rfl rfl ?_
        refine v_get hC 56 1 2 (C := RX3) (T := TX3) (N := 4) dX3_frame_53 rfl iX3 L1 rfl rfl (by decide) rfl ?_
        refine v_iload hC 58 0 dX3_frame_56 rfl rfl ?_
        refine v_if_eq hC 70 61 dX3_frame_58 (by decide) rfl (by omega) (fun c_58 => ?_) (fun c_58 => ?_)
        · skip
          refine v_iconst hC 71 dX3_frame_70 rfl ?_
          refine v_isub hC 72 (border - 0) dX3_frame_71 rfl rfl ?_
          have cut_72 : ∀ (fs : Int), (fs = border - shf wide high border pattern y) → V p9 lx e9 ({ frames := 3, cells := 0, slots := 0, locals := 66 }) s9 m9 ar9 be9 me9 c9 Q9 D A9 s9.heap 9 0 0 [oF af fl fr ft fb, oL al wide high border pattern] [(0, .ref al), (1, .int (iI x)), (2, .int (iI y)), (3, .ref af), (4, .int (iI ((y - border) / high)))] 72 [.int (iI fs)] := by
            intro fs hfs
            refine v_istore hC 74 [(6, .int (iI fs)), (0, .ref al), (1, .int (iI x)), (2, .int (iI y)), (3, .ref af), (4, .int (iI ((y - border) / high)))] dX3_frame_72 rfl (by decide) rfl ?_
            refine v_iload hC 76 0 dX3_frame_74 rfl rfl ?_
            refine v_aload_n hC 77 1 dX3_frame_76 rfl rfl rfl ?_
            refine v_get hC 80 1 0 (C := RX3) (T := TX3) (N := 4) dX3_frame_77 rfl iX3 L2 rfl rfl (by decide) rfl ?_
            refine v_iload_n hC 81 2 dX3_frame_80 rfl rfl rfl ?_
            refine v_iload hC 83 0 dX3_frame_81 rfl rfl ?_
            refine v_isub hC 84 (x - fs) dX3_frame_83 rfl rfl ?_
            have hs9 := shf_rng (high := high) (border := border) (pattern := pattern) (y := y) hw
            refine v_callSNi hC 87 2 [] [0, 1] [oF af fl fr ft fb, oL al wide high border pattern] (As := [.int (iI wide), .int (iI (x - fs))]) (rest := [.int (iI fs)]) (c_X7_timesIn lx D cs wide (x - fs) (by omega) (by omega)) dX3_frame_84 rfl rfl gX3_frame_X7_timesIn_n31 L3 L4 RX7 (by decide +kernel) rfl rfl rfl (by decide +kernel) ⟨by decide, by decide⟩ rfl rfl rfl rfl (by decide) rfl (Nat.le_of_ble_eq_true rfl) ⟨rfl, rfl⟩ ⟨by decide, by decide⟩ (fun z84 u84 h84 => ?_)
            (try dsimp only at h84)
            subst h84
            have hd9 := dm_rng (t := x - fs) (w := wide) (by omega) hw.1
            have hd8 := dm_rng (t := y - border) (w := high) (by omega) hh.1
            show V p9 lx e9 ({ frames := 3, cells := 0, slots := 0, locals := 66 }) s9 m9 ar9 be9 me9 c9 Q9 D A9 s9.heap 9 0 0 [oF af fl fr ft fb, oL al wide high border pattern] [(6, .int (iI fs)), (0, .ref al), (1, .int (iI x)), (2, .int (iI y)), (3, .ref af), (4, .int (iI ((y - border) / high)))] 87 [.int (iI ((x - fs) / wide)), .int (iI fs)]
            refine v_aload_n hC 88 1 dX3_frame_87 rfl rfl rfl ?_
            refine v_get hC 91 1 0 (C := RX3) (T := TX3) (N := 4) dX3_frame_88 rfl iX3 L2 rfl rfl (by decide) rfl ?_
            refine v_imul hC 92 (((x - fs) / wide) * wide) dX3_frame_91 rfl rfl ?_
            refine v_iadd hC 93 (fs + (((x - fs) / wide) * wide)) dX3_frame_92 rfl rfl ?_
            refine v_istore hC 95 [(7, .int (iI (fs + (((x - fs) / wide) * wide)))), (6, .int (iI fs)), (0, .ref al), (1, .int (iI x)), (2, .int (iI y)), (3, .ref af), (4, .int (iI ((y - border) / high)))] dX3_frame_93 rfl (by decide) rfl ?_
            refine v_aload_n hC 96 2 dX3_frame_95 rfl rfl rfl ?_
            refine v_get hC 99 1 2 (C := RX3) (T := TX3) (N := 4) dX3_frame_96 rfl iX3 L1 rfl rfl (by decide) rfl ?_
            refine v_iload hC 101 6 dX3_frame_99 rfl rfl ?_
            refine v_aload_n hC 102 2 dX3_frame_101 rfl rfl rfl ?_
            refine v_get hC 105 1 1 (C := RX3) (T := TX3) (N := 4) dX3_frame_102 rfl iX3 L5 rfl rfl (by decide) rfl ?_
            refine v_imul hC 106 (((y - border) / high) * high) dX3_frame_105 rfl rfl ?_
            refine v_iadd hC 107 (border + (((y - border) / high) * high)) dX3_frame_106 rfl rfl ?_
            refine v_istore hC 109 [(8, .int (iI (border + (((y - border) / high) * high)))), (7, .int (iI (fs + (((x - fs) / wide) * wide)))), (6, .int (iI fs)), (0, .ref al), (1, .int (iI x)), (2, .int (iI y)), (3, .ref af), (4, .int (iI ((y - border) / high)))] dX3_frame_107 rfl (by decide) rfl ?_
            refine v_aload_n hC 110 6 dX3_frame_109 rfl rfl rfl ?_
            refine v_iload hC 112 1 dX3_frame_110 rfl rfl ?_
            refine v_aload_n hC 113 3 dX3_frame_112 rfl rfl rfl ?_
            refine v_get hC 116 1 2 (C := RX3) (T := TX3) (N := 4) dX3_frame_113 rfl iX3 L1 rfl rfl (by decide) rfl ?_
            refine v_mmax hC 119 dX3_frame_116 rfl L6 L7 L8 L9 ⟨by decide, Nat.le_of_ble_eq_true rfl, by decide, by decide⟩ (by omega) (by omega) ?_
            refine v_iload hC 121 1 dX3_frame_119 rfl rfl ?_
            refine v_aload_n hC 122 3 dX3_frame_121 rfl rfl rfl ?_
            refine v_get hC 125 1 0 (C := RX3) (T := TX3) (N := 4) dX3_frame_122 rfl iX3 L2 rfl rfl (by decide) rfl ?_
            refine v_iadd hC 126 (fs + (((x - fs) / wide) * wide) + wide) dX3_frame_125 rfl rfl ?_
            refine v_aload_n hC 127 3 dX3_frame_126 rfl rfl rfl ?_
            refine v_callVi hC 130 0 [1] [0] [oF af fl fr ft fb] (As := []) (rest := [.int (iI (fs + (((x - fs) / wide) * wide) + wide)), .int (iI (max (fs + (((x - fs) / wide) * wide)) border)), .ref af]) (c_X3_rightBorder lx D cs al wide high border pattern ) dX3_frame_127 rfl rfl 1 rfl rfl gX3_frame_X3_rightBorder rfl rfl rfl (by decide +kernel) ⟨by decide, by decide⟩ rfl rfl rfl rfl (by decide) rfl (Nat.le_of_ble_eq_true rfl) ⟨rfl, rfl⟩ ⟨by decide, by decide⟩ (fun z127 u127 h127 => ?_)
            (try dsimp only at h127)
            subst h127
            show V p9 lx e9 ({ frames := 3, cells := 0, slots := 0, locals := 66 }) s9 m9 ar9 be9 me9 c9 Q9 D A9 s9.heap 9 0 0 [oF af fl fr ft fb, oL al wide high border pattern] [(8, .int (iI (border + (((y - border) / high) * high)))), (7, .int (iI (fs + (((x - fs) / wide) * wide)))), (6, .int (iI fs)), (0, .ref al), (1, .int (iI x)), (2, .int (iI y)), (3, .ref af), (4, .int (iI ((y - border) / high)))] 130 [.int (iI (12 - border)), .int (iI (fs + (((x - fs) / wide) * wide) + wide)), .int (iI (max (fs + (((x - fs) / wide) * wide)) border)), .ref af]
            refine v_mmin hC 133 dX3_frame_130 rfl L10 L11 L8 L12 ⟨by decide, Nat.le_of_ble_eq_true rfl, by decide, by decide⟩ (by omega) (by omega) ?_
            refine v_iload hC 135 0 dX3_frame_133 rfl rfl ?_
            refine v_iload hC 137 0 dX3_frame_135 rfl rfl ?_
            refine v_aload_n hC 138 3 dX3_frame_137 rfl rfl rfl ?_
            refine v_get hC 141 1 1 (C := RX3) (T := TX3) (N := 4) dX3_frame_138 rfl iX3 L5 rfl rfl (by decide) rfl ?_
            refine v_iadd hC 142 (border + (((y - border) / high) * high) + high) dX3_frame_141 rfl rfl ?_
            refine v_aload_n hC 143 3 dX3_frame_142 rfl rfl rfl ?_
            refine v_callVi hC 146 0 [1] [0] [oF af fl fr ft fb] (As := []) (rest := [.int (iI (border + (((y - border) / high) * high) + high)), .int (iI (border + (((y - border) / high) * high))), .int (iI (min (fs + (((x - fs) / wide) * wide) + wide) (12 - border))), .int (iI (max (fs + (((x - fs) / wide) * wide)) border)), .ref af]) (c_X3_lowerBorder lx D cs al wide high border pattern ) dX3_frame_143 rfl rfl 1 rfl rfl gX3_frame_X3_lowerBorder rfl rfl rfl (by decide +kernel) ⟨by decide, by decide⟩ rfl rfl rfl rfl (by decide) rfl (Nat.le_of_ble_eq_true rfl) ⟨rfl, rfl⟩ ⟨by decide, by decide⟩ (fun z143 u143 h143 => ?_)
            (try dsimp only at h143)
            subst h143
            show V p9 lx e9 ({ frames := 3, cells := 0, slots := 0, locals := 66 }) s9 m9 ar9 be9 me9 c9 Q9 D A9 s9.heap 9 0 0 [oF af fl fr ft fb, oL al wide high border pattern] [(8, .int (iI (border + (((y - border) / high) * high)))), (7, .int (iI (fs + (((x - fs) / wide) * wide)))), (6, .int (iI fs)), (0, .ref al), (1, .int (iI x)), (2, .int (iI y)), (3, .ref af), (4, .int (iI ((y - border) / high)))] 146 [.int (iI (8 - border)), .int (iI (border + (((y - border) / high) * high) + high)), .int (iI (border + (((y - border) / high) * high))), .int (iI (min (fs + (((x - fs) / wide) * wide) + wide) (12 - border))), .int (iI (max (fs + (((x - fs) / wide) * wide)) border)), .ref af]
            refine v_mmin hC 149 dX3_frame_146 rfl L10 L11 L8 L12 ⟨by decide, Nat.le_of_ble_eq_true rfl, by decide, by decide⟩ (by omega) (by omega) ?_
            refine v_callVv hC 152 4 [0] [1] [oL al wide high border pattern] (As := [.int (iI (max (fs + (((x - fs) / wide) * wide)) border)), .int (iI (min (fs + (((x - fs) / wide) * wide) + wide) (12 - border))), .int (iI (border + (((y - border) / high) * high))), .int (iI (min (border + (((y - border) / high) * high) + high) (8 - border)))]) (rest := []) (c_X2_set lx D cs af fl fr ft fb (max (fs + (((x - fs) / wide) * wide)) border) (min (fs + (((x - fs) / wide) * wide) + wide) (12 - border)) (border + (((y - border) / high) * high)) (min (border + (((y - border) / high) * high) + high) (8 - border)) ) dX3_frame_149 rfl rfl 0 rfl rfl gX3_frame_X2_set rfl rfl rfl (by decide +kernel) ⟨by decide, by decide⟩ rfl rfl rfl rfl (by decide) rfl (Nat.le_of_ble_eq_true rfl) ⟨rfl, rfl⟩ ⟨by decide, by decide⟩ (fun u149 h149 => ?_)
            (try dsimp only at h149)
            show V p9 lx e9 ({ frames := 3, cells := 0, slots := 0, locals := 66 }) s9 m9 ar9 be9 me9 c9 Q9 D A9 s9.heap 9 0 0 [oL al wide high border pattern, oF af (max (fs + (((x - fs) / wide) * wide)) border) (min (fs + (((x - fs) / wide) * wide) + wide) (12 - border)) (border + (((y - border) / high) * high)) (min (border + (((y - border) / high) * high) + high) (8 - border))] [(8, .int (iI (border + (((y - border) / high) * high)))), (7, .int (iI (fs + (((x - fs) / wide) * wide)))), (6, .int (iI fs)), (0, .ref al), (1, .int (iI x)), (2, .int (iI y)), (3, .ref af), (4, .int (iI ((y - border) / high)))] 152 []
            exact v_vret hC hQ (max (fs + (((x - fs) / wide) * wide)) border, min (fs + (((x - fs) / wide) * wide) + wide) (12 - border), border + (((y - border) / high) * high), min (border + (((y - border) / high) * high) + high) (8 - border)) [0, 1] dX3_frame_152 rfl rfl ⟨by decide, by decide⟩ ⟨by (try dsimp only); all_goals (unfold fL tlL; rw [if_neg (by omega), hfs]), by (try dsimp only); all_goals (unfold fR tlL; rw [if_neg (by omega), hfs]), by (try dsimp only); all_goals (unfold fT; rw [if_neg (by omega)]), by (try dsimp only); all_goals (unfold fB; rw [if_neg (by omega)])⟩
          exact v_sub [0, 1] [2, 3, 4, 5, 1] _ _ rfl rfl rfl (cut_72 (border - 0) (by unfold shf; first | (rw [if_pos (by omega)] <;> omega) | (rw [if_neg (by omega)] <;> omega)))
        · exfalso; exact absurd c_58 (by decide)
      · skip
        refine v_iconst hC 46 dX3_frame_45 rfl ?_
        refine v_goto hC 50 dX3_frame_46 (by decide) ?_
        refine v_istore hC 52 [(5, .int (iI 1)), (4, .int (iI ((y - border) / high))), (0, .ref al), (1, .int (iI x)), (2, .int (iI y)), (3, .ref af)] dX3_frame_50 rfl (by decide) rfl ?_
        refine v_aload_n hC 53 2 dX3_frame_52 rfl rfl rfl ?_
        refine v_get hC 56 1 2 (C := RX3) (T := TX3) (N := 4) dX3_frame_53 rfl iX3 L1 rfl rfl (by decide) rfl ?_
        refine v_iload hC 58 0 dX3_frame_56 rfl rfl ?_
        refine v_if_eq hC 70 61 dX3_frame_58 (by decide) rfl (by omega) (fun c_58 => ?_) (fun c_58 => ?_)
        · exfalso; exact absurd c_58 (by decide)
        · skip
          refine v_aload_n hC 62 2 dX3_frame_61 rfl rfl rfl ?_
          refine v_get hC 65 1 0 (C := RX3) (T := TX3) (N := 4) dX3_frame_62 rfl iX3 L2 rfl rfl (by decide) rfl ?_
          refine v_iconst hC 66 dX3_frame_65 rfl ?_
          refine v_ishr1 hC 67 (wide / 2) dX3_frame_66 rfl (by omega) rfl ?_
          refine v_goto hC 71 dX3_frame_67 (by decide) ?_
          refine v_isub hC 72 (border - (wide / 2)) dX3_frame_71 rfl rfl ?_
          have cut_72 : ∀ (fs : Int), (fs = border - shf wide high border pattern y) → V p9 lx e9 ({ frames := 3, cells := 0, slots := 0, locals := 66 }) s9 m9 ar9 be9 me9 c9 Q9 D A9 s9.heap 9 0 0 [oF af fl fr ft fb, oL al wide high border pattern] [(0, .ref al), (1, .int (iI x)), (2, .int (iI y)), (3, .ref af), (4, .int (iI ((y - border) / high)))] 72 [.int (iI fs)] := by
            intro fs hfs
            refine v_istore hC 74 [(6, .int (iI fs)), (0, .ref al), (1, .int (iI x)), (2, .int (iI y)), (3, .ref af), (4, .int (iI ((y - border) / high)))] dX3_frame_72 rfl (by decide) rfl ?_
            refine v_iload hC 76 0 dX3_frame_74 rfl rfl ?_
            refine v_aload_n hC 77 1 dX3_frame_76 rfl rfl rfl ?_
            refine v_get hC 80 1 0 (C := RX3) (T := TX3) (N := 4) dX3_frame_77 rfl iX3 L2 rfl rfl (by decide) rfl ?_
            refine v_iload_n hC 81 2 dX3_frame_80 rfl rfl rfl ?_
            refine v_iload hC 83 0 dX3_frame_81 rfl rfl ?_
            refine v_isub hC 84 (x - fs) dX3_frame_83 rfl rfl ?_
            have hs9 := shf_rng (high := high) (border := border) (pattern := pattern) (y := y) hw
            refine v_callSNi hC 87 2 [] [0, 1] [oF af fl fr ft fb, oL al wide high border pattern] (As := [.int (iI wide), .int (iI (x - fs))]) (rest := [.int (iI fs)]) (c_X7_timesIn lx D cs wide (x - fs) (by omega) (by omega)) dX3_frame_84 rfl rfl gX3_frame_X7_timesIn_n31 L3 L4 RX7 (by decide +kernel) rfl rfl rfl (by decide +kernel) ⟨by decide, by decide⟩ rfl rfl rfl rfl (by decide) rfl (Nat.le_of_ble_eq_true rfl) ⟨rfl, rfl⟩ ⟨by decide, by decide⟩ (fun z84 u84 h84 => ?_)
            (try dsimp only at h84)
            subst h84
            have hd9 := dm_rng (t := x - fs) (w := wide) (by omega) hw.1
            have hd8 := dm_rng (t := y - border) (w := high) (by omega) hh.1
            show V p9 lx e9 ({ frames := 3, cells := 0, slots := 0, locals := 66 }) s9 m9 ar9 be9 me9 c9 Q9 D A9 s9.heap 9 0 0 [oF af fl fr ft fb, oL al wide high border pattern] [(6, .int (iI fs)), (0, .ref al), (1, .int (iI x)), (2, .int (iI y)), (3, .ref af), (4, .int (iI ((y - border) / high)))] 87 [.int (iI ((x - fs) / wide)), .int (iI fs)]
            refine v_aload_n hC 88 1 dX3_frame_87 rfl rfl rfl ?_
            refine v_get hC 91 1 0 (C := RX3) (T := TX3) (N := 4) dX3_frame_88 rfl iX3 L2 rfl rfl (by decide) rfl ?_
            refine v_imul hC 92 (((x - fs) / wide) * wide) dX3_frame_91 rfl rfl ?_
            refine v_iadd hC 93 (fs + (((x - fs) / wide) * wide)) dX3_frame_92 rfl rfl ?_
            refine v_istore hC 95 [(7, .int (iI (fs + (((x - fs) / wide) * wide)))), (6, .int (iI fs)), (0, .ref al), (1, .int (iI x)), (2, .int (iI y)), (3, .ref af), (4, .int (iI ((y - border) / high)))] dX3_frame_93 rfl (by decide) rfl ?_
            refine v_aload_n hC 96 2 dX3_frame_95 rfl rfl rfl ?_
            refine v_get hC 99 1 2 (C := RX3) (T := TX3) (N := 4) dX3_frame_96 rfl iX3 L1 rfl rfl (by decide) rfl ?_
            refine v_iload hC 101 6 dX3_frame_99 rfl rfl ?_
            refine v_aload_n hC 102 2 dX3_frame_101 rfl rfl rfl ?_
            refine v_get hC 105 1 1 (C := RX3) (T := TX3) (N := 4) dX3_frame_102 rfl iX3 L5 rfl rfl (by decide) rfl ?_
            refine v_imul hC 106 (((y - border) / high) * high) dX3_frame_105 rfl rfl ?_
            refine v_iadd hC 107 (border + (((y - border) / high) * high)) dX3_frame_106 rfl rfl ?_
            refine v_istore hC 109 [(8, .int (iI (border + (((y - border) / high) * high)))), (7, .int (iI (fs + (((x - fs) / wide) * wide)))), (6, .int (iI fs)), (0, .ref al), (1, .int (iI x)), (2, .int (iI y)), (3, .ref af), (4, .int (iI ((y - border) / high)))] dX3_frame_107 rfl (by decide) rfl ?_
            refine v_aload_n hC 110 6 dX3_frame_109 rfl rfl rfl ?_
            refine v_iload hC 112 1 dX3_frame_110 rfl rfl ?_
            refine v_aload_n hC 113 3 dX3_frame_112 rfl rfl rfl ?_
            refine v_get hC 116 1 2 (C := RX3) (T := TX3) (N := 4) dX3_frame_113 rfl iX3 L1 rfl rfl (by decide) rfl ?_
            refine v_mmax hC 119 dX3_frame_116 rfl L6 L7 L8 L9 ⟨by decide, Nat.le_of_ble_eq_true rfl, by decide, by decide⟩ (by omega) (by omega) ?_
            refine v_iload hC 121 1 dX3_frame_119 rfl rfl ?_
            refine v_aload_n hC 122 3 dX3_frame_121 rfl rfl rfl ?_
            refine v_get hC 125 1 0 (C := RX3) (T := TX3) (N := 4) dX3_frame_122 rfl iX3 L2 rfl rfl (by decide) rfl ?_
            refine v_iadd hC 126 (fs + (((x - fs) / wide) * wide) + wide) dX3_frame_125 rfl rfl ?_
            refine v_aload_n hC 127 3 dX3_frame_126 rfl rfl rfl ?_
            refine v_callVi hC 130 0 [1] [0] [oF af fl fr ft fb] (As := []) (rest := [.int (iI (fs + (((x - fs) / wide) * wide) + wide)), .int (iI (max (fs + (((x - fs) / wide) * wide)) border)), .ref af]) (c_X3_rightBorder lx D cs al wide high border pattern ) dX3_frame_127 rfl rfl 1 rfl rfl gX3_frame_X3_rightBorder rfl rfl rfl (by decide +kernel) ⟨by decide, by decide⟩ rfl rfl rfl rfl (by decide) rfl (Nat.le_of_ble_eq_true rfl) ⟨rfl, rfl⟩ ⟨by decide, by decide⟩ (fun z127 u127 h127 => ?_)
            (try dsimp only at h127)
            subst h127
            show V p9 lx e9 ({ frames := 3, cells := 0, slots := 0, locals := 66 }) s9 m9 ar9 be9 me9 c9 Q9 D A9 s9.heap 9 0 0 [oF af fl fr ft fb, oL al wide high border pattern] [(8, .int (iI (border + (((y - border) / high) * high)))), (7, .int (iI (fs + (((x - fs) / wide) * wide)))), (6, .int (iI fs)), (0, .ref al), (1, .int (iI x)), (2, .int (iI y)), (3, .ref af), (4, .int (iI ((y - border) / high)))] 130 [.int (iI (12 - border)), .int (iI (fs + (((x - fs) / wide) * wide) + wide)), .int (iI (max (fs + (((x - fs) / wide) * wide)) border)), .ref af]
            refine v_mmin hC 133 dX3_frame_130 rfl L10 L11 L8 L12 ⟨by decide, Nat.le_of_ble_eq_true rfl, by decide, by decide⟩ (by omega) (by omega) ?_
            refine v_iload hC 135 0 dX3_frame_133 rfl rfl ?_
            refine v_iload hC 137 0 dX3_frame_135 rfl rfl ?_
            refine v_aload_n hC 138 3 dX3_frame_137 rfl rfl rfl ?_
            refine v_get hC 141 1 1 (C := RX3) (T := TX3) (N := 4) dX3_frame_138 rfl iX3 L5 rfl rfl (by decide) rfl ?_
            refine v_iadd hC 142 (border + (((y - border) / high) * high) + high) dX3_frame_141 rfl rfl ?_
            refine v_aload_n hC 143 3 dX3_frame_142 rfl rfl rfl ?_
            refine v_callVi hC 146 0 [1] [0] [oF af fl fr ft fb] (As := []) (rest := [.int (iI (border + (((y - border) / high) * high) + high)), .int (iI (border + (((y - border) / high) * high))), .int (iI (min (fs + (((x - fs) / wide) * wide) + wide) (12 - border))), .int (iI (max (fs + (((x - fs) / wide) * wide)) border)), .ref af]) (c_X3_lowerBorder lx D cs al wide high border pattern ) dX3_frame_143 rfl rfl 1 rfl rfl gX3_frame_X3_lowerBorder rfl rfl rfl (by decide +kernel) ⟨by decide, by decide⟩ rfl rfl rfl rfl (by decide) rfl (Nat.le_of_ble_eq_true rfl) ⟨rfl, rfl⟩ ⟨by decide, by decide⟩ (fun z143 u143 h143 => ?_)
            (try dsimp only at h143)
            subst h143
            show V p9 lx e9 ({ frames := 3, cells := 0, slots := 0, locals := 66 }) s9 m9 ar9 be9 me9 c9 Q9 D A9 s9.heap 9 0 0 [oF af fl fr ft fb, oL al wide high border pattern] [(8, .int (iI (border + (((y - border) / high) * high)))), (7, .int (iI (fs + (((x - fs) / wide) * wide)))), (6, .int (iI fs)), (0, .ref al), (1, .int (iI x)), (2, .int (iI y)), (3, .ref af), (4, .int (iI ((y - border) / high)))] 146 [.int (iI (8 - border)), .int (iI (border + (((y - border) / high) * high) + high)), .int (iI (border + (((y - border) / high) * high))), .int (iI (min (fs + (((x - fs) / wide) * wide) + wide) (12 - border))), .int (iI (max (fs + (((x - fs) / wide) * wide)) border)), .ref af]
            refine v_mmin hC 149 dX3_frame_146 rfl L10 L11 L8 L12 ⟨by decide, Nat.le_of_ble_eq_true rfl, by decide, by decide⟩ (by omega) (by omega) ?_
            refine v_callVv hC 152 4 [0] [1] [oL al wide high border pattern] (As := [.int (iI (max (fs + (((x - fs) / wide) * wide)) border)), .int (iI (min (fs + (((x - fs) / wide) * wide) + wide) (12 - border))), .int (iI (border + (((y - border) / high) * high))), .int (iI (min (border + (((y - border) / high) * high) + high) (8 - border)))]) (rest := []) (c_X2_set lx D cs af fl fr ft fb (max (fs + (((x - fs) / wide) * wide)) border) (min (fs + (((x - fs) / wide) * wide) + wide) (12 - border)) (border + (((y - border) / high) * high)) (min (border + (((y - border) / high) * high) + high) (8 - border)) ) dX3_frame_149 rfl rfl 0 rfl rfl gX3_frame_X2_set rfl rfl rfl (by decide +kernel) ⟨by decide, by decide⟩ rfl rfl rfl rfl (by decide) rfl (Nat.le_of_ble_eq_true rfl) ⟨rfl, rfl⟩ ⟨by decide, by decide⟩ (fun u149 h149 => ?_)
            (try dsimp only at h149)
            show V p9 lx e9 ({ frames := 3, cells := 0, slots := 0, locals := 66 }) s9 m9 ar9 be9 me9 c9 Q9 D A9 s9.heap 9 0 0 [oL al wide high border pattern, oF af (max (fs + (((x - fs) / wide) * wide)) border) (min (fs + (((x - fs) / wide) * wide) + wide) (12 - border)) (border + (((y - border) / high) * high)) (min (border + (((y - border) / high) * high) + high) (8 - border))] [(8, .int (iI (border + (((y - border) / high) * high)))), (7, .int (iI (fs + (((x - fs) / wide) * wide)))), (6, .int (iI fs)), (0, .ref al), (1, .int (iI x)), (2, .int (iI y)), (3, .ref af), (4, .int (iI ((y - border) / high)))] 152 []
            exact v_vret hC hQ (max (fs + (((x - fs) / wide) * wide)) border, min (fs + (((x - fs) / wide) * wide) + wide) (12 - border), border + (((y - border) / high) * high), min (border + (((y - border) / high) * high) + high) (8 - border)) [0, 1] dX3_frame_152 rfl rfl ⟨by decide, by decide⟩ ⟨by (try dsimp only); all_goals (unfold fL tlL; rw [if_neg (by omega), hfs]), by (try dsimp only); all_goals (unfold fR tlL; rw [if_neg (by omega), hfs]), by (try dsimp only); all_goals (unfold fT; rw [if_neg (by omega)]), by (try dsimp only); all_goals (unfold fB; rw [if_neg (by omega)])⟩
          exact v_sub [0, 1] [2, 3, 4, 5, 1] _ _ rfl rfl rfl (cut_72 (border - (wide / 2)) (by unfold shf; first | (rw [if_pos (by omega)] <;> omega) | (rw [if_neg (by omega)] <;> omega)))
  · skip
    refine v_aload_n hC 10 3 dX3_frame_9 rfl rfl rfl ?_
    refine v_iload_n hC 11 1 dX3_frame_10 rfl rfl rfl ?_
    refine v_iload_n hC 12 1 dX3_frame_11 rfl rfl rfl ?_
    refine v_iconst hC 13 dX3_frame_12 rfl ?_
    refine v_iadd hC 14 (x + 1) dX3_frame_13 rfl rfl ?_
    refine v_iload_n hC 15 2 dX3_frame_14 rfl rfl rfl ?_
    refine v_iload_n hC 16 2 dX3_frame_15 rfl rfl rfl ?_
    refine v_iconst hC 17 dX3_frame_16 rfl ?_
    refine v_iadd hC 18 (y + 1) dX3_frame_17 rfl rfl ?_
    refine v_callVv hC 21 4 [0] [1] [oL al wide high border pattern] (As := [.int (iI x), .int (iI (x + 1)), .int (iI y), .int (iI (y + 1))]) (rest := []) (c_X2_set lx D cs af fl fr ft fb x (x + 1) y (y + 1) ) dX3_frame_18 rfl rfl 0 rfl rfl gX3_frame_X2_set rfl rfl rfl (by decide +kernel) ⟨by decide, by decide⟩ rfl rfl rfl rfl (by decide) rfl (Nat.le_of_ble_eq_true rfl) ⟨rfl, rfl⟩ ⟨by decide, by decide⟩ (fun u18 h18 => ?_)
    (try dsimp only at h18)
    show V p9 lx e9 ({ frames := 3, cells := 0, slots := 0, locals := 66 }) s9 m9 ar9 be9 me9 c9 Q9 D A9 s9.heap 9 0 0 [oL al wide high border pattern, oF af x (x + 1) y (y + 1)] [(0, .ref al), (1, .int (iI x)), (2, .int (iI y)), (3, .ref af)] 21 []
    exact v_vret hC hQ (x, x + 1, y, y + 1) [0, 1] dX3_frame_21 rfl rfl ⟨by decide, by decide⟩ ⟨by (try dsimp only); all_goals (unfold fL; rw [if_pos (by omega)]), by (try dsimp only); all_goals (unfold fR; rw [if_pos (by omega)]), by (try dsimp only); all_goals (unfold fT; rw [if_pos (by omega)]), by (try dsimp only); all_goals (unfold fB; rw [if_pos (by omega)])⟩

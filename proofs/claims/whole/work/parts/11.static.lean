set_option maxHeartbeats 4000000 in
set_option maxRecDepth 100000 in
theorem c_X7_isWithin (lx : Launch) (D : va_G) (cs : Nat → ClassId) (a : Int) (b : Int) (k : Int) (ha : -2147483648 ≤ a ∧ a < 2147483648) (hb : -2147483648 ≤ b ∧ b < 2147483648) (hk : -2147483648 ≤ k ∧ k < 2147483648) : Ci lx D cs yX7_isWithin wsX7_isWithin ({ frames := 1, cells := 0, slots := 0, locals := 24 }) [.int (iI a), .int (iI b), .int (iI k)] [] (fun (z : Int) (u : Unit) => (z = 0 ∨ z = 1) ∧ (z = 1 ↔ b ≤ a ∧ a ≤ k)) (fun u : Unit => []) 0 0 := by
  refine Ci_of (cc := cX7_isWithin) (nL := 3) (ret := (some .boolean)) (lv0 := [(0, .int (iI a)), (1, .int (iI b)), (2, .int (iI k))]) RX7 "isWithin" (by decide +kernel) rfl (Nat.le_of_ble_eq_true rfl) rfl (fun p9 e9 s9 m9 ar9 be9 me9 c9 A9 Q9 hQ hC => ?_)
  refine v_iload_n hC 1 0 dX7_isWithin_0 rfl rfl rfl ?_
  refine v_iload_n hC 2 1 dX7_isWithin_1 rfl rfl rfl ?_
  refine v_icmp_lt hC 14 5 dX7_isWithin_2 (by decide) rfl (by omega) (by omega) (fun c_2 => ?_) (fun c_2 => ?_)
  · skip
    refine v_iconst hC 15 dX7_isWithin_14 rfl ?_
    exact v_zret hC hQ () [] dX7_isWithin_15 (by omega) rfl rfl ⟨by decide, by decide⟩ ⟨by (try dsimp only); all_goals (omega), by (try dsimp only); all_goals (omega)⟩
  · skip
    refine v_iload_n hC 6 0 dX7_isWithin_5 rfl rfl rfl ?_
    refine v_iload_n hC 7 2 dX7_isWithin_6 rfl rfl rfl ?_
    refine v_icmp_gt hC 14 10 dX7_isWithin_7 (by decide) rfl (by omega) (by omega) (fun c_7 => ?_) (fun c_7 => ?_)
    · skip
      refine v_iconst hC 15 dX7_isWithin_14 rfl ?_
      exact v_zret hC hQ () [] dX7_isWithin_15 (by omega) rfl rfl ⟨by decide, by decide⟩ ⟨by (try dsimp only); all_goals (omega), by (try dsimp only); all_goals (omega)⟩
    · skip
      refine v_iconst hC 11 dX7_isWithin_10 rfl ?_
      refine v_goto hC 15 dX7_isWithin_11 (by decide) ?_
      exact v_zret hC hQ () [] dX7_isWithin_15 (by omega) rfl rfl ⟨by decide, by decide⟩ ⟨by (try dsimp only); all_goals (omega), by (try dsimp only); all_goals (omega)⟩

set_option maxHeartbeats 4000000 in
set_option maxRecDepth 100000 in
theorem c_X7_isCell (lx : Launch) (D : va_G) (cs : Nat → ClassId) (a : Int) (b : Int) (ha : -2147483648 ≤ a ∧ a < 2147483648) (hb : -2147483648 ≤ b ∧ b < 2147483648) : Ci lx D cs yX7_isCell wsX7_isCell ({ frames := 1, cells := 0, slots := 0, locals := 24 }) [.int (iI a), .int (iI b)] [] (fun (z : Int) (u : Unit) => (z = 0 ∨ z = 1) ∧ (z = 1 ↔ (0 ≤ a ∧ a < 12) ∧ 0 ≤ b ∧ b < 8)) (fun u : Unit => []) 0 0 := by
  refine Ci_of (cc := cX7_isCell) (nL := 2) (ret := (some .boolean)) (lv0 := [(0, .int (iI a)), (1, .int (iI b))]) RX7 "isCell" (by decide +kernel) rfl (Nat.le_of_ble_eq_true rfl) rfl (fun p9 e9 s9 m9 ar9 be9 me9 c9 A9 Q9 hQ hC => ?_)
  refine v_iload_n hC 1 0 dX7_isCell_0 rfl rfl rfl ?_
  refine v_if_lt hC 24 4 dX7_isCell_1 (by decide) rfl (by omega) (fun c_1 => ?_) (fun c_1 => ?_)
  · skip
    refine v_iconst hC 25 dX7_isCell_24 rfl ?_
    exact v_zret hC hQ () [] dX7_isCell_25 (by omega) rfl rfl ⟨by decide, by decide⟩ ⟨by (try dsimp only); all_goals (omega), by (try dsimp only); all_goals (omega)⟩
  · skip
    refine v_iload_n hC 5 0 dX7_isCell_4 rfl rfl rfl ?_
    refine v_bipush hC 7 dX7_isCell_5 rfl rfl ?_
    refine v_icmp_ge hC 24 10 dX7_isCell_7 (by decide) rfl (by omega) (by omega) (fun c_7 => ?_) (fun c_7 => ?_)
    · skip
      refine v_iconst hC 25 dX7_isCell_24 rfl ?_
      exact v_zret hC hQ () [] dX7_isCell_25 (by omega) rfl rfl ⟨by decide, by decide⟩ ⟨by (try dsimp only); all_goals (omega), by (try dsimp only); all_goals (omega)⟩
    · skip
      refine v_iload_n hC 11 1 dX7_isCell_10 rfl rfl rfl ?_
      refine v_if_lt hC 24 14 dX7_isCell_11 (by decide) rfl (by omega) (fun c_11 => ?_) (fun c_11 => ?_)
      · skip
        refine v_iconst hC 25 dX7_isCell_24 rfl ?_
        exact v_zret hC hQ () [] dX7_isCell_25 (by omega) rfl rfl ⟨by decide, by decide⟩ ⟨by (try dsimp only); all_goals (omega), by (try dsimp only); all_goals (omega)⟩
      · skip
        refine v_iload_n hC 15 1 dX7_isCell_14 rfl rfl rfl ?_
        refine v_bipush hC 17 dX7_isCell_15 rfl rfl ?_
        refine v_icmp_ge hC 24 20 dX7_isCell_17 (by decide) rfl (by omega) (by omega) (fun c_17 => ?_) (fun c_17 => ?_)
        · skip
          refine v_iconst hC 25 dX7_isCell_24 rfl ?_
          exact v_zret hC hQ () [] dX7_isCell_25 (by omega) rfl rfl ⟨by decide, by decide⟩ ⟨by (try dsimp only); all_goals (omega), by (try dsimp only); all_goals (omega)⟩
        · skip
          refine v_iconst hC 21 dX7_isCell_20 rfl ?_
          refine v_goto hC 25 dX7_isCell_21 (by decide) ?_
          exact v_zret hC hQ () [] dX7_isCell_25 (by omega) rfl rfl ⟨by decide, by decide⟩ ⟨by (try dsimp only); all_goals (omega), by (try dsimp only); all_goals (omega)⟩

set_option maxHeartbeats 4000000 in
set_option maxRecDepth 100000 in
theorem c_X7_isFloor (lx : Launch) (D : va_G) (cs : Nat → ClassId) (a : Int) (ha : -2147483648 ≤ a ∧ a < 2147483648) : Ci lx D cs yX7_isFloor wsX7_isFloor ({ frames := 2, cells := 0, slots := 0, locals := 46 }) [.int (iI a)] [] (fun (z : Int) (u : Unit) => (z = 0 ∨ z = 1) ∧ (z = 1 ↔ 0 ≤ a ∧ a ≤ 9)) (fun u : Unit => []) 0 0 := by
  refine Ci_of (cc := cX7_isFloor) (nL := 1) (ret := (some .boolean)) (lv0 := [(0, .int (iI a))]) RX7 "isFloor" (by decide +kernel) rfl (Nat.le_of_ble_eq_true rfl) rfl (fun p9 e9 s9 m9 ar9 be9 me9 c9 A9 Q9 hQ hC => ?_)
  refine v_iload_n hC 1 0 dX7_isFloor_0 rfl rfl rfl ?_
  refine v_iconst hC 2 dX7_isFloor_1 rfl ?_
  refine v_bipush hC 4 dX7_isFloor_2 rfl rfl ?_
  refine v_callSi hC 7 3 [] [] [] (As := [.int (iI a), .int (iI 0), .int (iI 9)]) (rest := []) (c_X7_isWithin lx D cs a 0 9 (by omega) (by omega) (by omega)) dX7_isFloor_4 rfl rfl gX7_isFloor_X7_isWithin rfl rfl rfl (by decide +kernel) ⟨by decide, by decide⟩ rfl rfl rfl rfl (by decide) rfl (Nat.le_of_ble_eq_true rfl) ⟨rfl, rfl⟩ ⟨by decide, by decide⟩ (fun z4 u4 h4 => ?_)
  (try dsimp only at h4)
  obtain ⟨h4_1, h4_2⟩ := h4
  show V p9 lx e9 ({ frames := 2, cells := 0, slots := 0, locals := 46 }) s9 m9 ar9 be9 me9 c9 Q9 D A9 s9.heap 1 0 0 [] [(0, .int (iI a))] 7 [.int (iI z4)]
  exact v_zret hC hQ () [] dX7_isFloor_7 (by omega) rfl rfl ⟨by decide, by decide⟩ ⟨by (try dsimp only); all_goals (omega), by (try dsimp only); all_goals (omega)⟩

set_option maxHeartbeats 4000000 in
set_option maxRecDepth 100000 in
theorem c_X7_cellAt (lx : Launch) (D : va_G) (cs : Nat → ClassId) (a : Int) (b : Int)  : Ci lx D cs yX7_cellAt wsX7_cellAt ({ frames := 1, cells := 0, slots := 0, locals := 24 }) [.int (iI a), .int (iI b)] [] (fun (z : Int) (u : Unit) => (z = b * 12 + a)) (fun u : Unit => []) 0 0 := by
  refine Ci_of (cc := cX7_cellAt) (nL := 2) (ret := (some .int)) (lv0 := [(0, .int (iI a)), (1, .int (iI b))]) RX7 "cellAt" (by decide +kernel) rfl (Nat.le_of_ble_eq_true rfl) rfl (fun p9 e9 s9 m9 ar9 be9 me9 c9 A9 Q9 hQ hC => ?_)
  refine v_iload_n hC 1 1 dX7_cellAt_0 rfl rfl rfl ?_
  refine v_bipush hC 3 dX7_cellAt_1 rfl rfl ?_
  refine v_imul hC 4 (b * 12) dX7_cellAt_3 rfl rfl ?_
  refine v_iload_n hC 5 0 dX7_cellAt_4 rfl rfl rfl ?_
  refine v_iadd hC 6 (b * 12 + a) dX7_cellAt_5 rfl rfl ?_
  exact v_iret hC hQ () [] dX7_cellAt_6 rfl rfl ⟨by decide, by decide⟩ (by (try dsimp only); all_goals (first | rfl | omega))

set_option maxHeartbeats 4000000 in
set_option maxRecDepth 100000 in
theorem c_X7_timesIn (lx : Launch) (D : va_G) (cs : Nat → ClassId) (a : Int) (b : Int) (ha : 1 ≤ a ∧ a < 2147483648) (hb : 0 ≤ b ∧ b < 2147483648) : Ci lx D cs yX7_timesIn wsX7_timesIn ({ frames := 1, cells := 0, slots := 0, locals := 24 }) [.int (iI a), .int (iI b)] [] (fun (z : Int) (u : Unit) => (z = b / a)) (fun u : Unit => []) 0 0 := by
  refine Ci_of (cc := cX7_timesIn) (nL := 2) (ret := (some .int)) (lv0 := [(0, .int (iI a)), (1, .int (iI b))]) RX7 "timesIn" (by decide +kernel) rfl (Nat.le_of_ble_eq_true rfl) rfl (fun p9 e9 s9 m9 ar9 be9 me9 c9 A9 Q9 hQ hC => ?_)
  refine v_iload_n hC 1 0 dX7_timesIn_0 rfl rfl rfl ?_
  refine v_iconst hC 2 dX7_timesIn_1 rfl ?_
  refine v_icmp_ge hC 9 5 dX7_timesIn_2 (by decide) rfl (by omega) (by omega) (fun c_2 => ?_) (fun c_2 => ?_)
  · skip
    refine v_iload_n hC 10 1 dX7_timesIn_9 rfl rfl rfl ?_
    refine v_iload_n hC 11 0 dX7_timesIn_10 rfl rfl rfl ?_
    refine v_idiv hC 12 (b / a) dX7_timesIn_11 rfl (by omega) (by omega) rfl ?_
    exact v_iret hC hQ () [] dX7_timesIn_12 rfl rfl ⟨by decide, by decide⟩ (by (try dsimp only); all_goals (first | rfl | omega))
  · exfalso; omega

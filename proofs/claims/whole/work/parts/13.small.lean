set_option maxHeartbeats 4000000 in
set_option maxRecDepth 100000 in
theorem c_X0_isDoor (lx : Launch) (D : va_G) (cs : Nat → ClassId) (ab : Nat → Nat) (door : Int) (pil : Int → Int) (bar : Int → Int) (x : Int) (y : Int) (hx : -2147483648 ≤ x ∧ x < 2147483648) (hy : -2147483648 ≤ y ∧ y < 2147483648) (hd : 0 ≤ door ∧ door ≤ 10) : Ci lx D cs yX0_isDoor wsX0_isDoor ({ frames := 1, cells := 0, slots := 0, locals := 24 }) [.ref (ab 0), .int (iI x), .int (iI y)] [oB ab door, aC (cs 1) (ab 1) 96 pil, aC (cs 1) (ab 2) 96 bar] (fun (z : Int) (u : Unit) => (z = 0 ∨ z = 1) ∧ (z = 1 ↔ y = 0 ∧ door ≤ x ∧ x < door + 2)) (fun u : Unit => [oB ab door, aC (cs 1) (ab 1) 96 pil, aC (cs 1) (ab 2) 96 bar]) 0 0 := by
  refine Ci_of (cc := cX0_isDoor) (nL := 3) (ret := (some .boolean)) (lv0 := [(0, .ref (ab 0)), (1, .int (iI x)), (2, .int (iI y))]) RX0 "isDoor" (by decide +kernel) rfl (Nat.le_of_ble_eq_true rfl) rfl (fun p9 e9 s9 m9 ar9 be9 me9 c9 A9 Q9 hQ hC => ?_)
  have iX0 : ∀ w ∈ wsX00, w ∈ wsX0_isDoor := by decide +kernel
  have L0 : Cond.fieldLink RX0 18 "Groutline$Bars" "doorColumn" "I" ∈ wsX0_isDoor := by decide +kernel
  refine v_iload_n hC 1 2 dX0_isDoor_0 rfl rfl rfl ?_
  refine v_if_ne hC 26 4 dX0_isDoor_1 (by decide) rfl (by omega) (fun c_1 => ?_) (fun c_1 => ?_)
  · skip
    refine v_iconst hC 27 dX0_isDoor_26 rfl ?_
    exact v_zret hC hQ () [0, 1, 2] dX0_isDoor_27 (by omega) rfl rfl ⟨by decide, by decide⟩ ⟨by (try dsimp only); all_goals (omega), by (try dsimp only); all_goals (omega)⟩
  · skip
    refine v_iload_n hC 5 1 dX0_isDoor_4 rfl rfl rfl ?_
    refine v_aload_n hC 6 0 dX0_isDoor_5 rfl rfl rfl ?_
    refine v_get hC 9 0 2 (C := RX0) (T := TX0) (N := 3) dX0_isDoor_6 rfl iX0 L0 rfl rfl (by decide) rfl ?_
    refine v_icmp_lt hC 26 12 dX0_isDoor_9 (by decide) rfl (by omega) (by omega) (fun c_9 => ?_) (fun c_9 => ?_)
    · skip
      refine v_iconst hC 27 dX0_isDoor_26 rfl ?_
      exact v_zret hC hQ () [0, 1, 2] dX0_isDoor_27 (by omega) rfl rfl ⟨by decide, by decide⟩ ⟨by (try dsimp only); all_goals (omega), by (try dsimp only); all_goals (omega)⟩
    · skip
      refine v_iload_n hC 13 1 dX0_isDoor_12 rfl rfl rfl ?_
      refine v_aload_n hC 14 0 dX0_isDoor_13 rfl rfl rfl ?_
      refine v_get hC 17 0 2 (C := RX0) (T := TX0) (N := 3) dX0_isDoor_14 rfl iX0 L0 rfl rfl (by decide) rfl ?_
      refine v_iconst hC 18 dX0_isDoor_17 rfl ?_
      refine v_iadd hC 19 (door + 2) dX0_isDoor_18 rfl rfl ?_
      refine v_icmp_ge hC 26 22 dX0_isDoor_19 (by decide) rfl (by omega) (by omega) (fun c_19 => ?_) (fun c_19 => ?_)
      · skip
        refine v_iconst hC 27 dX0_isDoor_26 rfl ?_
        exact v_zret hC hQ () [0, 1, 2] dX0_isDoor_27 (by omega) rfl rfl ⟨by decide, by decide⟩ ⟨by (try dsimp only); all_goals (omega), by (try dsimp only); all_goals (omega)⟩
      · skip
        refine v_iconst hC 23 dX0_isDoor_22 rfl ?_
        refine v_goto hC 27 dX0_isDoor_23 (by decide) ?_
        exact v_zret hC hQ () [0, 1, 2] dX0_isDoor_27 (by omega) rfl rfl ⟨by decide, by decide⟩ ⟨by (try dsimp only); all_goals (omega), by (try dsimp only); all_goals (omega)⟩

set_option maxHeartbeats 4000000 in
set_option maxRecDepth 100000 in
theorem c_X0_areAt (lx : Launch) (D : va_G) (cs : Nat → ClassId) (ab : Nat → Nat) (door : Int) (pil : Int → Int) (bar : Int → Int) (x : Int) (y : Int) (hx : -2147483648 ≤ x ∧ x < 2147483648) (hy : -2147483648 ≤ y ∧ y < 2147483648) (hbar : Rn bar 0 1) : Ci lx D cs yX0_areAt wsX0_areAt ({ frames := 2, cells := 0, slots := 0, locals := 45 }) [.ref (ab 0), .int (iI x), .int (iI y)] [oB ab door, aC (cs 1) (ab 1) 96 pil, aC (cs 1) (ab 2) 96 bar] (fun (z : Int) (u : Unit) => (z = 0 ∨ z = 1) ∧ (z = 1 ↔ ((0 ≤ x ∧ x < 12) ∧ 0 ≤ y ∧ y < 8) ∧ bar (y * 12 + x) = 1)) (fun u : Unit => [oB ab door, aC (cs 1) (ab 1) 96 pil, aC (cs 1) (ab 2) 96 bar]) 0 0 := by
  refine Ci_of (cc := cX0_areAt) (nL := 3) (ret := (some .boolean)) (lv0 := [(0, .ref (ab 0)), (1, .int (iI x)), (2, .int (iI y))]) RX0 "areAt" (by decide +kernel) rfl (Nat.le_of_ble_eq_true rfl) rfl (fun p9 e9 s9 m9 ar9 be9 me9 c9 A9 Q9 hQ hC => ?_)
  have iX0 : ∀ w ∈ wsX00, w ∈ wsX0_areAt := by decide +kernel
  have L0 : Cond.initialized yX7_isCell.cls ∈ wsX0_areAt := by decide +kernel
  have L1 : Cond.static yX7_isCell ∈ wsX0_areAt := by decide +kernel
  have L2 : Cond.fieldLink RX0 15 "Groutline$Bars" "barred" "[Z" ∈ wsX0_areAt := by decide +kernel
  have L3 : Cond.initialized yX7_cellAt.cls ∈ wsX0_areAt := by decide +kernel
  have L4 : Cond.static yX7_cellAt ∈ wsX0_areAt := by decide +kernel
  refine v_iload_n hC 1 1 dX0_areAt_0 rfl rfl rfl ?_
  refine v_iload_n hC 2 2 dX0_areAt_1 rfl rfl rfl ?_
  refine v_callSNi hC 5 2 [] [0, 1, 2] [oB ab door, aC (cs 1) (ab 1) 96 pil, aC (cs 1) (ab 2) 96 bar] (As := [.int (iI x), .int (iI y)]) (rest := []) (c_X7_isCell lx D cs x y (by omega) (by omega)) dX0_areAt_2 rfl rfl gX0_areAt_X7_isCell_n22 L0 L1 RX7 (by decide +kernel) rfl rfl rfl (by decide +kernel) ⟨by decide, by decide⟩ rfl rfl rfl rfl (by decide) rfl (Nat.le_of_ble_eq_true rfl) ⟨rfl, rfl⟩ ⟨by decide, by decide⟩ (fun z2 u2 h2 => ?_)
  (try dsimp only at h2)
  obtain ⟨h2_1, h2_2⟩ := h2
  show V p9 lx e9 ({ frames := 2, cells := 0, slots := 0, locals := 45 }) s9 m9 ar9 be9 me9 c9 Q9 D A9 s9.heap 3 0 0 [oB ab door, aC (cs 1) (ab 1) 96 pil, aC (cs 1) (ab 2) 96 bar] [(0, .ref (ab 0)), (1, .int (iI x)), (2, .int (iI y))] 5 [.int (iI z2)]
  refine v_if_eq hC 25 8 dX0_areAt_5 (by decide) rfl (by omega) (fun c_5 => ?_) (fun c_5 => ?_)
  · skip
    refine v_iconst hC 26 dX0_areAt_25 rfl ?_
    exact v_zret hC hQ () [0, 1, 2] dX0_areAt_26 (by omega) rfl rfl ⟨by decide, by decide⟩ ⟨by (try dsimp only); all_goals (omega), by (try dsimp only); all_goals (omega)⟩
  · skip
    refine v_aload_n hC 9 0 dX0_areAt_8 rfl rfl rfl ?_
    refine v_get hC 12 0 1 (C := RX0) (T := TX0) (N := 3) dX0_areAt_9 rfl iX0 L2 rfl rfl (by decide) rfl ?_
    refine v_iload_n hC 13 1 dX0_areAt_12 rfl rfl rfl ?_
    refine v_iload_n hC 14 2 dX0_areAt_13 rfl rfl rfl ?_
    refine v_callSNi hC 17 2 [] [0, 1, 2] [oB ab door, aC (cs 1) (ab 1) 96 pil, aC (cs 1) (ab 2) 96 bar] (As := [.int (iI x), .int (iI y)]) (rest := [.ref (ab 2)]) (c_X7_cellAt lx D cs x y ) dX0_areAt_14 rfl rfl gX0_areAt_X7_cellAt_n26 L3 L4 RX7 (by decide +kernel) rfl rfl rfl (by decide +kernel) ⟨by decide, by decide⟩ rfl rfl rfl rfl (by decide) rfl (Nat.le_of_ble_eq_true rfl) ⟨rfl, rfl⟩ ⟨by decide, by decide⟩ (fun z14 u14 h14 => ?_)
    (try dsimp only at h14)
    subst h14
    show V p9 lx e9 ({ frames := 2, cells := 0, slots := 0, locals := 45 }) s9 m9 ar9 be9 me9 c9 Q9 D A9 s9.heap 3 0 0 [oB ab door, aC (cs 1) (ab 1) 96 pil, aC (cs 1) (ab 2) 96 bar] [(0, .ref (ab 0)), (1, .int (iI x)), (2, .int (iI y))] 17 [.int (iI (y * 12 + x)), .ref (ab 2)]
    refine v_zald hC 18 2 dX0_areAt_17 rfl rfl (by decide) (by omega) ?_
    have r_17 := hbar (y * 12 + x)
    refine v_if_eq hC 25 21 dX0_areAt_18 (by decide) rfl (by omega) (fun c_18 => ?_) (fun c_18 => ?_)
    · skip
      refine v_iconst hC 26 dX0_areAt_25 rfl ?_
      exact v_zret hC hQ () [0, 1, 2] dX0_areAt_26 (by omega) rfl rfl ⟨by decide, by decide⟩ ⟨by (try dsimp only); all_goals (omega), by (try dsimp only); all_goals (omega)⟩
    · skip
      refine v_iconst hC 22 dX0_areAt_21 rfl ?_
      refine v_goto hC 26 dX0_areAt_22 (by decide) ?_
      exact v_zret hC hQ () [0, 1, 2] dX0_areAt_26 (by omega) rfl rfl ⟨by decide, by decide⟩ ⟨by (try dsimp only); all_goals (omega), by (try dsimp only); all_goals (omega)⟩

set_option maxHeartbeats 4000000 in
set_option maxRecDepth 100000 in
theorem c_X0_setPillar (lx : Launch) (D : va_G) (cs : Nat → ClassId) (ab : Nat → Nat) (door : Int) (pil : Int → Int) (bar : Int → Int) (x : Int) (y : Int) (v : Int) (hx : 0 ≤ x ∧ x < 12) (hy : 0 ≤ y ∧ y < 8) (hv : v = 0 ∨ v = 1) (hpil : Rn pil 0 1) : Ci lx D cs yX0_setPillar wsX0_setPillar ({ frames := 2, cells := 0, slots := 0, locals := 45 }) [.ref (ab 0), .int (iI x), .int (iI y), .int (iI v)] [oB ab door, aC (cs 1) (ab 1) 96 pil, aC (cs 1) (ab 2) 96 bar] (fun (z : Int) (u : Unit) => (z = pil (y * 12 + x))) (fun u : Unit => [oB ab door, aC (cs 1) (ab 1) 96 (uI pil (y * 12 + x) v), aC (cs 1) (ab 2) 96 bar]) 0 0 := by
  refine Ci_of (cc := cX0_setPillar) (nL := 5) (ret := (some .boolean)) (lv0 := [(0, .ref (ab 0)), (1, .int (iI x)), (2, .int (iI y)), (3, .int (iI v))]) RX0 "setPillar" (by decide +kernel) rfl (Nat.le_of_ble_eq_true rfl) rfl (fun p9 e9 s9 m9 ar9 be9 me9 c9 A9 Q9 hQ hC => ?_)
  have iX0 : ∀ w ∈ wsX00, w ∈ wsX0_setPillar := by decide +kernel
  have L0 : Cond.initialized yX7_isCell.cls ∈ wsX0_setPillar := by decide +kernel
  have L1 : Cond.static yX7_isCell ∈ wsX0_setPillar := by decide +kernel
  have L2 : Cond.fieldLink RX0 9 "Groutline$Bars" "pillars" "[Z" ∈ wsX0_setPillar := by decide +kernel
  have L3 : Cond.initialized yX7_cellAt.cls ∈ wsX0_setPillar := by decide +kernel
  have L4 : Cond.static yX7_cellAt ∈ wsX0_setPillar := by decide +kernel
  refine v_iload_n hC 1 1 dX0_setPillar_0 rfl rfl rfl ?_
  refine v_iload_n hC 2 2 dX0_setPillar_1 rfl rfl rfl ?_
  refine v_callSNi hC 5 2 [] [0, 1, 2] [oB ab door, aC (cs 1) (ab 1) 96 pil, aC (cs 1) (ab 2) 96 bar] (As := [.int (iI x), .int (iI y)]) (rest := []) (c_X7_isCell lx D cs x y (by omega) (by omega)) dX0_setPillar_2 rfl rfl gX0_setPillar_X7_isCell_n22 L0 L1 RX7 (by decide +kernel) rfl rfl rfl (by decide +kernel) ⟨by decide, by decide⟩ rfl rfl rfl rfl (by decide) rfl (Nat.le_of_ble_eq_true rfl) ⟨rfl, rfl⟩ ⟨by decide, by decide⟩ (fun z2 u2 h2 => ?_)
  (try dsimp only at h2)
  obtain ⟨h2_1, h2_2⟩ := h2
  show V p9 lx e9 ({ frames := 2, cells := 0, slots := 0, locals := 45 }) s9 m9 ar9 be9 me9 c9 Q9 D A9 s9.heap 5 0 0 [oB ab door, aC (cs 1) (ab 1) 96 pil, aC (cs 1) (ab 2) 96 bar] [(0, .ref (ab 0)), (1, .int (iI x)), (2, .int (iI y)), (3, .int (iI v))] 5 [.int (iI z2)]
  refine v_if_ne hC 10 8 dX0_setPillar_5 (by decide) rfl (by omega) (fun c_5 => ?_) (fun c_5 => ?_)
  · skip
    refine v_aload_n hC 11 0 dX0_setPillar_10 rfl rfl rfl ?_
    refine v_get hC 14 0 0 (C := RX0) (T := TX0) (N := 3) dX0_setPillar_11 rfl iX0 L2 rfl rfl (by decide) rfl ?_
    refine v_iload_n hC 15 1 dX0_setPillar_14 rfl rfl rfl ?_
    refine v_iload_n hC 16 2 dX0_setPillar_15 rfl rfl rfl ?_
    refine v_callSNi hC 19 2 [] [0, 1, 2] [oB ab door, aC (cs 1) (ab 1) 96 pil, aC (cs 1) (ab 2) 96 bar] (As := [.int (iI x), .int (iI y)]) (rest := [.ref (ab 1)]) (c_X7_cellAt lx D cs x y ) dX0_setPillar_16 rfl rfl gX0_setPillar_X7_cellAt_n26 L3 L4 RX7 (by decide +kernel) rfl rfl rfl (by decide +kernel) ⟨by decide, by decide⟩ rfl rfl rfl rfl (by decide) rfl (Nat.le_of_ble_eq_true rfl) ⟨rfl, rfl⟩ ⟨by decide, by decide⟩ (fun z16 u16 h16 => ?_)
    (try dsimp only at h16)
    subst h16
    show V p9 lx e9 ({ frames := 2, cells := 0, slots := 0, locals := 45 }) s9 m9 ar9 be9 me9 c9 Q9 D A9 s9.heap 5 0 0 [oB ab door, aC (cs 1) (ab 1) 96 pil, aC (cs 1) (ab 2) 96 bar] [(0, .ref (ab 0)), (1, .int (iI x)), (2, .int (iI y)), (3, .int (iI v))] 19 [.int (iI (y * 12 + x)), .ref (ab 1)]
    refine v_zald hC 20 1 dX0_setPillar_19 rfl rfl (by decide) (by omega) ?_
    have r_19 := hpil (y * 12 + x)
    refine v_istore hC 22 [(4, .int (iI (pil (y * 12 + x)))), (0, .ref (ab 0)), (1, .int (iI x)), (2, .int (iI y)), (3, .int (iI v))] dX0_setPillar_20 rfl (by decide) rfl ?_
    refine v_aload_n hC 23 1 dX0_setPillar_22 rfl rfl rfl ?_
    refine v_get hC 26 0 0 (C := RX0) (T := TX0) (N := 3) dX0_setPillar_23 rfl iX0 L2 rfl rfl (by decide) rfl ?_
    refine v_iload_n hC 27 2 dX0_setPillar_26 rfl rfl rfl ?_
    refine v_iload_n hC 28 3 dX0_setPillar_27 rfl rfl rfl ?_
    refine v_callSNi hC 31 2 [] [0, 1, 2] [oB ab door, aC (cs 1) (ab 1) 96 pil, aC (cs 1) (ab 2) 96 bar] (As := [.int (iI x), .int (iI y)]) (rest := [.ref (ab 1)]) (c_X7_cellAt lx D cs x y ) dX0_setPillar_28 rfl rfl gX0_setPillar_X7_cellAt_n26 L3 L4 RX7 (by decide +kernel) rfl rfl rfl (by decide +kernel) ⟨by decide, by decide⟩ rfl rfl rfl rfl (by decide) rfl (Nat.le_of_ble_eq_true rfl) ⟨rfl, rfl⟩ ⟨by decide, by decide⟩ (fun z28 u28 h28 => ?_)
    (try dsimp only at h28)
    subst h28
    show V p9 lx e9 ({ frames := 2, cells := 0, slots := 0, locals := 45 }) s9 m9 ar9 be9 me9 c9 Q9 D A9 s9.heap 5 0 0 [oB ab door, aC (cs 1) (ab 1) 96 pil, aC (cs 1) (ab 2) 96 bar] [(4, .int (iI (pil (y * 12 + x)))), (0, .ref (ab 0)), (1, .int (iI x)), (2, .int (iI y)), (3, .int (iI v))] 31 [.int (iI (y * 12 + x)), .ref (ab 1)]
    refine v_iload_n hC 32 4 dX0_setPillar_31 rfl rfl rfl ?_
    refine v_zast hC 33 1 [oB ab door, aC (cs 1) (ab 1) 96 (uI pil (y * 12 + x) v), aC (cs 1) (ab 2) 96 bar] dX0_setPillar_32 rfl rfl (by decide) (by omega) (by omega) rfl ?_
    refine v_iload hC 35 0 dX0_setPillar_33 rfl rfl ?_
    exact v_zret hC hQ () [0, 1, 2] dX0_setPillar_35 (by omega) rfl rfl ⟨by decide, by decide⟩ (by (try dsimp only); all_goals (first | rfl | omega))
  · exfalso; omega

set_option maxHeartbeats 4000000 in
set_option maxRecDepth 100000 in
theorem c_X0_renewRow (lx : Launch) (D : va_G) (cs : Nat → ClassId) (ab : Nat → Nat) (door : Int) (pil : Int → Int) (bar : Int → Int) (y : Int) (hy : 0 ≤ y ∧ y < 8) (hd : 0 ≤ door ∧ door ≤ 10) (hpil : Rn pil 0 1) : Cv lx D cs yX0_renewRow wsX0_renewRow ({ frames := 2, cells := 0, slots := 0, locals := 46 }) [.ref (ab 0), .int (iI y)] [oB ab door, aC (cs 1) (ab 1) 96 pil, aC (cs 1) (ab 2) 96 bar] (fun (u : (Int → Int)) => (u = rrw pil bar door y 12)) (fun u : (Int → Int) => [oB ab door, aC (cs 1) (ab 1) 96 pil, aC (cs 1) (ab 2) 96 u]) 0 0 := by
  refine Cv_of (cc := cX0_renewRow) (nL := 4) (ret := none) (lv0 := [(0, .ref (ab 0)), (1, .int (iI y))]) RX0 "renewRow" (by decide +kernel) rfl (Nat.le_of_ble_eq_true rfl) rfl (fun p9 e9 s9 m9 ar9 be9 me9 c9 A9 Q9 hQ hC => ?_)
  have iX0 : ∀ w ∈ wsX00, w ∈ wsX0_renewRow := by decide +kernel
  have L0 : Cond.initialized yX7_isCell.cls ∈ wsX0_renewRow := by decide +kernel
  have L1 : Cond.static yX7_isCell ∈ wsX0_renewRow := by decide +kernel
  have L2 : Cond.initialized yX7_cellAt.cls ∈ wsX0_renewRow := by decide +kernel
  have L3 : Cond.static yX7_cellAt ∈ wsX0_renewRow := by decide +kernel
  have L4 : Cond.fieldLink RX0 15 "Groutline$Bars" "barred" "[Z" ∈ wsX0_renewRow := by decide +kernel
  have L5 : Cond.fieldLink RX0 9 "Groutline$Bars" "pillars" "[Z" ∈ wsX0_renewRow := by decide +kernel
  refine v_iconst hC 1 dX0_renewRow_0 rfl ?_
  refine v_istore_n hC 2 [(2, .int (iI 0)), (0, .ref (ab 0)), (1, .int (iI y))] dX0_renewRow_1 rfl rfl (by decide) rfl ?_
  have cut_2 : ∀ (n : Nat) (x2 : Int) (bar2 : Int → Int), (0 ≤ x2 ∧ x2 ≤ 12) → (bar2 = rrw pil bar door y x2) → (12 - x2 < (n : Int)) → V p9 lx e9 ({ frames := 2, cells := 0, slots := 0, locals := 46 }) s9 m9 ar9 be9 me9 c9 Q9 D A9 s9.heap 4 0 0 [oB ab door, aC (cs 1) (ab 1) 96 pil, aC (cs 1) (ab 2) 96 bar2] [(0, .ref (ab 0)), (1, .int (iI y)), (2, .int (iI x2))] 2 [] := by
    intro n
    induction n with
    | zero =>
      intro x2 bar2 hx2 hbar2 hn
      exfalso; omega
    | succ n ih =>
      intro x2 bar2 hx2 hbar2 hn
      have ih_2 := ih
      clear ih
      refine v_iload_n hC 3 2 dX0_renewRow_2 rfl rfl rfl ?_
      refine v_bipush hC 5 dX0_renewRow_3 rfl rfl ?_
      refine v_icmp_ge hC 57 8 dX0_renewRow_5 (by decide) rfl (by omega) (by omega) (fun c_5 => ?_) (fun c_5 => ?_)
      · skip
        exact v_vret hC hQ bar2 [0, 1, 2] dX0_renewRow_57 rfl rfl ⟨by decide, by decide⟩ (by (try dsimp only); all_goals (rw [hbar2, show x2 = 12 by omega]))
      · skip
        refine v_iload_n hC 9 2 dX0_renewRow_8 rfl rfl rfl ?_
        refine v_iload_n hC 10 1 dX0_renewRow_9 rfl rfl rfl ?_
        refine v_callSNi hC 13 2 [] [0, 1, 2] [oB ab door, aC (cs 1) (ab 1) 96 pil, aC (cs 1) (ab 2) 96 bar2] (As := [.int (iI x2), .int (iI y)]) (rest := []) (c_X7_isCell lx D cs x2 y (by omega) (by omega)) dX0_renewRow_10 rfl rfl gX0_renewRow_X7_isCell_n22 L0 L1 RX7 (by decide +kernel) rfl rfl rfl (by decide +kernel) ⟨by decide, by decide⟩ rfl rfl rfl rfl (by decide) rfl (Nat.le_of_ble_eq_true rfl) ⟨rfl, rfl⟩ ⟨by decide, by decide⟩ (fun z10 u10 h10 => ?_)
        (try dsimp only at h10)
        obtain ⟨h10_1, h10_2⟩ := h10
        show V p9 lx e9 ({ frames := 2, cells := 0, slots := 0, locals := 46 }) s9 m9 ar9 be9 me9 c9 Q9 D A9 s9.heap 4 0 0 [oB ab door, aC (cs 1) (ab 1) 96 pil, aC (cs 1) (ab 2) 96 bar2] [(0, .ref (ab 0)), (1, .int (iI y)), (2, .int (iI x2))] 13 [.int (iI z10)]
        refine v_if_eq hC 51 16 dX0_renewRow_13 (by decide) rfl (by omega) (fun c_13 => ?_) (fun c_13 => ?_)
        · exfalso; omega
        · skip
          refine v_iload_n hC 17 2 dX0_renewRow_16 rfl rfl rfl ?_
          refine v_iload_n hC 18 1 dX0_renewRow_17 rfl rfl rfl ?_
          refine v_callSNi hC 21 2 [] [0, 1, 2] [oB ab door, aC (cs 1) (ab 1) 96 pil, aC (cs 1) (ab 2) 96 bar2] (As := [.int (iI x2), .int (iI y)]) (rest := []) (c_X7_cellAt lx D cs x2 y ) dX0_renewRow_18 rfl rfl gX0_renewRow_X7_cellAt_n26 L2 L3 RX7 (by decide +kernel) rfl rfl rfl (by decide +kernel) ⟨by decide, by decide⟩ rfl rfl rfl rfl (by decide) rfl (Nat.le_of_ble_eq_true rfl) ⟨rfl, rfl⟩ ⟨by decide, by decide⟩ (fun z18 u18 h18 => ?_)
          (try dsimp only at h18)
          subst h18
          show V p9 lx e9 ({ frames := 2, cells := 0, slots := 0, locals := 46 }) s9 m9 ar9 be9 me9 c9 Q9 D A9 s9.heap 4 0 0 [oB ab door, aC (cs 1) (ab 1) 96 pil, aC (cs 1) (ab 2) 96 bar2] [(0, .ref (ab 0)), (1, .int (iI y)), (2, .int (iI x2))] 21 [.int (iI (y * 12 + x2))]
          refine v_istore_n hC 22 [(3, .int (iI (y * 12 + x2))), (0, .ref (ab 0)), (1, .int (iI y)), (2, .int (iI x2))] dX0_renewRow_21 rfl rfl (by decide) rfl ?_
          refine v_aload_n hC 23 1 dX0_renewRow_22 rfl rfl rfl ?_
          refine v_get hC 26 0 1 (C := RX0) (T := TX0) (N := 3) dX0_renewRow_23 rfl iX0 L4 rfl rfl (by decide) rfl ?_
          refine v_iload_n hC 27 0 dX0_renewRow_26 rfl rfl rfl ?_
          refine v_aload_n hC 28 1 dX0_renewRow_27 rfl rfl rfl ?_
          refine v_get hC 31 0 0 (C := RX0) (T := TX0) (N := 3) dX0_renewRow_28 rfl iX0 L5 rfl rfl (by decide) rfl ?_
          refine v_iload_n hC 32 0 dX0_renewRow_31 rfl rfl rfl ?_
          refine v_zald hC 33 1 dX0_renewRow_32 rfl rfl (by decide) (by omega) ?_
          have r_32 := hpil (y * 12 + x2)
          refine v_if_ne hC 45 36 dX0_renewRow_33 (by decide) rfl (by omega) (fun c_33 => ?_) (fun c_33 => ?_)
          · skip
            refine v_iconst hC 46 dX0_renewRow_45 rfl ?_
            refine v_goto hC 50 dX0_renewRow_46 (by decide) ?_
            refine v_zast hC 51 2 [oB ab door, aC (cs 1) (ab 1) 96 pil, aC (cs 1) (ab 2) 96 (uI bar2 (y * 12 + x2) 1)] dX0_renewRow_50 rfl rfl (by decide) (by omega) (by omega) rfl ?_
            refine v_iinc hC 54 3 [(2, .int (iI (x2 + 1))), (3, .int (iI (y * 12 + x2))), (0, .ref (ab 0)), (1, .int (iI y))] dX0_renewRow_51 rfl rfl (by decide) rfl ?_
            refine v_goto hC 2 dX0_renewRow_54 (by decide) ?_
            exact v_sub [0, 1, 2] [2, 3, 0] _ _ rfl rfl rfl (ih_2 (x2 + 1) (uI bar2 (y * 12 + x2) 1) (by omega) (by rw [hbar2]; refine rrw_step pil bar door y x2 _ hx2.1 ?_; unfold dr; first | (rw [if_pos (by omega)]; done) | (rw [if_neg (by omega)]; done)) (by omega))
          · skip
            refine v_aload_n hC 37 1 dX0_renewRow_36 rfl rfl rfl ?_
            refine v_iload_n hC 38 3 dX0_renewRow_37 rfl rfl rfl ?_
            refine v_iload_n hC 39 2 dX0_renewRow_38 rfl rfl rfl ?_
            refine v_callVi hC 42 2 [0, 1, 2] [] [] (As := [.int (iI x2), .int (iI y)]) (rest := [.int (iI (y * 12 + x2)), .ref (ab 2)]) (c_X0_isDoor lx D cs ab door pil bar2 x2 y (by omega) (by omega) (by omega)) dX0_renewRow_39 rfl rfl 0 rfl rfl gX0_renewRow_X0_isDoor rfl rfl rfl (by decide +kernel) ⟨by decide, by decide⟩ rfl rfl rfl rfl (by decide) rfl (Nat.le_of_ble_eq_true rfl) ⟨rfl, rfl⟩ ⟨by decide, by decide⟩ (fun z39 u39 h39 => ?_)
            (try dsimp only at h39)
            obtain ⟨h39_1, h39_2⟩ := h39
            show V p9 lx e9 ({ frames := 2, cells := 0, slots := 0, locals := 46 }) s9 m9 ar9 be9 me9 c9 Q9 D A9 s9.heap 4 0 0 [oB ab door, aC (cs 1) (ab 1) 96 pil, aC (cs 1) (ab 2) 96 bar2] [(3, .int (iI (y * 12 + x2))), (0, .ref (ab 0)), (1, .int (iI y)), (2, .int (iI x2))] 42 [.int (iI z39), .int (iI (y * 12 + x2)), .ref (ab 2)]
            refine v_if_eq hC 49 45 dX0_renewRow_42 (by decide) rfl (by omega) (fun c_42 => ?_) (fun c_42 => ?_)
            · skip
              refine v_iconst hC 50 dX0_renewRow_49 rfl ?_
              refine v_zast hC 51 2 [oB ab door, aC (cs 1) (ab 1) 96 pil, aC (cs 1) (ab 2) 96 (uI bar2 (y * 12 + x2) 0)] dX0_renewRow_50 rfl rfl (by decide) (by omega) (by omega) rfl ?_
              refine v_iinc hC 54 3 [(2, .int (iI (x2 + 1))), (3, .int (iI (y * 12 + x2))), (0, .ref (ab 0)), (1, .int (iI y))] dX0_renewRow_51 rfl rfl (by decide) rfl ?_
              refine v_goto hC 2 dX0_renewRow_54 (by decide) ?_
              exact v_sub [0, 1, 2] [2, 3, 0] _ _ rfl rfl rfl (ih_2 (x2 + 1) (uI bar2 (y * 12 + x2) 0) (by omega) (by rw [hbar2]; refine rrw_step pil bar door y x2 _ hx2.1 ?_; unfold dr; first | (rw [if_pos (by omega)]; done) | (rw [if_neg (by omega)]; done)) (by omega))
            · skip
              refine v_iconst hC 46 dX0_renewRow_45 rfl ?_
              refine v_goto hC 50 dX0_renewRow_46 (by decide) ?_
              refine v_zast hC 51 2 [oB ab door, aC (cs 1) (ab 1) 96 pil, aC (cs 1) (ab 2) 96 (uI bar2 (y * 12 + x2) 1)] dX0_renewRow_50 rfl rfl (by decide) (by omega) (by omega) rfl ?_
              refine v_iinc hC 54 3 [(2, .int (iI (x2 + 1))), (3, .int (iI (y * 12 + x2))), (0, .ref (ab 0)), (1, .int (iI y))] dX0_renewRow_51 rfl rfl (by decide) rfl ?_
              refine v_goto hC 2 dX0_renewRow_54 (by decide) ?_
              exact v_sub [0, 1, 2] [2, 3, 0] _ _ rfl rfl rfl (ih_2 (x2 + 1) (uI bar2 (y * 12 + x2) 1) (by omega) (by rw [hbar2]; refine rrw_step pil bar door y x2 _ hx2.1 ?_; unfold dr; first | (rw [if_pos (by omega)]; done) | (rw [if_neg (by omega)]; done)) (by omega))
  exact v_sub [0, 1, 2] [1, 2, 0] _ _ rfl rfl rfl (cut_2 (Int.toNat (12 - 0) + 1) 0 bar (by omega) (by exact (rrw_0 pil bar door y).symm) (by omega))

set_option maxHeartbeats 4000000 in
set_option maxRecDepth 100000 in
theorem c_X6_isLaid (lx : Launch) (D : va_G) (cs : Nat → ClassId) (aw : Nat → Nat) (hour : Int) (grt : Int) (beg : Int) (laid : Int → Int) (dryh : Int → Int) (x : Int) (hx : -2147483648 ≤ x ∧ x < 2147483648) (hlaid : Rn laid 0 1) : Ci lx D cs yX6_isLaid wsX6_isLaid ({ frames := 1, cells := 0, slots := 0, locals := 24 }) [.ref (aw 0), .int (iI x)] [oW aw hour grt beg, aC (cs 1) (aw 1) 8 laid, aC (cs 0) (aw 2) 8 dryh] (fun (z : Int) (u : Unit) => (z = 0 ∨ z = 1) ∧ (z = 1 ↔ (0 ≤ x ∧ x < 8) ∧ laid x = 1)) (fun u : Unit => [oW aw hour grt beg, aC (cs 1) (aw 1) 8 laid, aC (cs 0) (aw 2) 8 dryh]) 0 0 := by
  refine Ci_of (cc := cX6_isLaid) (nL := 2) (ret := (some .boolean)) (lv0 := [(0, .ref (aw 0)), (1, .int (iI x))]) RX6 "isLaid" (by decide +kernel) rfl (Nat.le_of_ble_eq_true rfl) rfl (fun p9 e9 s9 m9 ar9 be9 me9 c9 A9 Q9 hQ hC => ?_)
  have iX6 : ∀ w ∈ wsX60, w ∈ wsX6_isLaid := by decide +kernel
  have L0 : Cond.fieldLink RX6 22 "Groutline$Work" "laid" "[Z" ∈ wsX6_isLaid := by decide +kernel
  refine v_iload_n hC 1 1 dX6_isLaid_0 rfl rfl rfl ?_
  refine v_if_lt hC 23 4 dX6_isLaid_1 (by decide) rfl (by omega) (fun c_1 => ?_) (fun c_1 => ?_)
  · skip
    refine v_iconst hC 24 dX6_isLaid_23 rfl ?_
    exact v_zret hC hQ () [0, 1, 2] dX6_isLaid_24 (by omega) rfl rfl ⟨by decide, by decide⟩ ⟨by (try dsimp only); all_goals (omega), by (try dsimp only); all_goals (omega)⟩
  · skip
    refine v_iload_n hC 5 1 dX6_isLaid_4 rfl rfl rfl ?_
    refine v_bipush hC 7 dX6_isLaid_5 rfl rfl ?_
    refine v_icmp_ge hC 23 10 dX6_isLaid_7 (by decide) rfl (by omega) (by omega) (fun c_7 => ?_) (fun c_7 => ?_)
    · skip
      refine v_iconst hC 24 dX6_isLaid_23 rfl ?_
      exact v_zret hC hQ () [0, 1, 2] dX6_isLaid_24 (by omega) rfl rfl ⟨by decide, by decide⟩ ⟨by (try dsimp only); all_goals (omega), by (try dsimp only); all_goals (omega)⟩
    · skip
      refine v_aload_n hC 11 0 dX6_isLaid_10 rfl rfl rfl ?_
      refine v_get hC 14 0 3 (C := RX6) (T := TX6) (N := 5) dX6_isLaid_11 rfl iX6 L0 rfl rfl (by decide) rfl ?_
      refine v_iload_n hC 15 1 dX6_isLaid_14 rfl rfl rfl ?_
      refine v_zald hC 16 1 dX6_isLaid_15 rfl rfl (by decide) (by omega) ?_
      have r_15 := hlaid x
      refine v_if_eq hC 23 19 dX6_isLaid_16 (by decide) rfl (by omega) (fun c_16 => ?_) (fun c_16 => ?_)
      · skip
        refine v_iconst hC 24 dX6_isLaid_23 rfl ?_
        exact v_zret hC hQ () [0, 1, 2] dX6_isLaid_24 (by omega) rfl rfl ⟨by decide, by decide⟩ ⟨by (try dsimp only); all_goals (omega), by (try dsimp only); all_goals (omega)⟩
      · skip
        refine v_iconst hC 20 dX6_isLaid_19 rfl ?_
        refine v_goto hC 24 dX6_isLaid_20 (by decide) ?_
        exact v_zret hC hQ () [0, 1, 2] dX6_isLaid_24 (by omega) rfl rfl ⟨by decide, by decide⟩ ⟨by (try dsimp only); all_goals (omega), by (try dsimp only); all_goals (omega)⟩

set_option maxHeartbeats 4000000 in
set_option maxRecDepth 100000 in
theorem c_X6_dryHourOf (lx : Launch) (D : va_G) (cs : Nat → ClassId) (aw : Nat → Nat) (hour : Int) (grt : Int) (beg : Int) (laid : Int → Int) (dryh : Int → Int) (x : Int) (hx : -2147483648 ≤ x ∧ x < 2147483648) (hlaid : Rn laid 0 1) : Ci lx D cs yX6_dryHourOf wsX6_dryHourOf ({ frames := 2, cells := 0, slots := 0, locals := 45 }) [.ref (aw 0), .int (iI x)] [oW aw hour grt beg, aC (cs 1) (aw 1) 8 laid, aC (cs 0) (aw 2) 8 dryh] (fun (z : Int) (u : Unit) => (((0 ≤ x ∧ x < 8) ∧ laid x = 1) → z = dryh x) ∧ (¬ ((0 ≤ x ∧ x < 8) ∧ laid x = 1) → z = -1)) (fun u : Unit => [oW aw hour grt beg, aC (cs 1) (aw 1) 8 laid, aC (cs 0) (aw 2) 8 dryh]) 0 0 := by
  refine Ci_of (cc := cX6_dryHourOf) (nL := 2) (ret := (some .int)) (lv0 := [(0, .ref (aw 0)), (1, .int (iI x))]) RX6 "dryHourOf" (by decide +kernel) rfl (Nat.le_of_ble_eq_true rfl) rfl (fun p9 e9 s9 m9 ar9 be9 me9 c9 A9 Q9 hQ hC => ?_)
  have iX6 : ∀ w ∈ wsX60, w ∈ wsX6_dryHourOf := by decide +kernel
  have L0 : Cond.fieldLink RX6 26 "Groutline$Work" "dryHours" "[I" ∈ wsX6_dryHourOf := by decide +kernel
  refine v_aload_n hC 1 0 dX6_dryHourOf_0 rfl rfl rfl ?_
  refine v_iload_n hC 2 1 dX6_dryHourOf_1 rfl rfl rfl ?_
  refine v_callVi hC 5 1 [0, 1, 2] [] [] (As := [.int (iI x)]) (rest := []) (c_X6_isLaid lx D cs aw hour grt beg laid dryh x (by omega) (by assumption)) dX6_dryHourOf_2 rfl rfl 0 rfl rfl gX6_dryHourOf_X6_isLaid rfl rfl rfl (by decide +kernel) ⟨by decide, by decide⟩ rfl rfl rfl rfl (by decide) rfl (Nat.le_of_ble_eq_true rfl) ⟨rfl, rfl⟩ ⟨by decide, by decide⟩ (fun z2 u2 h2 => ?_)
  (try dsimp only at h2)
  obtain ⟨h2_1, h2_2⟩ := h2
  show V p9 lx e9 ({ frames := 2, cells := 0, slots := 0, locals := 45 }) s9 m9 ar9 be9 me9 c9 Q9 D A9 s9.heap 2 0 0 [oW aw hour grt beg, aC (cs 1) (aw 1) 8 laid, aC (cs 0) (aw 2) 8 dryh] [(0, .ref (aw 0)), (1, .int (iI x))] 5 [.int (iI z2)]
  refine v_if_eq hC 17 8 dX6_dryHourOf_5 (by decide) rfl (by omega) (fun c_5 => ?_) (fun c_5 => ?_)
  · skip
    refine v_iconst hC 18 dX6_dryHourOf_17 rfl ?_
    exact v_iret hC hQ () [0, 1, 2] dX6_dryHourOf_18 rfl rfl ⟨by decide, by decide⟩ ⟨by (try dsimp only); all_goals (intro _; first | rfl | (exfalso; omega)), by (try dsimp only); all_goals (intro _; first | rfl | (exfalso; omega))⟩
  · skip
    refine v_aload_n hC 9 0 dX6_dryHourOf_8 rfl rfl rfl ?_
    refine v_get hC 12 0 4 (C := RX6) (T := TX6) (N := 5) dX6_dryHourOf_9 rfl iX6 L0 rfl rfl (by decide) rfl ?_
    refine v_iload_n hC 13 1 dX6_dryHourOf_12 rfl rfl rfl ?_
    refine v_iald hC 14 2 dX6_dryHourOf_13 rfl rfl (by decide) (by omega) ?_
    refine v_goto hC 18 dX6_dryHourOf_14 (by decide) ?_
    exact v_iret hC hQ () [0, 1, 2] dX6_dryHourOf_18 rfl rfl ⟨by decide, by decide⟩ ⟨by (try dsimp only); all_goals (intro _; first | rfl | (exfalso; omega)), by (try dsimp only); all_goals (intro _; first | rfl | (exfalso; omega))⟩

set_option maxHeartbeats 4000000 in
set_option maxRecDepth 100000 in
theorem c_X6_canStart (lx : Launch) (D : va_G) (cs : Nat → ClassId) (aw : Nat → Nat) (hour : Int) (grt : Int) (beg : Int) (laid : Int → Int) (dryh : Int → Int) (x : Int) (hx : 0 ≤ x ∧ x < 8) (hlaid : Rn laid 0 1) (hdry : Rn dryh 0 1000000) (hhr : 0 ≤ hour ∧ hour ≤ 1000000) : Ci lx D cs yX6_canStart wsX6_canStart ({ frames := 2, cells := 0, slots := 0, locals := 45 }) [.ref (aw 0), .int (iI x)] [oW aw hour grt beg, aC (cs 1) (aw 1) 8 laid, aC (cs 0) (aw 2) 8 dryh] (fun (z : Int) (u : Unit) => (z = 0 ∨ z = 1) ∧ (z = 1 ↔ laid x ≠ 1 ∧ ∀ j : Int, 0 ≤ j → j < x → laid j = 1 → dryh j ≤ hour)) (fun u : Unit => [oW aw hour grt beg, aC (cs 1) (aw 1) 8 laid, aC (cs 0) (aw 2) 8 dryh]) 0 0 := by
  refine Ci_of (cc := cX6_canStart) (nL := 3) (ret := (some .boolean)) (lv0 := [(0, .ref (aw 0)), (1, .int (iI x))]) RX6 "canStart" (by decide +kernel) rfl (Nat.le_of_ble_eq_true rfl) rfl (fun p9 e9 s9 m9 ar9 be9 me9 c9 A9 Q9 hQ hC => ?_)
  have iX6 : ∀ w ∈ wsX60, w ∈ wsX6_canStart := by decide +kernel
  have L0 : Cond.fieldLink RX6 22 "Groutline$Work" "laid" "[Z" ∈ wsX6_canStart := by decide +kernel
  have L1 : Cond.fieldLink RX6 9 "Groutline$Work" "hour" "I" ∈ wsX6_canStart := by decide +kernel
  have L2 : Cond.fieldLink RX6 26 "Groutline$Work" "dryHours" "[I" ∈ wsX6_canStart := by decide +kernel
  refine v_aload_n hC 1 0 dX6_canStart_0 rfl rfl rfl ?_
  refine v_iload_n hC 2 1 dX6_canStart_1 rfl rfl rfl ?_
  refine v_callVi hC 5 1 [0, 1, 2] [] [] (As := [.int (iI x)]) (rest := []) (c_X6_isLaid lx D cs aw hour grt beg laid dryh x (by omega) (by assumption)) dX6_canStart_2 rfl rfl 0 rfl rfl gX6_canStart_X6_isLaid rfl rfl rfl (by decide +kernel) ⟨by decide, by decide⟩ rfl rfl rfl rfl (by decide) rfl (Nat.le_of_ble_eq_true rfl) ⟨rfl, rfl⟩ ⟨by decide, by decide⟩ (fun z2 u2 h2 => ?_)
  (try dsimp only at h2)
  obtain ⟨h2_1, h2_2⟩ := h2
  show V p9 lx e9 ({ frames := 2, cells := 0, slots := 0, locals := 45 }) s9 m9 ar9 be9 me9 c9 Q9 D A9 s9.heap 3 0 0 [oW aw hour grt beg, aC (cs 1) (aw 1) 8 laid, aC (cs 0) (aw 2) 8 dryh] [(0, .ref (aw 0)), (1, .int (iI x))] 5 [.int (iI z2)]
  refine v_if_eq hC 10 8 dX6_canStart_5 (by decide) rfl (by omega) (fun c_5 => ?_) (fun c_5 => ?_)
  · skip
    refine v_iconst hC 11 dX6_canStart_10 rfl ?_
    refine v_istore_n hC 12 [(2, .int (iI 0)), (0, .ref (aw 0)), (1, .int (iI x))] dX6_canStart_11 rfl rfl (by decide) rfl ?_
    have cut_12 : ∀ (n : Nat) (i : Int), (0 ≤ i ∧ i ≤ x) → (∀ j : Int, 0 ≤ j → j < i → laid j = 1 → dryh j ≤ hour) → (x - i < (n : Int)) → V p9 lx e9 ({ frames := 2, cells := 0, slots := 0, locals := 45 }) s9 m9 ar9 be9 me9 c9 Q9 D A9 s9.heap 3 0 0 [oW aw hour grt beg, aC (cs 1) (aw 1) 8 laid, aC (cs 0) (aw 2) 8 dryh] [(0, .ref (aw 0)), (1, .int (iI x)), (2, .int (iI i))] 12 [] := by
      intro n
      induction n with
      | zero =>
        intro i hi hall hn
        exfalso; omega
      | succ n ih =>
        intro i hi hall hn
        have ih_12 := ih
        clear ih
        refine v_iload_n hC 13 2 dX6_canStart_12 rfl rfl rfl ?_
        refine v_iload_n hC 14 1 dX6_canStart_13 rfl rfl rfl ?_
        refine v_icmp_ge hC 53 17 dX6_canStart_14 (by decide) rfl (by omega) (by omega) (fun c_14 => ?_) (fun c_14 => ?_)
        · skip
          refine v_iconst hC 54 dX6_canStart_53 rfl ?_
          exact v_zret hC hQ () [0, 1, 2] dX6_canStart_54 (by omega) rfl rfl ⟨by decide, by decide⟩ ⟨by (try dsimp only); all_goals (omega), by (try dsimp only); all_goals (exact ⟨fun _ => ⟨fun q => absurd (h2_2.mpr ⟨hx, q⟩) (by omega), fun j h1 h2 h3 => hall j h1 (by omega) h3⟩, fun _ => rfl⟩)⟩
        · skip
          refine v_iload_n hC 18 2 dX6_canStart_17 rfl rfl rfl ?_
          refine v_bipush hC 20 dX6_canStart_18 rfl rfl ?_
          refine v_icmp_ge hC 53 23 dX6_canStart_20 (by decide) rfl (by omega) (by omega) (fun c_20 => ?_) (fun c_20 => ?_)
          · skip
            refine v_iconst hC 54 dX6_canStart_53 rfl ?_
            exact v_zret hC hQ () [0, 1, 2] dX6_canStart_54 (by omega) rfl rfl ⟨by decide, by decide⟩ ⟨by (try dsimp only); all_goals (omega), by (try dsimp only); all_goals (exact ⟨fun _ => ⟨fun q => absurd (h2_2.mpr ⟨hx, q⟩) (by omega), fun j h1 h2 h3 => hall j h1 (by omega) h3⟩, fun _ => rfl⟩)⟩
          · skip
            refine v_aload_n hC 24 0 dX6_canStart_23 rfl rfl rfl ?_
            refine v_get hC 27 0 3 (C := RX6) (T := TX6) (N := 5) dX6_canStart_24 rfl iX6 L0 rfl rfl (by decide) rfl ?_
            refine v_iload_n hC 28 2 dX6_canStart_27 rfl rfl rfl ?_
            refine v_zald hC 29 1 dX6_canStart_28 rfl rfl (by decide) (by omega) ?_
            have r_28 := hlaid i
            refine v_if_eq hC 47 32 dX6_canStart_29 (by decide) rfl (by omega) (fun c_29 => ?_) (fun c_29 => ?_)
            · skip
              refine v_iinc hC 50 2 [(2, .int (iI (i + 1))), (0, .ref (aw 0)), (1, .int (iI x))] dX6_canStart_47 rfl rfl (by decide) rfl ?_
              refine v_goto hC 12 dX6_canStart_50 (by decide) ?_
              exact v_sub [0, 1, 2] [1, 2, 0] _ _ rfl rfl rfl (ih_12 (i + 1) (by omega) (by intro j h1 h2 h3; by_cases hj : j = i <;> first | exact hall j h1 (by omega) h3 | (subst hj; omega)) (by omega))
            · skip
              refine v_aload_n hC 33 0 dX6_canStart_32 rfl rfl rfl ?_
              refine v_get hC 36 0 0 (C := RX6) (T := TX6) (N := 5) dX6_canStart_33 rfl iX6 L1 rfl rfl (by decide) rfl ?_
              refine v_aload_n hC 37 0 dX6_canStart_36 rfl rfl rfl ?_
              refine v_get hC 40 0 4 (C := RX6) (T := TX6) (N := 5) dX6_canStart_37 rfl iX6 L2 rfl rfl (by decide) rfl ?_
              refine v_iload_n hC 41 2 dX6_canStart_40 rfl rfl rfl ?_
              refine v_iald hC 42 2 dX6_canStart_41 rfl rfl (by decide) (by omega) ?_
              have r_41 := hdry i
              refine v_icmp_ge hC 47 45 dX6_canStart_42 (by decide) rfl (by omega) (by omega) (fun c_42 => ?_) (fun c_42 => ?_)
              · skip
                refine v_iinc hC 50 2 [(2, .int (iI (i + 1))), (0, .ref (aw 0)), (1, .int (iI x))] dX6_canStart_47 rfl rfl (by decide) rfl ?_
                refine v_goto hC 12 dX6_canStart_50 (by decide) ?_
                exact v_sub [0, 1, 2] [1, 2, 0] _ _ rfl rfl rfl (ih_12 (i + 1) (by omega) (by intro j h1 h2 h3; by_cases hj : j = i <;> first | exact hall j h1 (by omega) h3 | (subst hj; omega)) (by omega))
              · skip
                refine v_iconst hC 46 dX6_canStart_45 rfl ?_
                exact v_zret hC hQ () [0, 1, 2] dX6_canStart_46 (by omega) rfl rfl ⟨by decide, by decide⟩ ⟨by (try dsimp only); all_goals (omega), by (try dsimp only); all_goals (exact ⟨fun h => absurd h (by omega), fun h => absurd (h.2 i (by omega) (by omega) (by omega)) (by omega)⟩)⟩
    exact v_sub [0, 1, 2] [1, 2, 0] _ _ rfl rfl rfl (cut_12 (Int.toNat (x - 0) + 1) 0 (by omega) (by intro j h1 h2; exfalso; omega) (by omega))
  · skip
    refine v_iconst hC 9 dX6_canStart_8 rfl ?_
    exact v_zret hC hQ () [0, 1, 2] dX6_canStart_9 (by omega) rfl rfl ⟨by decide, by decide⟩ ⟨by (try dsimp only); all_goals (omega), by (try dsimp only); all_goals (exact ⟨fun h => absurd h (by omega), fun h => absurd (h2_2.mp (by omega)).2 h.1⟩)⟩

set_option maxHeartbeats 4000000 in
set_option maxRecDepth 100000 in
theorem c_X6_finish (lx : Launch) (D : va_G) (cs : Nat → ClassId) (aw : Nat → Nat) (hour : Int) (grt : Int) (beg : Int) (laid : Int → Int) (dryh : Int → Int) (x : Int) (n : Int) (hx : 0 ≤ x ∧ x < 8) (hn : 0 ≤ n ∧ n ≤ 1000) (hhr : 0 ≤ hour ∧ hour ≤ 1000000) (hg : 0 ≤ grt ∧ grt ≤ 48) : Cv lx D cs yX6_finish wsX6_finish ({ frames := 2, cells := 0, slots := 0, locals := 45 }) [.ref (aw 0), .int (iI x), .int (iI n)] [oW aw hour grt beg, aC (cs 1) (aw 1) 8 laid, aC (cs 0) (aw 2) 8 dryh] (fun (u : Unit) => True) (fun u : Unit => [oW aw (hour + (n + 4 - 1) / 4) grt 1, aC (cs 1) (aw 1) 8 (uI laid x 1), aC (cs 0) (aw 2) 8 (uI dryh x (hour + (n + 4 - 1) / 4 + grt))]) 0 0 := by
  refine Cv_of (cc := cX6_finish) (nL := 3) (ret := none) (lv0 := [(0, .ref (aw 0)), (1, .int (iI x)), (2, .int (iI n))]) RX6 "finish" (by decide +kernel) rfl (Nat.le_of_ble_eq_true rfl) rfl (fun p9 e9 s9 m9 ar9 be9 me9 c9 A9 Q9 hQ hC => ?_)
  have iX6 : ∀ w ∈ wsX60, w ∈ wsX6_finish := by decide +kernel
  have L0 : Cond.fieldLink RX6 9 "Groutline$Work" "hour" "I" ∈ wsX6_finish := by decide +kernel
  have L1 : Cond.initialized yX7_timesIn.cls ∈ wsX6_finish := by decide +kernel
  have L2 : Cond.static yX7_timesIn ∈ wsX6_finish := by decide +kernel
  have L3 : Cond.fieldLink RX6 22 "Groutline$Work" "laid" "[Z" ∈ wsX6_finish := by decide +kernel
  have L4 : Cond.fieldLink RX6 26 "Groutline$Work" "dryHours" "[I" ∈ wsX6_finish := by decide +kernel
  have L5 : Cond.fieldLink RX6 15 "Groutline$Work" "groutHours" "I" ∈ wsX6_finish := by decide +kernel
  have L6 : Cond.fieldLink RX6 18 "Groutline$Work" "hasBegun" "Z" ∈ wsX6_finish := by decide +kernel
  refine v_iload_n hC 1 1 dX6_finish_0 rfl rfl rfl ?_
  refine v_if_lt hC 10 4 dX6_finish_1 (by decide) rfl (by omega) (fun c_1 => ?_) (fun c_1 => ?_)
  · exfalso; omega
  · skip
    refine v_iload_n hC 5 1 dX6_finish_4 rfl rfl rfl ?_
    refine v_bipush hC 7 dX6_finish_5 rfl rfl ?_
    refine v_icmp_lt hC 11 10 dX6_finish_7 (by decide) rfl (by omega) (by omega) (fun c_7 => ?_) (fun c_7 => ?_)
    · skip
      refine v_aload_n hC 12 0 dX6_finish_11 rfl rfl rfl ?_
      refine v_dup hC 13 dX6_finish_12 rfl rfl ?_
      refine v_get hC 16 0 0 (C := RX6) (T := TX6) (N := 5) dX6_finish_13 rfl iX6 L0 rfl rfl (by decide) rfl ?_
      refine v_iconst hC 17 dX6_finish_16 rfl ?_
      refine v_iload_n hC 18 2 dX6_finish_17 rfl rfl rfl ?_
      refine v_iconst hC 19 dX6_finish_18 rfl ?_
      refine v_iadd hC 20 (n + 4) dX6_finish_19 rfl rfl ?_
      refine v_iconst hC 21 dX6_finish_20 rfl ?_
      refine v_isub hC 22 (n + 4 - 1) dX6_finish_21 rfl rfl ?_
      refine v_callSNi hC 25 2 [] [0, 1, 2] [oW aw hour grt beg, aC (cs 1) (aw 1) 8 laid, aC (cs 0) (aw 2) 8 dryh] (As := [.int (iI 4), .int (iI (n + 4 - 1))]) (rest := [.int (iI hour), .ref (aw 0)]) (c_X7_timesIn lx D cs 4 (n + 4 - 1) (by omega) (by omega)) dX6_finish_22 rfl rfl gX6_finish_X7_timesIn_n34 L1 L2 RX7 (by decide +kernel) rfl rfl rfl (by decide +kernel) ⟨by decide, by decide⟩ rfl rfl rfl rfl (by decide) rfl (Nat.le_of_ble_eq_true rfl) ⟨rfl, rfl⟩ ⟨by decide, by decide⟩ (fun z22 u22 h22 => ?_)
      (try dsimp only at h22)
      subst h22
      show V p9 lx e9 ({ frames := 2, cells := 0, slots := 0, locals := 45 }) s9 m9 ar9 be9 me9 c9 Q9 D A9 s9.heap 3 0 0 [oW aw hour grt beg, aC (cs 1) (aw 1) 8 laid, aC (cs 0) (aw 2) 8 dryh] [(0, .ref (aw 0)), (1, .int (iI x)), (2, .int (iI n))] 25 [.int (iI ((n + 4 - 1) / 4)), .int (iI hour), .ref (aw 0)]
      refine v_iadd hC 26 (hour + ((n + 4 - 1) / 4)) dX6_finish_25 rfl rfl ?_
      refine v_put hC 29 0 0 [oW aw (hour + ((n + 4 - 1) / 4)) grt beg, aC (cs 1) (aw 1) 8 laid, aC (cs 0) (aw 2) 8 dryh] (C := RX6) (T := TX6) (N := 5) dX6_finish_26 rfl iX6 tyX6_ok nmX6 L0 rfl rfl (by decide) rfl rfl rfl (Nat.le_of_ble_eq_true rfl) rfl ?_
      refine v_aload_n hC 30 0 dX6_finish_29 rfl rfl rfl ?_
      refine v_get hC 33 0 3 (C := RX6) (T := TX6) (N := 5) dX6_finish_30 rfl iX6 L3 rfl rfl (by decide) rfl ?_
      refine v_iload_n hC 34 1 dX6_finish_33 rfl rfl rfl ?_
      refine v_iconst hC 35 dX6_finish_34 rfl ?_
      refine v_zast hC 36 1 [oW aw (hour + ((n + 4 - 1) / 4)) grt beg, aC (cs 1) (aw 1) 8 (uI laid x 1), aC (cs 0) (aw 2) 8 dryh] dX6_finish_35 rfl rfl (by decide) (by omega) (by omega) rfl ?_
      refine v_aload_n hC 37 0 dX6_finish_36 rfl rfl rfl ?_
      refine v_get hC 40 0 4 (C := RX6) (T := TX6) (N := 5) dX6_finish_37 rfl iX6 L4 rfl rfl (by decide) rfl ?_
      refine v_iload_n hC 41 1 dX6_finish_40 rfl rfl rfl ?_
      refine v_aload_n hC 42 0 dX6_finish_41 rfl rfl rfl ?_
      refine v_get hC 45 0 0 (C := RX6) (T := TX6) (N := 5) dX6_finish_42 rfl iX6 L0 rfl rfl (by decide) rfl ?_
      refine v_aload_n hC 46 0 dX6_finish_45 rfl rfl rfl ?_
      refine v_get hC 49 0 1 (C := RX6) (T := TX6) (N := 5) dX6_finish_46 rfl iX6 L5 rfl rfl (by decide) rfl ?_
      refine v_iadd hC 50 (hour + ((n + 4 - 1) / 4) + grt) dX6_finish_49 rfl rfl ?_
      refine v_iast hC 51 2 [oW aw (hour + ((n + 4 - 1) / 4)) grt beg, aC (cs 1) (aw 1) 8 (uI laid x 1), aC (cs 0) (aw 2) 8 (uI dryh x (hour + ((n + 4 - 1) / 4) + grt))] dX6_finish_50 rfl rfl (by decide) (by omega) rfl ?_
      refine v_aload_n hC 52 0 dX6_finish_51 rfl rfl rfl ?_
      refine v_iconst hC 53 dX6_finish_52 rfl ?_
      refine v_put hC 56 0 2 [oW aw (hour + ((n + 4 - 1) / 4)) grt 1, aC (cs 1) (aw 1) 8 (uI laid x 1), aC (cs 0) (aw 2) 8 (uI dryh x (hour + ((n + 4 - 1) / 4) + grt))] (C := RX6) (T := TX6) (N := 5) dX6_finish_53 rfl iX6 tyX6_ok nmX6 L6 rfl rfl (by decide) rfl (iI_01 (by omega)) rfl (Nat.le_of_ble_eq_true rfl) rfl ?_
      exact v_vret hC hQ () [0, 1, 2] dX6_finish_56 rfl rfl ⟨by decide, by decide⟩ trivial
    · exfalso; omega

set_option maxHeartbeats 4000000 in
set_option maxRecDepth 100000 in
theorem c_X0_renew (lx : Launch) (D : va_G) (cs : Nat → ClassId) (ab : Nat → Nat) (al : Nat) (aw : Nat → Nat) (door : Int) (pil : Int → Int) (bar : Int → Int) (wide : Int) (high : Int) (border : Int) (pattern : Int) (hour : Int) (grt : Int) (beg : Int) (laid : Int → Int) (dryh : Int → Int) (hh : 1 ≤ high ∧ high ≤ 4) (hb : 0 ≤ border ∧ border ≤ 2) (hd : 0 ≤ door ∧ door ≤ 10) (hpil : Rn pil 0 1) (hlaid : Rn laid 0 1) : Cv lx D cs yX0_renew wsX0_renew ({ frames := 5, cells := 0, slots := 0, locals := 107 }) [.ref (ab 0), .ref al, .ref (aw 0)] [oB ab door, aC (cs 1) (ab 1) 96 pil, aC (cs 1) (ab 2) 96 bar, oL al wide high border pattern, oW aw hour grt beg, aC (cs 1) (aw 1) 8 laid, aC (cs 0) (aw 2) 8 dryh] (fun (u : (Int → Int)) => (u = rnw pil bar laid door high border 8)) (fun u : (Int → Int) => [oB ab door, aC (cs 1) (ab 1) 96 pil, aC (cs 1) (ab 2) 96 u, oL al wide high border pattern, oW aw hour grt beg, aC (cs 1) (aw 1) 8 laid, aC (cs 0) (aw 2) 8 dryh]) 0 0 := by
  refine Cv_of (cc := cX0_renew) (nL := 4) (ret := none) (lv0 := [(0, .ref (ab 0)), (1, .ref al), (2, .ref (aw 0))]) RX0 "renew" (by decide +kernel) rfl (Nat.le_of_ble_eq_true rfl) rfl (fun p9 e9 s9 m9 ar9 be9 me9 c9 A9 Q9 hQ hC => ?_)
  refine v_iconst hC 1 dX0_renew_0 rfl ?_
  refine v_istore_n hC 2 [(3, .int (iI 0)), (0, .ref (ab 0)), (1, .ref al), (2, .ref (aw 0))] dX0_renew_1 rfl rfl (by decide) rfl ?_
  have cut_2 : ∀ (n : Nat) (y2 : Int) (bar2 : Int → Int), (0 ≤ y2 ∧ y2 ≤ 8) → (bar2 = rnw pil bar laid door high border y2) → (8 - y2 < (n : Int)) → V p9 lx e9 ({ frames := 5, cells := 0, slots := 0, locals := 107 }) s9 m9 ar9 be9 me9 c9 Q9 D A9 s9.heap 4 0 0 [oB ab door, aC (cs 1) (ab 1) 96 pil, aC (cs 1) (ab 2) 96 bar2, oL al wide high border pattern, oW aw hour grt beg, aC (cs 1) (aw 1) 8 laid, aC (cs 0) (aw 2) 8 dryh] [(0, .ref (ab 0)), (1, .ref al), (2, .ref (aw 0)), (3, .int (iI y2))] 2 [] := by
    intro n
    induction n with
    | zero =>
      intro y2 bar2 hy2 hbar2 hn
      exfalso; omega
    | succ n ih =>
      intro y2 bar2 hy2 hbar2 hn
      have ih_2 := ih
      clear ih
      refine v_iload_n hC 3 3 dX0_renew_2 rfl rfl rfl ?_
      refine v_bipush hC 5 dX0_renew_3 rfl rfl ?_
      refine v_icmp_ge hC 31 8 dX0_renew_5 (by decide) rfl (by omega) (by omega) (fun c_5 => ?_) (fun c_5 => ?_)
      · skip
        exact v_vret hC hQ bar2 [0, 1, 2, 3, 4, 5, 6] dX0_renew_31 rfl rfl ⟨by decide, by decide⟩ (by (try dsimp only); all_goals (rw [hbar2, show y2 = 8 by omega]))
      · skip
        refine v_aload_n hC 9 2 dX0_renew_8 rfl rfl rfl ?_
        refine v_aload_n hC 10 1 dX0_renew_9 rfl rfl rfl ?_
        refine v_iload_n hC 11 3 dX0_renew_10 rfl rfl rfl ?_
        refine v_callVi hC 14 1 [3] [0, 1, 2, 4, 5, 6] [oB ab door, aC (cs 1) (ab 1) 96 pil, aC (cs 1) (ab 2) 96 bar2, oW aw hour grt beg, aC (cs 1) (aw 1) 8 laid, aC (cs 0) (aw 2) 8 dryh] (As := [.int (iI y2)]) (rest := [.ref (aw 0)]) (c_X3_stripOfRow lx D cs al wide high border pattern y2 (by omega) (by omega) (by omega)) dX0_renew_11 rfl rfl 3 rfl rfl gX0_renew_X3_stripOfRow rfl rfl rfl (by decide +kernel) ⟨by decide, by decide⟩ rfl rfl rfl rfl (by decide) rfl (Nat.le_of_ble_eq_true rfl) ⟨rfl, rfl⟩ ⟨by decide, by decide⟩ (fun z11 u11 h11 => ?_)
        (try dsimp only at h11)
        subst h11
        show V p9 lx e9 ({ frames := 5, cells := 0, slots := 0, locals := 107 }) s9 m9 ar9 be9 me9 c9 Q9 D A9 s9.heap 4 0 0 [oB ab door, aC (cs 1) (ab 1) 96 pil, aC (cs 1) (ab 2) 96 bar2, oW aw hour grt beg, aC (cs 1) (aw 1) 8 laid, aC (cs 0) (aw 2) 8 dryh, oL al wide high border pattern] [(0, .ref (ab 0)), (1, .ref al), (2, .ref (aw 0)), (3, .int (iI y2))] 14 [.int (iI (sR high border y2)), .ref (aw 0)]
        have hs9 := sR_rng hh hb (show 0 ≤ y2 ∧ y2 < 8 by omega)
        have hn9 := nS_rng hh hb
        refine v_callVi hC 17 1 [3, 4, 5] [0, 1, 2, 6] [oB ab door, aC (cs 1) (ab 1) 96 pil, aC (cs 1) (ab 2) 96 bar2, oL al wide high border pattern] (As := [.int (iI (sR high border y2))]) (rest := []) (c_X6_isLaid lx D cs aw hour grt beg laid dryh (sR high border y2) (by omega) (by assumption)) dX0_renew_14 rfl rfl 3 rfl rfl gX0_renew_X6_isLaid rfl rfl rfl (by decide +kernel) ⟨by decide, by decide⟩ rfl rfl rfl rfl (by decide) rfl (Nat.le_of_ble_eq_true rfl) ⟨rfl, rfl⟩ ⟨by decide, by decide⟩ (fun z14 u14 h14 => ?_)
        (try dsimp only at h14)
        obtain ⟨h14_1, h14_2⟩ := h14
        show V p9 lx e9 ({ frames := 5, cells := 0, slots := 0, locals := 107 }) s9 m9 ar9 be9 me9 c9 Q9 D A9 s9.heap 4 0 0 [oB ab door, aC (cs 1) (ab 1) 96 pil, aC (cs 1) (ab 2) 96 bar2, oL al wide high border pattern, oW aw hour grt beg, aC (cs 1) (aw 1) 8 laid, aC (cs 0) (aw 2) 8 dryh] [(0, .ref (ab 0)), (1, .ref al), (2, .ref (aw 0)), (3, .int (iI y2))] 17 [.int (iI z14)]
        refine v_if_ne hC 25 20 dX0_renew_17 (by decide) rfl (by omega) (fun c_17 => ?_) (fun c_17 => ?_)
        · skip
          refine v_iinc hC 28 3 [(3, .int (iI (y2 + 1))), (0, .ref (ab 0)), (1, .ref al), (2, .ref (aw 0))] dX0_renew_25 rfl rfl (by decide) rfl ?_
          refine v_goto hC 2 dX0_renew_28 (by decide) ?_
          exact v_sub [0, 1, 2, 3, 4, 5, 6] [1, 2, 3, 0] _ _ rfl rfl rfl (ih_2 (y2 + 1) bar2 (by omega) (by first | (rw [h22, hbar2]; exact rnw_step pil bar laid door high border y2 hy2.1 (fun q => absurd (h14_2.mpr ⟨by omega, q⟩) (by omega))) | (rw [hbar2]; exact rnw_skip pil bar laid door high border y2 (h14_2.mp (by omega)).2)) (by omega))
        · skip
          refine v_aload_n hC 21 0 dX0_renew_20 rfl rfl rfl ?_
          refine v_iload_n hC 22 3 dX0_renew_21 rfl rfl rfl ?_
          refine v_callVv hC 25 1 [0, 1, 2] [3, 4, 5, 6] [oL al wide high border pattern, oW aw hour grt beg, aC (cs 1) (aw 1) 8 laid, aC (cs 0) (aw 2) 8 dryh] (As := [.int (iI y2)]) (rest := []) (c_X0_renewRow lx D cs ab door pil bar2 y2 (by omega) (by omega) (by assumption)) dX0_renew_22 rfl rfl 0 rfl rfl gX0_renew_X0_renewRow rfl rfl rfl (by decide +kernel) ⟨by decide, by decide⟩ rfl rfl rfl rfl (by decide) rfl (Nat.le_of_ble_eq_true rfl) ⟨rfl, rfl⟩ ⟨by decide, by decide⟩ (fun u22 h22 => ?_)
          obtain ⟨bar1_22, rfl⟩ : ∃ y9, y9 = u22 := ⟨_, rfl⟩
          (try dsimp only at h22)
          show V p9 lx e9 ({ frames := 5, cells := 0, slots := 0, locals := 107 }) s9 m9 ar9 be9 me9 c9 Q9 D A9 s9.heap 4 0 0 [oL al wide high border pattern, oW aw hour grt beg, aC (cs 1) (aw 1) 8 laid, aC (cs 0) (aw 2) 8 dryh, oB ab door, aC (cs 1) (ab 1) 96 pil, aC (cs 1) (ab 2) 96 bar1_22] [(0, .ref (ab 0)), (1, .ref al), (2, .ref (aw 0)), (3, .int (iI y2))] 25 []
          refine v_iinc hC 28 3 [(3, .int (iI (y2 + 1))), (0, .ref (ab 0)), (1, .ref al), (2, .ref (aw 0))] dX0_renew_25 rfl rfl (by decide) rfl ?_
          refine v_goto hC 2 dX0_renew_28 (by decide) ?_
          exact v_sub [4, 5, 6, 0, 1, 2, 3] [1, 2, 3, 0] _ _ rfl rfl rfl (ih_2 (y2 + 1) bar1_22 (by omega) (by first | (rw [h22, hbar2]; exact rnw_step pil bar laid door high border y2 hy2.1 (fun q => absurd (h14_2.mpr ⟨by omega, q⟩) (by omega))) | (rw [hbar2]; exact rnw_skip pil bar laid door high border y2 (h14_2.mp (by omega)).2)) (by omega))
  exact v_sub [0, 1, 2, 3, 4, 5, 6] [1, 2, 3, 0] _ _ rfl rfl rfl (cut_2 (Int.toNat (8 - 0) + 1) 0 bar (by omega) (by exact (rnw_0 pil bar laid door high border).symm) (by omega))

set_option maxHeartbeats 4000000 in
set_option maxRecDepth 100000 in
theorem c_X5_isFull (lx : Launch) (D : va_G) (cs : Nat → ClassId) (ak : Nat → Nat) (kc : Int) (km : Int) (kf : Int → Int) (kt : Int → Int) (hk : 0 ≤ kc ∧ kc ≤ 20) : Ci lx D cs yX5_isFull wsX5_isFull ({ frames := 1, cells := 0, slots := 0, locals := 24 }) [.ref (ak 0)] [oK ak kc km, aC (cs 0) (ak 1) 20 kf, aC (cs 0) (ak 2) 20 kt] (fun (z : Int) (u : Unit) => (z = 0 ∨ z = 1) ∧ (z = 1 ↔ 20 ≤ kc)) (fun u : Unit => [oK ak kc km, aC (cs 0) (ak 1) 20 kf, aC (cs 0) (ak 2) 20 kt]) 0 0 := by
  refine Ci_of (cc := cX5_isFull) (nL := 1) (ret := (some .boolean)) (lv0 := [(0, .ref (ak 0))]) RX5 "isFull" (by decide +kernel) rfl (Nat.le_of_ble_eq_true rfl) rfl (fun p9 e9 s9 m9 ar9 be9 me9 c9 A9 Q9 hQ hC => ?_)
  have iX5 : ∀ w ∈ wsX50, w ∈ wsX5_isFull := by decide +kernel
  have L0 : Cond.fieldLink RX5 9 "Groutline$Stack" "count" "I" ∈ wsX5_isFull := by decide +kernel
  refine v_aload_n hC 1 0 dX5_isFull_0 rfl rfl rfl ?_
  refine v_get hC 4 0 0 (C := RX5) (T := TX5) (N := 4) dX5_isFull_1 rfl iX5 L0 rfl rfl (by decide) rfl ?_
  refine v_bipush hC 6 dX5_isFull_4 rfl rfl ?_
  refine v_icmp_lt hC 13 9 dX5_isFull_6 (by decide) rfl (by omega) (by omega) (fun c_6 => ?_) (fun c_6 => ?_)
  · skip
    refine v_iconst hC 14 dX5_isFull_13 rfl ?_
    exact v_zret hC hQ () [0, 1, 2] dX5_isFull_14 (by omega) rfl rfl ⟨by decide, by decide⟩ ⟨by (try dsimp only); all_goals (omega), by (try dsimp only); all_goals (omega)⟩
  · skip
    refine v_iconst hC 10 dX5_isFull_9 rfl ?_
    refine v_goto hC 14 dX5_isFull_10 (by decide) ?_
    exact v_zret hC hQ () [0, 1, 2] dX5_isFull_14 (by omega) rfl rfl ⟨by decide, by decide⟩ ⟨by (try dsimp only); all_goals (omega), by (try dsimp only); all_goals (omega)⟩

set_option maxHeartbeats 4000000 in
set_option maxRecDepth 100000 in
theorem c_X5_has (lx : Launch) (D : va_G) (cs : Nat → ClassId) (ak : Nat → Nat) (kc : Int) (km : Int) (kf : Int → Int) (kt : Int → Int) (x : Int) (hk : 0 ≤ kc ∧ kc ≤ 20) (hx : -2147483648 ≤ x ∧ x < 2147483648) : Ci lx D cs yX5_has wsX5_has ({ frames := 1, cells := 0, slots := 0, locals := 24 }) [.ref (ak 0), .int (iI x)] [oK ak kc km, aC (cs 0) (ak 1) 20 kf, aC (cs 0) (ak 2) 20 kt] (fun (z : Int) (u : Unit) => (z = 0 ∨ z = 1) ∧ (z = 1 ↔ 0 ≤ x ∧ x < kc)) (fun u : Unit => [oK ak kc km, aC (cs 0) (ak 1) 20 kf, aC (cs 0) (ak 2) 20 kt]) 0 0 := by
  refine Ci_of (cc := cX5_has) (nL := 2) (ret := (some .boolean)) (lv0 := [(0, .ref (ak 0)), (1, .int (iI x))]) RX5 "has" (by decide +kernel) rfl (Nat.le_of_ble_eq_true rfl) rfl (fun p9 e9 s9 m9 ar9 be9 me9 c9 A9 Q9 hQ hC => ?_)
  have iX5 : ∀ w ∈ wsX50, w ∈ wsX5_has := by decide +kernel
  have L0 : Cond.fieldLink RX5 9 "Groutline$Stack" "count" "I" ∈ wsX5_has := by decide +kernel
  refine v_iload_n hC 1 1 dX5_has_0 rfl rfl rfl ?_
  refine v_if_lt hC 22 4 dX5_has_1 (by decide) rfl (by omega) (fun c_1 => ?_) (fun c_1 => ?_)
  · skip
    refine v_iconst hC 23 dX5_has_22 rfl ?_
    exact v_zret hC hQ () [0, 1, 2] dX5_has_23 (by omega) rfl rfl ⟨by decide, by decide⟩ ⟨by (try dsimp only); all_goals (omega), by (try dsimp only); all_goals (omega)⟩
  · skip
    refine v_iload_n hC 5 1 dX5_has_4 rfl rfl rfl ?_
    refine v_aload_n hC 6 0 dX5_has_5 rfl rfl rfl ?_
    refine v_get hC 9 0 0 (C := RX5) (T := TX5) (N := 4) dX5_has_6 rfl iX5 L0 rfl rfl (by decide) rfl ?_
    refine v_icmp_ge hC 22 12 dX5_has_9 (by decide) rfl (by omega) (by omega) (fun c_9 => ?_) (fun c_9 => ?_)
    · skip
      refine v_iconst hC 23 dX5_has_22 rfl ?_
      exact v_zret hC hQ () [0, 1, 2] dX5_has_23 (by omega) rfl rfl ⟨by decide, by decide⟩ ⟨by (try dsimp only); all_goals (omega), by (try dsimp only); all_goals (omega)⟩
    · skip
      refine v_iload_n hC 13 1 dX5_has_12 rfl rfl rfl ?_
      refine v_bipush hC 15 dX5_has_13 rfl rfl ?_
      refine v_icmp_ge hC 22 18 dX5_has_15 (by decide) rfl (by omega) (by omega) (fun c_15 => ?_) (fun c_15 => ?_)
      · skip
        refine v_iconst hC 23 dX5_has_22 rfl ?_
        exact v_zret hC hQ () [0, 1, 2] dX5_has_23 (by omega) rfl rfl ⟨by decide, by decide⟩ ⟨by (try dsimp only); all_goals (omega), by (try dsimp only); all_goals (omega)⟩
      · skip
        refine v_iconst hC 19 dX5_has_18 rfl ?_
        refine v_goto hC 23 dX5_has_19 (by decide) ?_
        exact v_zret hC hQ () [0, 1, 2] dX5_has_23 (by omega) rfl rfl ⟨by decide, by decide⟩ ⟨by (try dsimp only); all_goals (omega), by (try dsimp only); all_goals (omega)⟩

set_option maxHeartbeats 4000000 in
set_option maxRecDepth 100000 in
theorem c_X5_put (lx : Launch) (D : va_G) (cs : Nat → ClassId) (ak : Nat → Nat) (kc : Int) (km : Int) (kf : Int → Int) (kt : Int → Int) (x : Int) (n : Int) (hk : 0 ≤ kc ∧ kc < 20) : Cv lx D cs yX5_put wsX5_put ({ frames := 1, cells := 0, slots := 0, locals := 24 }) [.ref (ak 0), .int (iI x), .int (iI n)] [oK ak kc km, aC (cs 0) (ak 1) 20 kf, aC (cs 0) (ak 2) 20 kt] (fun (u : Unit) => True) (fun u : Unit => [oK ak (kc + 1) km, aC (cs 0) (ak 1) 20 (uI kf kc x), aC (cs 0) (ak 2) 20 (uI kt kc n)]) 0 0 := by
  refine Cv_of (cc := cX5_put) (nL := 3) (ret := none) (lv0 := [(0, .ref (ak 0)), (1, .int (iI x)), (2, .int (iI n))]) RX5 "put" (by decide +kernel) rfl (Nat.le_of_ble_eq_true rfl) rfl (fun p9 e9 s9 m9 ar9 be9 me9 c9 A9 Q9 hQ hC => ?_)
  have iX5 : ∀ w ∈ wsX50, w ∈ wsX5_put := by decide +kernel
  have L0 : Cond.fieldLink RX5 9 "Groutline$Stack" "count" "I" ∈ wsX5_put := by decide +kernel
  have L1 : Cond.fieldLink RX5 18 "Groutline$Stack" "crateFloors" "[I" ∈ wsX5_put := by decide +kernel
  have L2 : Cond.fieldLink RX5 22 "Groutline$Stack" "crateTiles" "[I" ∈ wsX5_put := by decide +kernel
  refine v_aload_n hC 1 0 dX5_put_0 rfl rfl rfl ?_
  refine v_get hC 4 0 0 (C := RX5) (T := TX5) (N := 4) dX5_put_1 rfl iX5 L0 rfl rfl (by decide) rfl ?_
  refine v_if_lt hC 46 7 dX5_put_4 (by decide) rfl (by omega) (fun c_4 => ?_) (fun c_4 => ?_)
  · exfalso; omega
  · skip
    refine v_aload_n hC 8 0 dX5_put_7 rfl rfl rfl ?_
    refine v_get hC 11 0 0 (C := RX5) (T := TX5) (N := 4) dX5_put_8 rfl iX5 L0 rfl rfl (by decide) rfl ?_
    refine v_bipush hC 13 dX5_put_11 rfl rfl ?_
    refine v_icmp_ge hC 46 16 dX5_put_13 (by decide) rfl (by omega) (by omega) (fun c_13 => ?_) (fun c_13 => ?_)
    · exfalso; omega
    · skip
      refine v_aload_n hC 17 0 dX5_put_16 rfl rfl rfl ?_
      refine v_get hC 20 0 2 (C := RX5) (T := TX5) (N := 4) dX5_put_17 rfl iX5 L1 rfl rfl (by decide) rfl ?_
      refine v_aload_n hC 21 0 dX5_put_20 rfl rfl rfl ?_
      refine v_get hC 24 0 0 (C := RX5) (T := TX5) (N := 4) dX5_put_21 rfl iX5 L0 rfl rfl (by decide) rfl ?_
      refine v_iload_n hC 25 1 dX5_put_24 rfl rfl rfl ?_
      refine v_iast hC 26 1 [oK ak kc km, aC (cs 0) (ak 1) 20 (uI kf kc x), aC (cs 0) (ak 2) 20 kt] dX5_put_25 rfl rfl (by decide) (by omega) rfl ?_
      refine v_aload_n hC 27 0 dX5_put_26 rfl rfl rfl ?_
      refine v_get hC 30 0 3 (C := RX5) (T := TX5) (N := 4) dX5_put_27 rfl iX5 L2 rfl rfl (by decide) rfl ?_
      refine v_aload_n hC 31 0 dX5_put_30 rfl rfl rfl ?_
      refine v_get hC 34 0 0 (C := RX5) (T := TX5) (N := 4) dX5_put_31 rfl iX5 L0 rfl rfl (by decide) rfl ?_
      refine v_iload_n hC 35 2 dX5_put_34 rfl rfl rfl ?_
      refine v_iast hC 36 2 [oK ak kc km, aC (cs 0) (ak 1) 20 (uI kf kc x), aC (cs 0) (ak 2) 20 (uI kt kc n)] dX5_put_35 rfl rfl (by decide) (by omega) rfl ?_
      refine v_aload_n hC 37 0 dX5_put_36 rfl rfl rfl ?_
      refine v_dup hC 38 dX5_put_37 rfl rfl ?_
      refine v_get hC 41 0 0 (C := RX5) (T := TX5) (N := 4) dX5_put_38 rfl iX5 L0 rfl rfl (by decide) rfl ?_
      refine v_iconst hC 42 dX5_put_41 rfl ?_
      refine v_iadd hC 43 (kc + 1) dX5_put_42 rfl rfl ?_
      refine v_put hC 46 0 0 [oK ak (kc + 1) km, aC (cs 0) (ak 1) 20 (uI kf kc x), aC (cs 0) (ak 2) 20 (uI kt kc n)] (C := RX5) (T := TX5) (N := 4) dX5_put_43 rfl iX5 tyX5_ok nmX5 L0 rfl rfl (by decide) rfl rfl rfl (Nat.le_of_ble_eq_true rfl) rfl ?_
      exact v_vret hC hQ () [0, 1, 2] dX5_put_46 rfl rfl ⟨by decide, by decide⟩ trivial

set_option maxHeartbeats 4000000 in
set_option maxRecDepth 100000 in
theorem c_X5_remove (lx : Launch) (D : va_G) (cs : Nat → ClassId) (ak : Nat → Nat) (kc : Int) (km : Int) (kf : Int → Int) (kt : Int → Int) (x : Int) (hk : 0 ≤ kc ∧ kc ≤ 20) (hx : 0 ≤ x ∧ x < kc) : Cv lx D cs yX5_remove wsX5_remove ({ frames := 2, cells := 0, slots := 0, locals := 45 }) [.ref (ak 0), .int (iI x)] [oK ak kc km, aC (cs 0) (ak 1) 20 kf, aC (cs 0) (ak 2) 20 kt] (fun (u : (Int → Int) × (Int → Int) × Int) => (u.1 = sh kf x kc) ∧ (u.2.1 = sh kt x kc) ∧ (u.2.2 = km + 2 * (kc - 1 - x))) (fun u : (Int → Int) × (Int → Int) × Int => [oK ak (kc - 1) u.2.2, aC (cs 0) (ak 1) 20 u.1, aC (cs 0) (ak 2) 20 u.2.1]) 0 0 := by
  refine Cv_of (cc := cX5_remove) (nL := 3) (ret := none) (lv0 := [(0, .ref (ak 0)), (1, .int (iI x))]) RX5 "remove" (by decide +kernel) rfl (Nat.le_of_ble_eq_true rfl) rfl (fun p9 e9 s9 m9 ar9 be9 me9 c9 A9 Q9 hQ hC => ?_)
  have iX5 : ∀ w ∈ wsX50, w ∈ wsX5_remove := by decide +kernel
  have L0 : Cond.fieldLink RX5 9 "Groutline$Stack" "count" "I" ∈ wsX5_remove := by decide +kernel
  have L1 : Cond.fieldLink RX5 18 "Groutline$Stack" "crateFloors" "[I" ∈ wsX5_remove := by decide +kernel
  have L2 : Cond.fieldLink RX5 22 "Groutline$Stack" "crateTiles" "[I" ∈ wsX5_remove := by decide +kernel
  have L3 : Cond.fieldLink RX5 15 "Groutline$Stack" "moved" "I" ∈ wsX5_remove := by decide +kernel
  refine v_aload_n hC 1 0 dX5_remove_0 rfl rfl rfl ?_
  refine v_iload_n hC 2 1 dX5_remove_1 rfl rfl rfl ?_
  refine v_callVi hC 5 1 [0, 1, 2] [] [] (As := [.int (iI x)]) (rest := []) (c_X5_has lx D cs ak kc km kf kt x (by omega) (by omega)) dX5_remove_2 rfl rfl 0 rfl rfl gX5_remove_X5_has rfl rfl rfl (by decide +kernel) ⟨by decide, by decide⟩ rfl rfl rfl rfl (by decide) rfl (Nat.le_of_ble_eq_true rfl) ⟨rfl, rfl⟩ ⟨by decide, by decide⟩ (fun z2 u2 h2 => ?_)
  (try dsimp only at h2)
  obtain ⟨h2_1, h2_2⟩ := h2
  show V p9 lx e9 ({ frames := 2, cells := 0, slots := 0, locals := 45 }) s9 m9 ar9 be9 me9 c9 Q9 D A9 s9.heap 3 0 0 [oK ak kc km, aC (cs 0) (ak 1) 20 kf, aC (cs 0) (ak 2) 20 kt] [(0, .ref (ak 0)), (1, .int (iI x))] 5 [.int (iI z2)]
  refine v_if_ne hC 9 8 dX5_remove_5 (by decide) rfl (by omega) (fun c_5 => ?_) (fun c_5 => ?_)
  · skip
    refine v_iload_n hC 10 1 dX5_remove_9 rfl rfl rfl ?_
    refine v_iconst hC 11 dX5_remove_10 rfl ?_
    refine v_iadd hC 12 (x + 1) dX5_remove_11 rfl rfl ?_
    refine v_istore_n hC 13 [(2, .int (iI (x + 1))), (0, .ref (ak 0)), (1, .int (iI x))] dX5_remove_12 rfl rfl (by decide) rfl ?_
    have cut_13 : ∀ (n : Nat) (i2 : Int) (kf2 : Int → Int) (kt2 : Int → Int) (km2 : Int), (x + 1 ≤ i2 ∧ i2 ≤ kc) → (kf2 = sh kf x i2) → (kt2 = sh kt x i2) → (km2 = km + 2 * (i2 - x - 1)) → (kc - i2 < (n : Int)) → V p9 lx e9 ({ frames := 2, cells := 0, slots := 0, locals := 45 }) s9 m9 ar9 be9 me9 c9 Q9 D A9 s9.heap 3 0 0 [oK ak kc km2, aC (cs 0) (ak 1) 20 kf2, aC (cs 0) (ak 2) 20 kt2] [(0, .ref (ak 0)), (1, .int (iI x)), (2, .int (iI i2))] 13 [] := by
      intro n
      induction n with
      | zero =>
        intro i2 kf2 kt2 km2 hi2 hkf2 hkt2 hkm2 hn
        exfalso; omega
      | succ n ih =>
        intro i2 kf2 kt2 km2 hi2 hkf2 hkt2 hkm2 hn
        have ih_13 := ih
        clear ih
        refine v_iload_n hC 14 2 dX5_remove_13 rfl rfl rfl ?_
        refine v_aload_n hC 15 0 dX5_remove_14 rfl rfl rfl ?_
        refine v_get hC 18 0 0 (C := RX5) (T := TX5) (N := 4) dX5_remove_15 rfl iX5 L0 rfl rfl (by decide) rfl ?_
        refine v_icmp_ge hC 71 21 dX5_remove_18 (by decide) rfl (by omega) (by omega) (fun c_18 => ?_) (fun c_18 => ?_)
        · skip
          refine v_aload_n hC 72 0 dX5_remove_71 rfl rfl rfl ?_
          refine v_dup hC 73 dX5_remove_72 rfl rfl ?_
          refine v_get hC 76 0 0 (C := RX5) (T := TX5) (N := 4) dX5_remove_73 rfl iX5 L0 rfl rfl (by decide) rfl ?_
          refine v_iconst hC 77 dX5_remove_76 rfl ?_
          refine v_isub hC 78 (kc - 1) dX5_remove_77 rfl rfl ?_
          refine v_put hC 81 0 0 [oK ak (kc - 1) km2, aC (cs 0) (ak 1) 20 kf2, aC (cs 0) (ak 2) 20 kt2] (C := RX5) (T := TX5) (N := 4) dX5_remove_78 rfl iX5 tyX5_ok nmX5 L0 rfl rfl (by decide) rfl rfl rfl (Nat.le_of_ble_eq_true rfl) rfl ?_
          exact v_vret hC hQ (kf2, kt2, km2) [0, 1, 2] dX5_remove_81 rfl rfl ⟨by decide, by decide⟩ ⟨by (try dsimp only); all_goals (rw [hkf2, show i2 = kc by omega]), by (try dsimp only); all_goals (rw [hkt2, show i2 = kc by omega]), by (try dsimp only); all_goals (omega)⟩
        · skip
          refine v_iload_n hC 22 2 dX5_remove_21 rfl rfl rfl ?_
          refine v_bipush hC 24 dX5_remove_22 rfl rfl ?_
          refine v_icmp_ge hC 71 27 dX5_remove_24 (by decide) rfl (by omega) (by omega) (fun c_24 => ?_) (fun c_24 => ?_)
          · skip
            refine v_aload_n hC 72 0 dX5_remove_71 rfl rfl rfl ?_
            refine v_dup hC 73 dX5_remove_72 rfl rfl ?_
            refine v_get hC 76 0 0 (C := RX5) (T := TX5) (N := 4) dX5_remove_73 rfl iX5 L0 rfl rfl (by decide) rfl ?_
            refine v_iconst hC 77 dX5_remove_76 rfl ?_
            refine v_isub hC 78 (kc - 1) dX5_remove_77 rfl rfl ?_
            refine v_put hC 81 0 0 [oK ak (kc - 1) km2, aC (cs 0) (ak 1) 20 kf2, aC (cs 0) (ak 2) 20 kt2] (C := RX5) (T := TX5) (N := 4) dX5_remove_78 rfl iX5 tyX5_ok nmX5 L0 rfl rfl (by decide) rfl rfl rfl (Nat.le_of_ble_eq_true rfl) rfl ?_
            exact v_vret hC hQ (kf2, kt2, km2) [0, 1, 2] dX5_remove_81 rfl rfl ⟨by decide, by decide⟩ ⟨by (try dsimp only); all_goals (rw [hkf2, show i2 = kc by omega]), by (try dsimp only); all_goals (rw [hkt2, show i2 = kc by omega]), by (try dsimp only); all_goals (omega)⟩
          · skip
            refine v_aload_n hC 28 0 dX5_remove_27 rfl rfl rfl ?_
            refine v_get hC 31 0 2 (C := RX5) (T := TX5) (N := 4) dX5_remove_28 rfl iX5 L1 rfl rfl (by decide) rfl ?_
            refine v_iload_n hC 32 2 dX5_remove_31 rfl rfl rfl ?_
            refine v_iconst hC 33 dX5_remove_32 rfl ?_
            refine v_isub hC 34 (i2 - 1) dX5_remove_33 rfl rfl ?_
            refine v_aload_n hC 35 0 dX5_remove_34 rfl rfl rfl ?_
            refine v_get hC 38 0 2 (C := RX5) (T := TX5) (N := 4) dX5_remove_35 rfl iX5 L1 rfl rfl (by decide) rfl ?_
            refine v_iload_n hC 39 2 dX5_remove_38 rfl rfl rfl ?_
            refine v_iald hC 40 1 dX5_remove_39 rfl rfl (by decide) (by omega) ?_
            refine v_iast hC 41 1 [oK ak kc km2, aC (cs 0) (ak 1) 20 (uI kf2 (i2 - 1) (kf2 i2)), aC (cs 0) (ak 2) 20 kt2] dX5_remove_40 rfl rfl (by decide) (by omega) rfl ?_
            refine v_aload_n hC 42 0 dX5_remove_41 rfl rfl rfl ?_
            refine v_get hC 45 0 3 (C := RX5) (T := TX5) (N := 4) dX5_remove_42 rfl iX5 L2 rfl rfl (by decide) rfl ?_
            refine v_iload_n hC 46 2 dX5_remove_45 rfl rfl rfl ?_
            refine v_iconst hC 47 dX5_remove_46 rfl ?_
            refine v_isub hC 48 (i2 - 1) dX5_remove_47 rfl rfl ?_
            refine v_aload_n hC 49 0 dX5_remove_48 rfl rfl rfl ?_
            refine v_get hC 52 0 3 (C := RX5) (T := TX5) (N := 4) dX5_remove_49 rfl iX5 L2 rfl rfl (by decide) rfl ?_
            refine v_iload_n hC 53 2 dX5_remove_52 rfl rfl rfl ?_
            refine v_iald hC 54 2 dX5_remove_53 rfl rfl (by decide) (by omega) ?_
            refine v_iast hC 55 2 [oK ak kc km2, aC (cs 0) (ak 1) 20 (uI kf2 (i2 - 1) (kf2 i2)), aC (cs 0) (ak 2) 20 (uI kt2 (i2 - 1) (kt2 i2))] dX5_remove_54 rfl rfl (by decide) (by omega) rfl ?_
            refine v_aload_n hC 56 0 dX5_remove_55 rfl rfl rfl ?_
            refine v_dup hC 57 dX5_remove_56 rfl rfl ?_
            refine v_get hC 60 0 1 (C := RX5) (T := TX5) (N := 4) dX5_remove_57 rfl iX5 L3 rfl rfl (by decide) rfl ?_
            refine v_iconst hC 61 dX5_remove_60 rfl ?_
            refine v_iadd hC 62 (km2 + 2) dX5_remove_61 rfl rfl ?_
            refine v_put hC 65 0 1 [oK ak kc (km2 + 2), aC (cs 0) (ak 1) 20 (uI kf2 (i2 - 1) (kf2 i2)), aC (cs 0) (ak 2) 20 (uI kt2 (i2 - 1) (kt2 i2))] (C := RX5) (T := TX5) (N := 4) dX5_remove_62 rfl iX5 tyX5_ok nmX5 L3 rfl rfl (by decide) rfl rfl rfl (Nat.le_of_ble_eq_true rfl) rfl ?_
            refine v_iinc hC 68 2 [(2, .int (iI (i2 + 1))), (0, .ref (ak 0)), (1, .int (iI x))] dX5_remove_65 rfl rfl (by decide) rfl ?_
            refine v_goto hC 13 dX5_remove_68 (by decide) ?_
            exact v_sub [0, 1, 2] [1, 2, 0] _ _ rfl rfl rfl (ih_13 (i2 + 1) (uI kf2 (i2 - 1) (kf2 i2)) (uI kt2 (i2 - 1) (kt2 i2)) (km2 + 2) (by omega) (by rw [hkf2, sh_at]; exact sh_step kf (by omega)) (by rw [hkt2, sh_at]; exact sh_step kt (by omega)) (by omega) (by omega))
    exact v_sub [0, 1, 2] [1, 2, 0] _ _ rfl rfl rfl (cut_13 (Int.toNat (kc - (x + 1)) + 1) (x + 1) kf kt km (by omega) (by exact (sh_0 kf x).symm) (by exact (sh_0 kt x).symm) (by omega) (by omega))
  · exfalso; omega

set_option maxHeartbeats 4000000 in
set_option maxRecDepth 100000 in
theorem c_X5_takeTopmostFor (lx : Launch) (D : va_G) (cs : Nat → ClassId) (ak : Nat → Nat) (kc : Int) (km : Int) (kf : Int → Int) (kt : Int → Int) (x : Int) (hk : 0 ≤ kc ∧ kc ≤ 20) (hx : 0 ≤ x ∧ x ≤ 9) (hkf : Rn kf 0 9) : Ci lx D cs yX5_takeTopmostFor wsX5_takeTopmostFor ({ frames := 3, cells := 0, slots := 0, locals := 67 }) [.ref (ak 0), .int (iI x)] [oK ak kc km, aC (cs 0) (ak 1) 20 kf, aC (cs 0) (ak 2) 20 kt] (fun (z : Int) (u : (Int → Int) × (Int → Int) × Int × Int) => (tp kf x kc.toNat < 0 → z = -1 ∧ u.1 = kf ∧ u.2.1 = kt ∧ u.2.2.1 = km ∧ u.2.2.2 = kc) ∧ (0 ≤ tp kf x kc.toNat → z = kt (tp kf x kc.toNat) ∧ u.1 = sh kf (tp kf x kc.toNat) kc ∧ u.2.1 = sh kt (tp kf x kc.toNat) kc ∧ u.2.2.1 = km + 2 * (kc - 1 - tp kf x kc.toNat) ∧ u.2.2.2 = kc - 1)) (fun u : (Int → Int) × (Int → Int) × Int × Int => [oK ak u.2.2.2 u.2.2.1, aC (cs 0) (ak 1) 20 u.1, aC (cs 0) (ak 2) 20 u.2.1]) 0 0 := by
  refine Ci_of (cc := cX5_takeTopmostFor) (nL := 4) (ret := (some .int)) (lv0 := [(0, .ref (ak 0)), (1, .int (iI x))]) RX5 "takeTopmostFor" (by decide +kernel) rfl (Nat.le_of_ble_eq_true rfl) rfl (fun p9 e9 s9 m9 ar9 be9 me9 c9 A9 Q9 hQ hC => ?_)
  have iX5 : ∀ w ∈ wsX50, w ∈ wsX5_takeTopmostFor := by decide +kernel
  have L0 : Cond.fieldLink RX5 9 "Groutline$Stack" "count" "I" ∈ wsX5_takeTopmostFor := by decide +kernel
  have L1 : Cond.fieldLink RX5 18 "Groutline$Stack" "crateFloors" "[I" ∈ wsX5_takeTopmostFor := by decide +kernel
  have L2 : Cond.fieldLink RX5 22 "Groutline$Stack" "crateTiles" "[I" ∈ wsX5_takeTopmostFor := by decide +kernel
  refine v_aload_n hC 1 0 dX5_takeTopmostFor_0 rfl rfl rfl ?_
  refine v_get hC 4 0 0 (C := RX5) (T := TX5) (N := 4) dX5_takeTopmostFor_1 rfl iX5 L0 rfl rfl (by decide) rfl ?_
  refine v_iconst hC 5 dX5_takeTopmostFor_4 rfl ?_
  refine v_isub hC 6 (kc - 1) dX5_takeTopmostFor_5 rfl rfl ?_
  refine v_istore_n hC 7 [(2, .int (iI (kc - 1))), (0, .ref (ak 0)), (1, .int (iI x))] dX5_takeTopmostFor_6 rfl rfl (by decide) rfl ?_
  have cut_7 : ∀ (n : Nat) (i2 : Int), (-1 ≤ i2 ∧ i2 < kc) → (tp kf x kc.toNat = tp kf x (i2 + 1).toNat) → (i2 + 2 < (n : Int)) → V p9 lx e9 ({ frames := 3, cells := 0, slots := 0, locals := 67 }) s9 m9 ar9 be9 me9 c9 Q9 D A9 s9.heap 4 0 0 [oK ak kc km, aC (cs 0) (ak 1) 20 kf, aC (cs 0) (ak 2) 20 kt] [(0, .ref (ak 0)), (1, .int (iI x)), (2, .int (iI i2))] 7 [] := by
    intro n
    induction n with
    | zero =>
      intro i2 hi2 htp hn
      exfalso; omega
    | succ n ih =>
      intro i2 hi2 htp hn
      have ih_7 := ih
      clear ih
      refine v_iload_n hC 8 2 dX5_takeTopmostFor_7 rfl rfl rfl ?_
      refine v_if_lt hC 49 11 dX5_takeTopmostFor_8 (by decide) rfl (by omega) (fun c_8 => ?_) (fun c_8 => ?_)
      · skip
        refine v_iconst hC 50 dX5_takeTopmostFor_49 rfl ?_
        have ht9 : tp kf x kc.toNat = -1 := by
          rw [htp, show (i2 + 1).toNat = 0 by omega]; rfl
        exact v_iret hC hQ (kf, kt, km, kc) [0, 1, 2] dX5_takeTopmostFor_50 rfl rfl ⟨by decide, by decide⟩ ⟨by (try dsimp only); all_goals (intro _; exact ⟨rfl, rfl, rfl, rfl, rfl⟩), by (try dsimp only); all_goals (intro h; exfalso; omega)⟩
      · skip
        refine v_aload_n hC 12 0 dX5_takeTopmostFor_11 rfl rfl rfl ?_
        refine v_iload_n hC 13 2 dX5_takeTopmostFor_12 rfl rfl rfl ?_
        refine v_callVi hC 16 1 [0, 1, 2] [] [] (As := [.int (iI i2)]) (rest := []) (c_X5_has lx D cs ak kc km kf kt i2 (by omega) (by omega)) dX5_takeTopmostFor_13 rfl rfl 0 rfl rfl gX5_takeTopmostFor_X5_has rfl rfl rfl (by decide +kernel) ⟨by decide, by decide⟩ rfl rfl rfl rfl (by decide) rfl (Nat.le_of_ble_eq_true rfl) ⟨rfl, rfl⟩ ⟨by decide, by decide⟩ (fun z13 u13 h13 => ?_)
        (try dsimp only at h13)
        obtain ⟨h13_1, h13_2⟩ := h13
        show V p9 lx e9 ({ frames := 3, cells := 0, slots := 0, locals := 67 }) s9 m9 ar9 be9 me9 c9 Q9 D A9 s9.heap 4 0 0 [oK ak kc km, aC (cs 0) (ak 1) 20 kf, aC (cs 0) (ak 2) 20 kt] [(0, .ref (ak 0)), (1, .int (iI x)), (2, .int (iI i2))] 16 [.int (iI z13)]
        refine v_if_eq hC 43 19 dX5_takeTopmostFor_16 (by decide) rfl (by omega) (fun c_16 => ?_) (fun c_16 => ?_)
        · exfalso; omega
        · skip
          refine v_aload_n hC 20 0 dX5_takeTopmostFor_19 rfl rfl rfl ?_
          refine v_get hC 23 0 2 (C := RX5) (T := TX5) (N := 4) dX5_takeTopmostFor_20 rfl iX5 L1 rfl rfl (by decide) rfl ?_
          refine v_iload_n hC 24 2 dX5_takeTopmostFor_23 rfl rfl rfl ?_
          refine v_iald hC 25 1 dX5_takeTopmostFor_24 rfl rfl (by decide) (by omega) ?_
          have r_24 := hkf i2
          refine v_iload_n hC 26 1 dX5_takeTopmostFor_25 rfl rfl rfl ?_
          refine v_icmp_ne hC 43 29 dX5_takeTopmostFor_26 (by decide) rfl (by omega) (by omega) (fun c_26 => ?_) (fun c_26 => ?_)
          · skip
            refine v_iinc hC 46 2 [(2, .int (iI (i2 + (-1)))), (0, .ref (ak 0)), (1, .int (iI x))] dX5_takeTopmostFor_43 rfl rfl (by decide) rfl ?_
            refine v_goto hC 7 dX5_takeTopmostFor_46 (by decide) ?_
            exact v_sub [0, 1, 2] [1, 2, 0] _ _ rfl rfl rfl (ih_7 (i2 + (-1)) (by omega) (by rw [htp, tp_I (by omega), if_neg (by omega), show i2 + -1 + 1 = i2 by omega]) (by omega))
          · skip
            refine v_aload_n hC 30 0 dX5_takeTopmostFor_29 rfl rfl rfl ?_
            refine v_get hC 33 0 3 (C := RX5) (T := TX5) (N := 4) dX5_takeTopmostFor_30 rfl iX5 L2 rfl rfl (by decide) rfl ?_
            refine v_iload_n hC 34 2 dX5_takeTopmostFor_33 rfl rfl rfl ?_
            refine v_iald hC 35 2 dX5_takeTopmostFor_34 rfl rfl (by decide) (by omega) ?_
            refine v_istore_n hC 36 [(3, .int (iI (kt i2))), (0, .ref (ak 0)), (1, .int (iI x)), (2, .int (iI i2))] dX5_takeTopmostFor_35 rfl rfl (by decide) rfl ?_
            refine v_aload_n hC 37 1 dX5_takeTopmostFor_36 rfl rfl rfl ?_
            refine v_iload_n hC 38 3 dX5_takeTopmostFor_37 rfl rfl rfl ?_
            refine v_callVv hC 41 1 [0, 1, 2] [] [] (As := [.int (iI i2)]) (rest := []) (c_X5_remove lx D cs ak kc km kf kt i2 (by omega) (by omega)) dX5_takeTopmostFor_38 rfl rfl 0 rfl rfl gX5_takeTopmostFor_X5_remove rfl rfl rfl (by decide +kernel) ⟨by decide, by decide⟩ rfl rfl rfl rfl (by decide) rfl (Nat.le_of_ble_eq_true rfl) ⟨rfl, rfl⟩ ⟨by decide, by decide⟩ (fun u38 h38 => ?_)
            obtain ⟨kf1_38, kt1_38, km1_38⟩ := u38
            (try dsimp only at h38)
            obtain ⟨h38_1, h38_2, h38_3⟩ := h38
            show V p9 lx e9 ({ frames := 3, cells := 0, slots := 0, locals := 67 }) s9 m9 ar9 be9 me9 c9 Q9 D A9 s9.heap 4 0 0 [oK ak (kc - 1) km1_38, aC (cs 0) (ak 1) 20 kf1_38, aC (cs 0) (ak 2) 20 kt1_38] [(3, .int (iI (kt i2))), (0, .ref (ak 0)), (1, .int (iI x)), (2, .int (iI i2))] 41 []
            refine v_iload_n hC 42 0 dX5_takeTopmostFor_41 rfl rfl rfl ?_
            have ht9 : tp kf x kc.toNat = i2 := by
              rw [htp, tp_I (by omega), if_pos (by omega)]
            exact v_iret hC hQ (kf1_38, kt1_38, km1_38, kc - 1) [0, 1, 2] dX5_takeTopmostFor_42 rfl rfl ⟨by decide, by decide⟩ ⟨by (try dsimp only); all_goals (intro h; exfalso; omega), by (try dsimp only); all_goals (intro _; rw [ht9]; exact ⟨rfl, h38_1, h38_2, h38_3, rfl⟩)⟩
  exact v_sub [0, 1, 2] [1, 2, 0] _ _ rfl rfl rfl (cut_7 (Int.toNat ((kc - 1) + 2) + 1) (kc - 1) (by omega) (by rw [show kc - 1 + 1 = kc by omega]) (by omega))

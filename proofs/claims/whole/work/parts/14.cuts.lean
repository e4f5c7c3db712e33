set_option maxHeartbeats 4000000 in
set_option maxRecDepth 100000 in
theorem c_J7_fill_53178 (lx : Launch) (D : va_G) (cs : Nat → ClassId) (aa : Nat) (g : Int → Int) (v : Int)  : Cv lx D cs yJ7_fill_53178 wsJ7_fill_53178 ({ frames := 1, cells := 0, slots := 0, locals := 24 }) [.ref aa, .int (iI v)] [aC (cs 0) aa 96 g] (fun (u : (Int → Int)) => (u = fil g v 96)) (fun u : (Int → Int) => [aC (cs 0) aa 96 u]) 0 0 := by
  refine Cv_of (cc := cJ7_fill_53178) (nL := 4) (ret := none) (lv0 := [(0, .ref aa), (1, .int (iI v))]) RJ7 "fill" (by decide +kernel) rfl (Nat.le_of_ble_eq_true rfl) rfl (fun p9 e9 s9 m9 ar9 be9 me9 c9 A9 Q9 hQ hC => ?_)
  refine v_iconst hC 1 dJ7_fill_53178_0 rfl ?_
  refine v_istore_n hC 2 [(2, .int (iI 0)), (0, .ref aa), (1, .int (iI v))] dJ7_fill_53178_1 rfl rfl (by decide) rfl ?_
  refine v_aload_n hC 3 1 dJ7_fill_53178_2 rfl rfl rfl ?_
  refine v_alen hC 4 0 dJ7_fill_53178_3 rfl rfl ?_
  refine v_istore_n hC 5 [(3, .int (iI ((96 : Nat) : Int))), (2, .int (iI 0)), (0, .ref aa), (1, .int (iI v))] dJ7_fill_53178_4 rfl rfl (by decide) rfl ?_
  have cut_5 : ∀ (n : Nat) (i : Int) (g2 : Int → Int), (0 ≤ i ∧ i ≤ 96) → (g2 = fil g v i) → (96 - i < (n : Int)) → V p9 lx e9 ({ frames := 1, cells := 0, slots := 0, locals := 24 }) s9 m9 ar9 be9 me9 c9 Q9 D A9 s9.heap 4 0 0 [aC (cs 0) aa 96 g2] [(0, .ref aa), (1, .int (iI v)), (2, .int (iI i)), (3, .int (iI ((96 : Nat) : Int)))] 5 [] := by
    intro n
    induction n with
    | zero =>
      intro i g2 hi hg2 hn
      exfalso; omega
    | succ n ih =>
      intro i g2 hi hg2 hn
      have ih_5 := ih
      clear ih
      refine v_iload_n hC 6 2 dJ7_fill_53178_5 rfl rfl rfl ?_
      refine v_iload_n hC 7 3 dJ7_fill_53178_6 rfl rfl rfl ?_
      refine v_icmp_ge hC 20 10 dJ7_fill_53178_7 (by decide) rfl (by omega) (by omega) (fun c_7 => ?_) (fun c_7 => ?_)
      · skip
        exact v_vret hC hQ g2 [0] dJ7_fill_53178_20 rfl rfl ⟨by decide, by decide⟩ (by (try dsimp only); all_goals (rw [hg2, show i = 96 by omega]))
      · skip
        refine v_aload_n hC 11 0 dJ7_fill_53178_10 rfl rfl rfl ?_
        refine v_iload_n hC 12 2 dJ7_fill_53178_11 rfl rfl rfl ?_
        refine v_iload_n hC 13 1 dJ7_fill_53178_12 rfl rfl rfl ?_
        refine v_iast hC 14 0 [aC (cs 0) aa 96 (uI g2 i v)] dJ7_fill_53178_13 rfl rfl (by decide) (by omega) rfl ?_
        refine v_iinc hC 17 2 [(2, .int (iI (i + 1))), (0, .ref aa), (1, .int (iI v)), (3, .int (iI ((96 : Nat) : Int)))] dJ7_fill_53178_14 rfl rfl (by decide) rfl ?_
        refine v_goto hC 5 dJ7_fill_53178_17 (by decide) ?_
        exact v_sub [0] [1, 2, 0, 3] _ _ rfl rfl rfl (ih_5 (i + 1) (uI g2 i v) (by omega) (by rw [hg2]; exact fil_step g v i hi.1) (by omega))
  exact v_sub [0] [2, 3, 1, 0] _ _ rfl rfl rfl (cut_5 (Int.toNat (96 - 0) + 1) 0 g (by omega) (by exact (fil_0 g v).symm) (by omega))

set_option maxHeartbeats 4000000 in
set_option maxRecDepth 100000 in
theorem c_X1_hasRest (lx : Launch) (D : va_G) (cs : Nat → ClassId) (ac : Nat → Nat) (nt : Int) (rc : Int) (src : Int → Int) (rw : Int → Int) (rh : Int → Int) (rmk : Int → Int) (x : Int) (hrc : 0 ≤ rc ∧ rc ≤ 96) (hx : -2147483648 ≤ x ∧ x < 2147483648) : Ci lx D cs yX1_hasRest wsX1_hasRest ({ frames := 1, cells := 0, slots := 0, locals := 24 }) [.ref (ac 0), .int (iI x)] [oC ac nt rc, aC (cs 0) (ac 1) 96 src, aC (cs 0) (ac 2) 96 rw, aC (cs 0) (ac 3) 96 rh, aC (cs 0) (ac 4) 96 rmk] (fun (z : Int) (u : Unit) => (z = 0 ∨ z = 1) ∧ (z = 1 ↔ 0 ≤ x ∧ x < rc)) (fun u : Unit => [oC ac nt rc, aC (cs 0) (ac 1) 96 src, aC (cs 0) (ac 2) 96 rw, aC (cs 0) (ac 3) 96 rh, aC (cs 0) (ac 4) 96 rmk]) 0 0 := by
  refine Ci_of (cc := cX1_hasRest) (nL := 2) (ret := (some .boolean)) (lv0 := [(0, .ref (ac 0)), (1, .int (iI x))]) RX1 "hasRest" (by decide +kernel) rfl (Nat.le_of_ble_eq_true rfl) rfl (fun p9 e9 s9 m9 ar9 be9 me9 c9 A9 Q9 hQ hC => ?_)
  have iX1 : ∀ w ∈ wsX10, w ∈ wsX1_hasRest := by decide +kernel
  have L0 : Cond.fieldLink RX1 19 "Groutline$Cuts" "restCount" "I" ∈ wsX1_hasRest := by decide +kernel
  refine v_iload_n hC 1 1 dX1_hasRest_0 rfl rfl rfl ?_
  refine v_if_lt hC 22 4 dX1_hasRest_1 (by decide) rfl (by omega) (fun c_1 => ?_) (fun c_1 => ?_)
  · skip
    refine v_iconst hC 23 dX1_hasRest_22 rfl ?_
    exact v_zret hC hQ () [0, 1, 2, 3, 4] dX1_hasRest_23 (by omega) rfl rfl ⟨by decide, by decide⟩ ⟨by (try dsimp only); all_goals (omega), by (try dsimp only); all_goals (omega)⟩
  · skip
    refine v_iload_n hC 5 1 dX1_hasRest_4 rfl rfl rfl ?_
    refine v_aload_n hC 6 0 dX1_hasRest_5 rfl rfl rfl ?_
    refine v_get hC 9 0 2 (C := RX1) (T := TX1) (N := 6) dX1_hasRest_6 rfl iX1 L0 rfl rfl (by decide) rfl ?_
    refine v_icmp_ge hC 22 12 dX1_hasRest_9 (by decide) rfl (by omega) (by omega) (fun c_9 => ?_) (fun c_9 => ?_)
    · skip
      refine v_iconst hC 23 dX1_hasRest_22 rfl ?_
      exact v_zret hC hQ () [0, 1, 2, 3, 4] dX1_hasRest_23 (by omega) rfl rfl ⟨by decide, by decide⟩ ⟨by (try dsimp only); all_goals (omega), by (try dsimp only); all_goals (omega)⟩
    · skip
      refine v_iload_n hC 13 1 dX1_hasRest_12 rfl rfl rfl ?_
      refine v_bipush hC 15 dX1_hasRest_13 rfl rfl ?_
      refine v_icmp_ge hC 22 18 dX1_hasRest_15 (by decide) rfl (by omega) (by omega) (fun c_15 => ?_) (fun c_15 => ?_)
      · skip
        refine v_iconst hC 23 dX1_hasRest_22 rfl ?_
        exact v_zret hC hQ () [0, 1, 2, 3, 4] dX1_hasRest_23 (by omega) rfl rfl ⟨by decide, by decide⟩ ⟨by (try dsimp only); all_goals (omega), by (try dsimp only); all_goals (omega)⟩
      · skip
        refine v_iconst hC 19 dX1_hasRest_18 rfl ?_
        refine v_goto hC 23 dX1_hasRest_19 (by decide) ?_
        exact v_zret hC hQ () [0, 1, 2, 3, 4] dX1_hasRest_23 (by omega) rfl rfl ⟨by decide, by decide⟩ ⟨by (try dsimp only); all_goals (omega), by (try dsimp only); all_goals (omega)⟩

set_option maxHeartbeats 4000000 in
set_option maxRecDepth 100000 in
theorem c_X1_sizeOfRest (lx : Launch) (D : va_G) (cs : Nat → ClassId) (ac : Nat → Nat) (nt : Int) (rc : Int) (src : Int → Int) (rw : Int → Int) (rh : Int → Int) (rmk : Int → Int) (x : Int) (hrc : 0 ≤ rc ∧ rc ≤ 96) (hx : 0 ≤ x ∧ x < 2147483648) : Ci lx D cs yX1_sizeOfRest wsX1_sizeOfRest ({ frames := 2, cells := 0, slots := 0, locals := 45 }) [.ref (ac 0), .int (iI x)] [oC ac nt rc, aC (cs 0) (ac 1) 96 src, aC (cs 0) (ac 2) 96 rw, aC (cs 0) (ac 3) 96 rh, aC (cs 0) (ac 4) 96 rmk] (fun (z : Int) (u : Unit) => (x < rc → z = 10 * rw x + rh x) ∧ (rc ≤ x → z = -1)) (fun u : Unit => [oC ac nt rc, aC (cs 0) (ac 1) 96 src, aC (cs 0) (ac 2) 96 rw, aC (cs 0) (ac 3) 96 rh, aC (cs 0) (ac 4) 96 rmk]) 0 0 := by
  refine Ci_of (cc := cX1_sizeOfRest) (nL := 2) (ret := (some .int)) (lv0 := [(0, .ref (ac 0)), (1, .int (iI x))]) RX1 "sizeOfRest" (by decide +kernel) rfl (Nat.le_of_ble_eq_true rfl) rfl (fun p9 e9 s9 m9 ar9 be9 me9 c9 A9 Q9 hQ hC => ?_)
  have iX1 : ∀ w ∈ wsX10, w ∈ wsX1_sizeOfRest := by decide +kernel
  have L0 : Cond.fieldLink RX1 22 "Groutline$Cuts" "restWides" "[I" ∈ wsX1_sizeOfRest := by decide +kernel
  have L1 : Cond.fieldLink RX1 25 "Groutline$Cuts" "restHighs" "[I" ∈ wsX1_sizeOfRest := by decide +kernel
  refine v_aload_n hC 1 0 dX1_sizeOfRest_0 rfl rfl rfl ?_
  refine v_iload_n hC 2 1 dX1_sizeOfRest_1 rfl rfl rfl ?_
  refine v_callVi hC 5 1 [0, 1, 2, 3, 4] [] [] (As := [.int (iI x)]) (rest := []) (c_X1_hasRest lx D cs ac nt rc src rw rh rmk x (by omega) (by omega)) dX1_sizeOfRest_2 rfl rfl 0 rfl rfl gX1_sizeOfRest_X1_hasRest rfl rfl rfl (by decide +kernel) ⟨by decide, by decide⟩ rfl rfl rfl rfl (by decide) rfl (Nat.le_of_ble_eq_true rfl) ⟨rfl, rfl⟩ ⟨by decide, by decide⟩ (fun z2 u2 h2 => ?_)
  (try dsimp only at h2)
  obtain ⟨h2_1, h2_2⟩ := h2
  show V p9 lx e9 ({ frames := 2, cells := 0, slots := 0, locals := 45 }) s9 m9 ar9 be9 me9 c9 Q9 D A9 s9.heap 2 0 0 [oC ac nt rc, aC (cs 0) (ac 1) 96 src, aC (cs 0) (ac 2) 96 rw, aC (cs 0) (ac 3) 96 rh, aC (cs 0) (ac 4) 96 rmk] [(0, .ref (ac 0)), (1, .int (iI x))] 5 [.int (iI z2)]
  refine v_if_eq hC 27 8 dX1_sizeOfRest_5 (by decide) rfl (by omega) (fun c_5 => ?_) (fun c_5 => ?_)
  · skip
    refine v_iconst hC 28 dX1_sizeOfRest_27 rfl ?_
    exact v_iret hC hQ () [0, 1, 2, 3, 4] dX1_sizeOfRest_28 rfl rfl ⟨by decide, by decide⟩ ⟨by (try dsimp only); all_goals (intro _; first | rfl | (exfalso; omega)), by (try dsimp only); all_goals (intro _; first | rfl | (exfalso; omega))⟩
  · skip
    refine v_bipush hC 10 dX1_sizeOfRest_8 rfl rfl ?_
    refine v_aload_n hC 11 0 dX1_sizeOfRest_10 rfl rfl rfl ?_
    refine v_get hC 14 0 3 (C := RX1) (T := TX1) (N := 6) dX1_sizeOfRest_11 rfl iX1 L0 rfl rfl (by decide) rfl ?_
    refine v_iload_n hC 15 1 dX1_sizeOfRest_14 rfl rfl rfl ?_
    refine v_iald hC 16 2 dX1_sizeOfRest_15 rfl rfl (by decide) (by omega) ?_
    refine v_imul hC 17 (10 * (rw x)) dX1_sizeOfRest_16 rfl rfl ?_
    refine v_aload_n hC 18 0 dX1_sizeOfRest_17 rfl rfl rfl ?_
    refine v_get hC 21 0 4 (C := RX1) (T := TX1) (N := 6) dX1_sizeOfRest_18 rfl iX1 L1 rfl rfl (by decide) rfl ?_
    refine v_iload_n hC 22 1 dX1_sizeOfRest_21 rfl rfl rfl ?_
    refine v_iald hC 23 3 dX1_sizeOfRest_22 rfl rfl (by decide) (by omega) ?_
    refine v_iadd hC 24 (10 * (rw x) + (rh x)) dX1_sizeOfRest_23 rfl rfl ?_
    refine v_goto hC 28 dX1_sizeOfRest_24 (by decide) ?_
    exact v_iret hC hQ () [0, 1, 2, 3, 4] dX1_sizeOfRest_28 rfl rfl ⟨by decide, by decide⟩ ⟨by (try dsimp only); all_goals (intro _; first | rfl | (exfalso; omega)), by (try dsimp only); all_goals (intro _; first | rfl | (exfalso; omega))⟩

set_option maxHeartbeats 4000000 in
set_option maxRecDepth 100000 in
theorem c_X1_addRest (lx : Launch) (D : va_G) (cs : Nat → ClassId) (ac : Nat → Nat) (nt : Int) (rc : Int) (src : Int → Int) (rw : Int → Int) (rh : Int → Int) (rmk : Int → Int) (mk : Int) (a : Int) (b : Int) (hrc : 0 ≤ rc ∧ rc < 96) : Cv lx D cs yX1_addRest wsX1_addRest ({ frames := 2, cells := 0, slots := 0, locals := 45 }) [.ref (ac 0), .int (iI mk), .int (iI a), .int (iI b)] [oC ac nt rc, aC (cs 0) (ac 1) 96 src, aC (cs 0) (ac 2) 96 rw, aC (cs 0) (ac 3) 96 rh, aC (cs 0) (ac 4) 96 rmk] (fun (u : Unit) => True) (fun u : Unit => [oC ac nt (rc + 1), aC (cs 0) (ac 1) 96 src, aC (cs 0) (ac 2) 96 (uI rw rc a), aC (cs 0) (ac 3) 96 (uI rh rc b), aC (cs 0) (ac 4) 96 (uI rmk rc mk)]) 0 0 := by
  refine Cv_of (cc := cX1_addRest) (nL := 5) (ret := none) (lv0 := [(0, .ref (ac 0)), (1, .int (iI mk)), (2, .int (iI a)), (3, .int (iI b))]) RX1 "addRest" (by decide +kernel) rfl (Nat.le_of_ble_eq_true rfl) rfl (fun p9 e9 s9 m9 ar9 be9 me9 c9 A9 Q9 hQ hC => ?_)
  have iX1 : ∀ w ∈ wsX10, w ∈ wsX1_addRest := by decide +kernel
  have L0 : Cond.fieldLink RX1 19 "Groutline$Cuts" "restCount" "I" ∈ wsX1_addRest := by decide +kernel
  have L1 : Cond.fieldLink RX1 22 "Groutline$Cuts" "restWides" "[I" ∈ wsX1_addRest := by decide +kernel
  have L2 : Cond.fieldLink RX1 25 "Groutline$Cuts" "restHighs" "[I" ∈ wsX1_addRest := by decide +kernel
  have L3 : Cond.fieldLink RX1 28 "Groutline$Cuts" "restMakers" "[I" ∈ wsX1_addRest := by decide +kernel
  refine v_aload_n hC 1 0 dX1_addRest_0 rfl rfl rfl ?_
  refine v_dup hC 2 dX1_addRest_1 rfl rfl ?_
  refine v_get hC 5 0 2 (C := RX1) (T := TX1) (N := 6) dX1_addRest_2 rfl iX1 L0 rfl rfl (by decide) rfl ?_
  refine v_dup_x1 hC 6 dX1_addRest_5 rfl rfl rfl ?_
  refine v_iconst hC 7 dX1_addRest_6 rfl ?_
  refine v_iadd hC 8 (rc + 1) dX1_addRest_7 rfl rfl ?_
  refine v_put hC 11 0 2 [oC ac nt (rc + 1), aC (cs 0) (ac 1) 96 src, aC (cs 0) (ac 2) 96 rw, aC (cs 0) (ac 3) 96 rh, aC (cs 0) (ac 4) 96 rmk] (C := RX1) (T := TX1) (N := 6) dX1_addRest_8 rfl iX1 tyX1_ok nmX1 L0 rfl rfl (by decide) rfl rfl rfl (Nat.le_of_ble_eq_true rfl) rfl ?_
  refine v_istore hC 13 [(4, .int (iI rc)), (0, .ref (ac 0)), (1, .int (iI mk)), (2, .int (iI a)), (3, .int (iI b))] dX1_addRest_11 rfl (by decide) rfl ?_
  refine v_aload_n hC 14 1 dX1_addRest_13 rfl rfl rfl ?_
  refine v_iload hC 16 0 dX1_addRest_14 rfl rfl ?_
  refine v_callVi hC 19 1 [0, 1, 2, 3, 4] [] [] (As := [.int (iI rc)]) (rest := []) (c_X1_hasRest lx D cs ac nt (rc + 1) src rw rh rmk rc (by omega) (by omega)) dX1_addRest_16 rfl rfl 0 rfl rfl gX1_addRest_X1_hasRest rfl rfl rfl (by decide +kernel) ⟨by decide, by decide⟩ rfl rfl rfl rfl (by decide) rfl (Nat.le_of_ble_eq_true rfl) ⟨rfl, rfl⟩ ⟨by decide, by decide⟩ (fun z16 u16 h16 => ?_)
  (try dsimp only at h16)
  obtain ⟨h16_1, h16_2⟩ := h16
  show V p9 lx e9 ({ frames := 2, cells := 0, slots := 0, locals := 45 }) s9 m9 ar9 be9 me9 c9 Q9 D A9 s9.heap 5 0 0 [oC ac nt (rc + 1), aC (cs 0) (ac 1) 96 src, aC (cs 0) (ac 2) 96 rw, aC (cs 0) (ac 3) 96 rh, aC (cs 0) (ac 4) 96 rmk] [(4, .int (iI rc)), (0, .ref (ac 0)), (1, .int (iI mk)), (2, .int (iI a)), (3, .int (iI b))] 19 [.int (iI z16)]
  refine v_if_eq hC 46 22 dX1_addRest_19 (by decide) rfl (by omega) (fun c_19 => ?_) (fun c_19 => ?_)
  · exfalso; omega
  · skip
    refine v_aload_n hC 23 1 dX1_addRest_22 rfl rfl rfl ?_
    refine v_get hC 26 0 3 (C := RX1) (T := TX1) (N := 6) dX1_addRest_23 rfl iX1 L1 rfl rfl (by decide) rfl ?_
    refine v_iload hC 28 0 dX1_addRest_26 rfl rfl ?_
    refine v_iload_n hC 29 3 dX1_addRest_28 rfl rfl rfl ?_
    refine v_iast hC 30 2 [oC ac nt (rc + 1), aC (cs 0) (ac 1) 96 src, aC (cs 0) (ac 2) 96 (uI rw rc a), aC (cs 0) (ac 3) 96 rh, aC (cs 0) (ac 4) 96 rmk] dX1_addRest_29 rfl rfl (by decide) (by omega) rfl ?_
    refine v_aload_n hC 31 1 dX1_addRest_30 rfl rfl rfl ?_
    refine v_get hC 34 0 4 (C := RX1) (T := TX1) (N := 6) dX1_addRest_31 rfl iX1 L2 rfl rfl (by decide) rfl ?_
    refine v_iload hC 36 0 dX1_addRest_34 rfl rfl ?_
    refine v_iload_n hC 37 4 dX1_addRest_36 rfl rfl rfl ?_
    refine v_iast hC 38 3 [oC ac nt (rc + 1), aC (cs 0) (ac 1) 96 src, aC (cs 0) (ac 2) 96 (uI rw rc a), aC (cs 0) (ac 3) 96 (uI rh rc b), aC (cs 0) (ac 4) 96 rmk] dX1_addRest_37 rfl rfl (by decide) (by omega) rfl ?_
    refine v_aload_n hC 39 1 dX1_addRest_38 rfl rfl rfl ?_
    refine v_get hC 42 0 5 (C := RX1) (T := TX1) (N := 6) dX1_addRest_39 rfl iX1 L3 rfl rfl (by decide) rfl ?_
    refine v_iload hC 44 0 dX1_addRest_42 rfl rfl ?_
    refine v_iload_n hC 45 2 dX1_addRest_44 rfl rfl rfl ?_
    refine v_iast hC 46 4 [oC ac nt (rc + 1), aC (cs 0) (ac 1) 96 src, aC (cs 0) (ac 2) 96 (uI rw rc a), aC (cs 0) (ac 3) 96 (uI rh rc b), aC (cs 0) (ac 4) 96 (uI rmk rc mk)] dX1_addRest_45 rfl rfl (by decide) (by omega) rfl ?_
    exact v_vret hC hQ () [0, 1, 2, 3, 4] dX1_addRest_46 rfl rfl ⟨by decide, by decide⟩ trivial

set_option maxHeartbeats 4000000 in
set_option maxRecDepth 100000 in
theorem c_X1_leave (lx : Launch) (D : va_G) (cs : Nat → ClassId) (ac : Nat → Nat) (nt : Int) (rc : Int) (src : Int → Int) (rw : Int → Int) (rh : Int → Int) (rmk : Int → Int) (mk : Int) (W : Int) (H : Int) (w : Int) (h : Int) (hrc : 0 ≤ rc ∧ rc < 96) (hW : W ≤ 4) (hH : H ≤ 4) (hw : 0 ≤ w ∧ w ≤ W) (hh : 0 ≤ h ∧ h ≤ H) : Cv lx D cs yX1_leave wsX1_leave ({ frames := 3, cells := 0, slots := 0, locals := 69 }) [.ref (ac 0), .int (iI mk), .int (iI W), .int (iI H), .int (iI w), .int (iI h)] [oC ac nt rc, aC (cs 0) (ac 1) 96 src, aC (cs 0) (ac 2) 96 rw, aC (cs 0) (ac 3) 96 rh, aC (cs 0) (ac 4) 96 rmk] (fun (u : Int × (Int → Int) × (Int → Int) × (Int → Int)) => (((u.1, u.2.1, u.2.2.1, u.2.2.2) : Rs) = lvR (rc, rw, rh, rmk) mk W H w h)) (fun u : Int × (Int → Int) × (Int → Int) × (Int → Int) => [oC ac nt u.1, aC (cs 0) (ac 1) 96 src, aC (cs 0) (ac 2) 96 u.2.1, aC (cs 0) (ac 3) 96 u.2.2.1, aC (cs 0) (ac 4) 96 u.2.2.2]) 0 0 := by
  refine Cv_of (cc := cX1_leave) (nL := 8) (ret := none) (lv0 := [(0, .ref (ac 0)), (1, .int (iI mk)), (2, .int (iI W)), (3, .int (iI H)), (4, .int (iI w)), (5, .int (iI h))]) RX1 "leave" (by decide +kernel) rfl (Nat.le_of_ble_eq_true rfl) rfl (fun p9 e9 s9 m9 ar9 be9 me9 c9 A9 Q9 hQ hC => ?_)
  have m1 := mul04 (a := W - w) (b := H) (by omega) (by omega)
  have m2 := mul04 (a := W) (b := H - h) (by omega) (by omega)
  refine v_iload_n hC 1 2 dX1_leave_0 rfl rfl rfl ?_
  refine v_iload hC 3 4 dX1_leave_1 rfl rfl ?_
  refine v_isub hC 4 (W - w) dX1_leave_3 rfl rfl ?_
  refine v_iload_n hC 5 3 dX1_leave_4 rfl rfl rfl ?_
  refine v_imul hC 6 ((W - w) * H) dX1_leave_5 rfl rfl ?_
  refine v_istore hC 8 [(6, .int (iI ((W - w) * H))), (0, .ref (ac 0)), (1, .int (iI mk)), (2, .int (iI W)), (3, .int (iI H)), (4, .int (iI w)), (5, .int (iI h))] dX1_leave_6 rfl (by decide) rfl ?_
  refine v_iload_n hC 9 3 dX1_leave_8 rfl rfl rfl ?_
  refine v_iload_n hC 10 4 dX1_leave_9 rfl rfl rfl ?_
  refine v_iload hC 12 6 dX1_leave_10 rfl rfl ?_
  refine v_isub hC 13 (H - h) dX1_leave_12 rfl rfl ?_
  refine v_imul hC 14 (W * (H - h)) dX1_leave_13 rfl rfl ?_
  refine v_istore hC 16 [(7, .int (iI (W * (H - h)))), (6, .int (iI ((W - w) * H))), (0, .ref (ac 0)), (1, .int (iI mk)), (2, .int (iI W)), (3, .int (iI H)), (4, .int (iI w)), (5, .int (iI h))] dX1_leave_14 rfl (by decide) rfl ?_
  refine v_iload hC 18 1 dX1_leave_16 rfl rfl ?_
  refine v_if_ne hC 27 21 dX1_leave_18 (by decide) rfl (by omega) (fun c_18 => ?_) (fun c_18 => ?_)
  · skip
    refine v_iload hC 29 1 dX1_leave_27 rfl rfl ?_
    refine v_iload hC 31 0 dX1_leave_29 rfl rfl ?_
    refine v_icmp_lt hC 47 34 dX1_leave_31 (by decide) rfl (by omega) (by omega) (fun c_31 => ?_) (fun c_31 => ?_)
    · skip
      refine v_aload_n hC 48 2 dX1_leave_47 rfl rfl rfl ?_
      refine v_iload_n hC 49 3 dX1_leave_48 rfl rfl rfl ?_
      refine v_iload_n hC 50 4 dX1_leave_49 rfl rfl rfl ?_
      refine v_iload_n hC 51 5 dX1_leave_50 rfl rfl rfl ?_
      refine v_iload hC 53 7 dX1_leave_51 rfl rfl ?_
      refine v_isub hC 54 (H - h) dX1_leave_53 rfl rfl ?_
      refine v_callVv hC 57 3 [0, 1, 2, 3, 4] [] [] (As := [.int (iI mk), .int (iI W), .int (iI (H - h))]) (rest := []) (c_X1_addRest lx D cs ac nt rc src rw rh rmk mk W (H - h) (by omega)) dX1_leave_54 rfl rfl 0 rfl rfl gX1_leave_X1_addRest rfl rfl rfl (by decide +kernel) ⟨by decide, by decide⟩ rfl rfl rfl rfl (by decide) rfl (Nat.le_of_ble_eq_true rfl) ⟨rfl, rfl⟩ ⟨by decide, by decide⟩ (fun u54 h54 => ?_)
      (try dsimp only at h54)
      show V p9 lx e9 ({ frames := 3, cells := 0, slots := 0, locals := 69 }) s9 m9 ar9 be9 me9 c9 Q9 D A9 s9.heap 8 0 0 [oC ac nt (rc + 1), aC (cs 0) (ac 1) 96 src, aC (cs 0) (ac 2) 96 (uI rw rc W), aC (cs 0) (ac 3) 96 (uI rh rc (H - h)), aC (cs 0) (ac 4) 96 (uI rmk rc mk)] [(7, .int (iI (W * (H - h)))), (6, .int (iI ((W - w) * H))), (0, .ref (ac 0)), (1, .int (iI mk)), (2, .int (iI W)), (3, .int (iI H)), (4, .int (iI w)), (5, .int (iI h))] 57 []
      exact v_vret hC hQ (rc + 1, uI rw rc W, uI rh rc (H - h), uI rmk rc mk) [0, 1, 2, 3, 4] dX1_leave_57 rfl rfl ⟨by decide, by decide⟩ (by (try dsimp only); all_goals (unfold lvR; first | (rw [if_pos ⟨by omega, by omega⟩]; done) | (rw [if_neg (fun q => absurd q.1 (by omega)), if_pos (by omega)]; rfl) | (rw [if_neg (fun q => absurd q.2 (by omega)), if_pos (by omega)]; rfl) | (rw [if_neg (fun q => absurd q.1 (by omega)), if_neg (by omega)]; rfl) | (rw [if_neg (fun q => absurd q.2 (by omega)), if_neg (by omega)]; rfl)))
    · skip
      refine v_aload_n hC 35 2 dX1_leave_34 rfl rfl rfl ?_
      refine v_iload_n hC 36 3 dX1_leave_35 rfl rfl rfl ?_
      refine v_iload_n hC 37 4 dX1_leave_36 rfl rfl rfl ?_
      refine v_iload hC 39 6 dX1_leave_37 rfl rfl ?_
      refine v_isub hC 40 (W - w) dX1_leave_39 rfl rfl ?_
      refine v_iload_n hC 41 5 dX1_leave_40 rfl rfl rfl ?_
      refine v_callVv hC 44 3 [0, 1, 2, 3, 4] [] [] (As := [.int (iI mk), .int (iI (W - w)), .int (iI H)]) (rest := []) (c_X1_addRest lx D cs ac nt rc src rw rh rmk mk (W - w) H (by omega)) dX1_leave_41 rfl rfl 0 rfl rfl gX1_leave_X1_addRest rfl rfl rfl (by decide +kernel) ⟨by decide, by decide⟩ rfl rfl rfl rfl (by decide) rfl (Nat.le_of_ble_eq_true rfl) ⟨rfl, rfl⟩ ⟨by decide, by decide⟩ (fun u41 h41 => ?_)
      (try dsimp only at h41)
      show V p9 lx e9 ({ frames := 3, cells := 0, slots := 0, locals := 69 }) s9 m9 ar9 be9 me9 c9 Q9 D A9 s9.heap 8 0 0 [oC ac nt (rc + 1), aC (cs 0) (ac 1) 96 src, aC (cs 0) (ac 2) 96 (uI rw rc (W - w)), aC (cs 0) (ac 3) 96 (uI rh rc H), aC (cs 0) (ac 4) 96 (uI rmk rc mk)] [(7, .int (iI (W * (H - h)))), (6, .int (iI ((W - w) * H))), (0, .ref (ac 0)), (1, .int (iI mk)), (2, .int (iI W)), (3, .int (iI H)), (4, .int (iI w)), (5, .int (iI h))] 44 []
      refine v_goto hC 57 dX1_leave_44 (by decide) ?_
      exact v_vret hC hQ (rc + 1, uI rw rc (W - w), uI rh rc H, uI rmk rc mk) [0, 1, 2, 3, 4] dX1_leave_57 rfl rfl ⟨by decide, by decide⟩ (by (try dsimp only); all_goals (unfold lvR; first | (rw [if_pos ⟨by omega, by omega⟩]; done) | (rw [if_neg (fun q => absurd q.1 (by omega)), if_pos (by omega)]; rfl) | (rw [if_neg (fun q => absurd q.2 (by omega)), if_pos (by omega)]; rfl) | (rw [if_neg (fun q => absurd q.1 (by omega)), if_neg (by omega)]; rfl) | (rw [if_neg (fun q => absurd q.2 (by omega)), if_neg (by omega)]; rfl)))
  · skip
    refine v_iload hC 23 0 dX1_leave_21 rfl rfl ?_
    refine v_if_ne hC 27 26 dX1_leave_23 (by decide) rfl (by omega) (fun c_23 => ?_) (fun c_23 => ?_)
    · skip
      refine v_iload hC 29 1 dX1_leave_27 rfl rfl ?_
      refine v_iload hC 31 0 dX1_leave_29 rfl rfl ?_
      refine v_icmp_lt hC 47 34 dX1_leave_31 (by decide) rfl (by omega) (by omega) (fun c_31 => ?_) (fun c_31 => ?_)
      · skip
        refine v_aload_n hC 48 2 dX1_leave_47 rfl rfl rfl ?_
        refine v_iload_n hC 49 3 dX1_leave_48 rfl rfl rfl ?_
        refine v_iload_n hC 50 4 dX1_leave_49 rfl rfl rfl ?_
        refine v_iload_n hC 51 5 dX1_leave_50 rfl rfl rfl ?_
        refine v_iload hC 53 7 dX1_leave_51 rfl rfl ?_
        refine v_isub hC 54 (H - h) dX1_leave_53 rfl rfl ?_
        refine v_callVv hC 57 3 [0, 1, 2, 3, 4] [] [] (As := [.int (iI mk), .int (iI W), .int (iI (H - h))]) (rest := []) (c_X1_addRest lx D cs ac nt rc src rw rh rmk mk W (H - h) (by omega)) dX1_leave_54 rfl rfl 0 rfl rfl gX1_leave_X1_addRest rfl rfl rfl (by decide +kernel) ⟨by decide, by decide⟩ rfl rfl rfl rfl (by decide) rfl (Nat.le_of_ble_eq_true rfl) ⟨rfl, rfl⟩ ⟨by decide, by decide⟩ (fun u54 h54 => ?_)
        (try dsimp only at h54)
        show V p9 lx e9 ({ frames := 3, cells := 0, slots := 0, locals := 69 }) s9 m9 ar9 be9 me9 c9 Q9 D A9 s9.heap 8 0 0 [oC ac nt (rc + 1), aC (cs 0) (ac 1) 96 src, aC (cs 0) (ac 2) 96 (uI rw rc W), aC (cs 0) (ac 3) 96 (uI rh rc (H - h)), aC (cs 0) (ac 4) 96 (uI rmk rc mk)] [(7, .int (iI (W * (H - h)))), (6, .int (iI ((W - w) * H))), (0, .ref (ac 0)), (1, .int (iI mk)), (2, .int (iI W)), (3, .int (iI H)), (4, .int (iI w)), (5, .int (iI h))] 57 []
        exact v_vret hC hQ (rc + 1, uI rw rc W, uI rh rc (H - h), uI rmk rc mk) [0, 1, 2, 3, 4] dX1_leave_57 rfl rfl ⟨by decide, by decide⟩ (by (try dsimp only); all_goals (unfold lvR; first | (rw [if_pos ⟨by omega, by omega⟩]; done) | (rw [if_neg (fun q => absurd q.1 (by omega)), if_pos (by omega)]; rfl) | (rw [if_neg (fun q => absurd q.2 (by omega)), if_pos (by omega)]; rfl) | (rw [if_neg (fun q => absurd q.1 (by omega)), if_neg (by omega)]; rfl) | (rw [if_neg (fun q => absurd q.2 (by omega)), if_neg (by omega)]; rfl)))
      · skip
        refine v_aload_n hC 35 2 dX1_leave_34 rfl rfl rfl ?_
        refine v_iload_n hC 36 3 dX1_leave_35 rfl rfl rfl ?_
        refine v_iload_n hC 37 4 dX1_leave_36 rfl rfl rfl ?_
        refine v_iload hC 39 6 dX1_leave_37 rfl rfl ?_
        refine v_isub hC 40 (W - w) dX1_leave_39 rfl rfl ?_
        refine v_iload_n hC 41 5 dX1_leave_40 rfl rfl rfl ?_
        refine v_callVv hC 44 3 [0, 1, 2, 3, 4] [] [] (As := [.int (iI mk), .int (iI (W - w)), .int (iI H)]) (rest := []) (c_X1_addRest lx D cs ac nt rc src rw rh rmk mk (W - w) H (by omega)) dX1_leave_41 rfl rfl 0 rfl rfl gX1_leave_X1_addRest rfl rfl rfl (by decide +kernel) ⟨by decide, by decide⟩ rfl rfl rfl rfl (by decide) rfl (Nat.le_of_ble_eq_true rfl) ⟨rfl, rfl⟩ ⟨by decide, by decide⟩ (fun u41 h41 => ?_)
        (try dsimp only at h41)
        show V p9 lx e9 ({ frames := 3, cells := 0, slots := 0, locals := 69 }) s9 m9 ar9 be9 me9 c9 Q9 D A9 s9.heap 8 0 0 [oC ac nt (rc + 1), aC (cs 0) (ac 1) 96 src, aC (cs 0) (ac 2) 96 (uI rw rc (W - w)), aC (cs 0) (ac 3) 96 (uI rh rc H), aC (cs 0) (ac 4) 96 (uI rmk rc mk)] [(7, .int (iI (W * (H - h)))), (6, .int (iI ((W - w) * H))), (0, .ref (ac 0)), (1, .int (iI mk)), (2, .int (iI W)), (3, .int (iI H)), (4, .int (iI w)), (5, .int (iI h))] 44 []
        refine v_goto hC 57 dX1_leave_44 (by decide) ?_
        exact v_vret hC hQ (rc + 1, uI rw rc (W - w), uI rh rc H, uI rmk rc mk) [0, 1, 2, 3, 4] dX1_leave_57 rfl rfl ⟨by decide, by decide⟩ (by (try dsimp only); all_goals (unfold lvR; first | (rw [if_pos ⟨by omega, by omega⟩]; done) | (rw [if_neg (fun q => absurd q.1 (by omega)), if_pos (by omega)]; rfl) | (rw [if_neg (fun q => absurd q.2 (by omega)), if_pos (by omega)]; rfl) | (rw [if_neg (fun q => absurd q.1 (by omega)), if_neg (by omega)]; rfl) | (rw [if_neg (fun q => absurd q.2 (by omega)), if_neg (by omega)]; rfl)))
    · skip
      exact v_vret hC hQ (rc, rw, rh, rmk) [0, 1, 2, 3, 4] dX1_leave_26 rfl rfl ⟨by decide, by decide⟩ (by (try dsimp only); all_goals (unfold lvR; first | (rw [if_pos ⟨by omega, by omega⟩]; done) | (rw [if_neg (fun q => absurd q.1 (by omega)), if_pos (by omega)]; rfl) | (rw [if_neg (fun q => absurd q.2 (by omega)), if_pos (by omega)]; rfl) | (rw [if_neg (fun q => absurd q.1 (by omega)), if_neg (by omega)]; rfl) | (rw [if_neg (fun q => absurd q.2 (by omega)), if_neg (by omega)]; rfl)))

set_option maxHeartbeats 4000000 in
set_option maxRecDepth 100000 in
theorem c_X1_removeRest (lx : Launch) (D : va_G) (cs : Nat → ClassId) (ac : Nat → Nat) (nt : Int) (rc : Int) (src : Int → Int) (rw : Int → Int) (rh : Int → Int) (rmk : Int → Int) (x : Int) (hrc : 0 ≤ rc ∧ rc ≤ 96) (hx : 0 ≤ x ∧ x < rc) : Cv lx D cs yX1_removeRest wsX1_removeRest ({ frames := 2, cells := 0, slots := 0, locals := 45 }) [.ref (ac 0), .int (iI x)] [oC ac nt rc, aC (cs 0) (ac 1) 96 src, aC (cs 0) (ac 2) 96 rw, aC (cs 0) (ac 3) 96 rh, aC (cs 0) (ac 4) 96 rmk] (fun (u : Unit) => True) (fun u : Unit => [oC ac nt (rc - 1), aC (cs 0) (ac 1) 96 src, aC (cs 0) (ac 2) 96 (sh rw x rc), aC (cs 0) (ac 3) 96 (sh rh x rc), aC (cs 0) (ac 4) 96 (sh rmk x rc)]) 0 0 := by
  refine Cv_of (cc := cX1_removeRest) (nL := 3) (ret := none) (lv0 := [(0, .ref (ac 0)), (1, .int (iI x))]) RX1 "removeRest" (by decide +kernel) rfl (Nat.le_of_ble_eq_true rfl) rfl (fun p9 e9 s9 m9 ar9 be9 me9 c9 A9 Q9 hQ hC => ?_)
  have iX1 : ∀ w ∈ wsX10, w ∈ wsX1_removeRest := by decide +kernel
  have L0 : Cond.fieldLink RX1 19 "Groutline$Cuts" "restCount" "I" ∈ wsX1_removeRest := by decide +kernel
  have L1 : Cond.fieldLink RX1 22 "Groutline$Cuts" "restWides" "[I" ∈ wsX1_removeRest := by decide +kernel
  have L2 : Cond.fieldLink RX1 25 "Groutline$Cuts" "restHighs" "[I" ∈ wsX1_removeRest := by decide +kernel
  have L3 : Cond.fieldLink RX1 28 "Groutline$Cuts" "restMakers" "[I" ∈ wsX1_removeRest := by decide +kernel
  refine v_aload_n hC 1 0 dX1_removeRest_0 rfl rfl rfl ?_
  refine v_iload_n hC 2 1 dX1_removeRest_1 rfl rfl rfl ?_
  refine v_callVi hC 5 1 [0, 1, 2, 3, 4] [] [] (As := [.int (iI x)]) (rest := []) (c_X1_hasRest lx D cs ac nt rc src rw rh rmk x (by omega) (by omega)) dX1_removeRest_2 rfl rfl 0 rfl rfl gX1_removeRest_X1_hasRest rfl rfl rfl (by decide +kernel) ⟨by decide, by decide⟩ rfl rfl rfl rfl (by decide) rfl (Nat.le_of_ble_eq_true rfl) ⟨rfl, rfl⟩ ⟨by decide, by decide⟩ (fun z2 u2 h2 => ?_)
  (try dsimp only at h2)
  obtain ⟨h2_1, h2_2⟩ := h2
  show V p9 lx e9 ({ frames := 2, cells := 0, slots := 0, locals := 45 }) s9 m9 ar9 be9 me9 c9 Q9 D A9 s9.heap 3 0 0 [oC ac nt rc, aC (cs 0) (ac 1) 96 src, aC (cs 0) (ac 2) 96 rw, aC (cs 0) (ac 3) 96 rh, aC (cs 0) (ac 4) 96 rmk] [(0, .ref (ac 0)), (1, .int (iI x))] 5 [.int (iI z2)]
  refine v_if_ne hC 9 8 dX1_removeRest_5 (by decide) rfl (by omega) (fun c_5 => ?_) (fun c_5 => ?_)
  · skip
    refine v_iload_n hC 10 1 dX1_removeRest_9 rfl rfl rfl ?_
    refine v_iconst hC 11 dX1_removeRest_10 rfl ?_
    refine v_iadd hC 12 (x + 1) dX1_removeRest_11 rfl rfl ?_
    refine v_istore_n hC 13 [(2, .int (iI (x + 1))), (0, .ref (ac 0)), (1, .int (iI x))] dX1_removeRest_12 rfl rfl (by decide) rfl ?_
    have cut_13 : ∀ (n : Nat) (i2 : Int) (rw2 : Int → Int) (rh2 : Int → Int) (rm2 : Int → Int), (x + 1 ≤ i2 ∧ i2 ≤ rc) → (rw2 = sh rw x i2) → (rh2 = sh rh x i2) → (rm2 = sh rmk x i2) → (rc - i2 < (n : Int)) → V p9 lx e9 ({ frames := 2, cells := 0, slots := 0, locals := 45 }) s9 m9 ar9 be9 me9 c9 Q9 D A9 s9.heap 3 0 0 [oC ac nt rc, aC (cs 0) (ac 1) 96 src, aC (cs 0) (ac 2) 96 rw2, aC (cs 0) (ac 3) 96 rh2, aC (cs 0) (ac 4) 96 rm2] [(0, .ref (ac 0)), (1, .int (iI x)), (2, .int (iI i2))] 13 [] := by
      intro n
      induction n with
      | zero =>
        intro i2 rw2 rh2 rm2 hi2 hrw2 hrh2 hrm2 hn
        exfalso; omega
      | succ n ih =>
        intro i2 rw2 rh2 rm2 hi2 hrw2 hrh2 hrm2 hn
        have ih_13 := ih
        clear ih
        refine v_iload_n hC 14 2 dX1_removeRest_13 rfl rfl rfl ?_
        refine v_aload_n hC 15 0 dX1_removeRest_14 rfl rfl rfl ?_
        refine v_get hC 18 0 2 (C := RX1) (T := TX1) (N := 6) dX1_removeRest_15 rfl iX1 L0 rfl rfl (by decide) rfl ?_
        refine v_icmp_ge hC 75 21 dX1_removeRest_18 (by decide) rfl (by omega) (by omega) (fun c_18 => ?_) (fun c_18 => ?_)
        · skip
          refine v_aload_n hC 76 0 dX1_removeRest_75 rfl rfl rfl ?_
          refine v_dup hC 77 dX1_removeRest_76 rfl rfl ?_
          refine v_get hC 80 0 2 (C := RX1) (T := TX1) (N := 6) dX1_removeRest_77 rfl iX1 L0 rfl rfl (by decide) rfl ?_
          refine v_iconst hC 81 dX1_removeRest_80 rfl ?_
          refine v_isub hC 82 (rc - 1) dX1_removeRest_81 rfl rfl ?_
          refine v_put hC 85 0 2 [oC ac nt (rc - 1), aC (cs 0) (ac 1) 96 src, aC (cs 0) (ac 2) 96 rw2, aC (cs 0) (ac 3) 96 rh2, aC (cs 0) (ac 4) 96 rm2] (C := RX1) (T := TX1) (N := 6) dX1_removeRest_82 rfl iX1 tyX1_ok nmX1 L0 rfl rfl (by decide) rfl rfl rfl (Nat.le_of_ble_eq_true rfl) rfl ?_
          obtain rfl : i2 = rc := by omega
          subst hrw2 hrh2 hrm2
          exact v_vret hC hQ () [0, 1, 2, 3, 4] dX1_removeRest_85 rfl rfl ⟨by decide, by decide⟩ trivial
        · skip
          refine v_iload_n hC 22 2 dX1_removeRest_21 rfl rfl rfl ?_
          refine v_bipush hC 24 dX1_removeRest_22 rfl rfl ?_
          refine v_icmp_ge hC 75 27 dX1_removeRest_24 (by decide) rfl (by omega) (by omega) (fun c_24 => ?_) (fun c_24 => ?_)
          · skip
            refine v_aload_n hC 76 0 dX1_removeRest_75 rfl rfl rfl ?_
            refine v_dup hC 77 dX1_removeRest_76 rfl rfl ?_
            refine v_get hC 80 0 2 (C := RX1) (T := TX1) (N := 6) dX1_removeRest_77 rfl iX1 L0 rfl rfl (by decide) rfl ?_
            refine v_iconst hC 81 dX1_removeRest_80 rfl ?_
            refine v_isub hC 82 (rc - 1) dX1_removeRest_81 rfl rfl ?_
            refine v_put hC 85 0 2 [oC ac nt (rc - 1), aC (cs 0) (ac 1) 96 src, aC (cs 0) (ac 2) 96 rw2, aC (cs 0) (ac 3) 96 rh2, aC (cs 0) (ac 4) 96 rm2] (C := RX1) (T := TX1) (N := 6) dX1_removeRest_82 rfl iX1 tyX1_ok nmX1 L0 rfl rfl (by decide) rfl rfl rfl (Nat.le_of_ble_eq_true rfl) rfl ?_
            obtain rfl : i2 = rc := by omega
            subst hrw2 hrh2 hrm2
            exact v_vret hC hQ () [0, 1, 2, 3, 4] dX1_removeRest_85 rfl rfl ⟨by decide, by decide⟩ trivial
          · skip
            refine v_aload_n hC 28 0 dX1_removeRest_27 rfl rfl rfl ?_
            refine v_get hC 31 0 3 (C := RX1) (T := TX1) (N := 6) dX1_removeRest_28 rfl iX1 L1 rfl rfl (by decide) rfl ?_
            refine v_iload_n hC 32 2 dX1_removeRest_31 rfl rfl rfl ?_
            refine v_iconst hC 33 dX1_removeRest_32 rfl ?_
            refine v_isub hC 34 (i2 - 1) dX1_removeRest_33 rfl rfl ?_
            refine v_aload_n hC 35 0 dX1_removeRest_34 rfl rfl rfl ?_
            refine v_get hC 38 0 3 (C := RX1) (T := TX1) (N := 6) dX1_removeRest_35 rfl iX1 L1 rfl rfl (by decide) rfl ?_
            refine v_iload_n hC 39 2 dX1_removeRest_38 rfl rfl rfl ?_
            refine v_iald hC 40 2 dX1_removeRest_39 rfl rfl (by decide) (by omega) ?_
            refine v_iast hC 41 2 [oC ac nt rc, aC (cs 0) (ac 1) 96 src, aC (cs 0) (ac 2) 96 (uI rw2 (i2 - 1) (rw2 i2)), aC (cs 0) (ac 3) 96 rh2, aC (cs 0) (ac 4) 96 rm2] dX1_removeRest_40 rfl rfl (by decide) (by omega) rfl ?_
            refine v_aload_n hC 42 0 dX1_removeRest_41 rfl rfl rfl ?_
            refine v_get hC 45 0 4 (C := RX1) (T := TX1) (N := 6) dX1_removeRest_42 rfl iX1 L2 rfl rfl (by decide) rfl ?_
            refine v_iload_n hC 46 2 dX1_removeRest_45 rfl rfl rfl ?_
            refine v_iconst hC 47 dX1_removeRest_46 rfl ?_
            refine v_isub hC 48 (i2 - 1) dX1_removeRest_47 rfl rfl ?_
            refine v_aload_n hC 49 0 dX1_removeRest_48 rfl rfl rfl ?_
            refine v_get hC 52 0 4 (C := RX1) (T := TX1) (N := 6) dX1_removeRest_49 rfl iX1 L2 rfl rfl (by decide) rfl ?_
            refine v_iload_n hC 53 2 dX1_removeRest_52 rfl rfl rfl ?_
            refine v_iald hC 54 3 dX1_removeRest_53 rfl rfl (by decide) (by omega) ?_
            refine v_iast hC 55 3 [oC ac nt rc, aC (cs 0) (ac 1) 96 src, aC (cs 0) (ac 2) 96 (uI rw2 (i2 - 1) (rw2 i2)), aC (cs 0) (ac 3) 96 (uI rh2 (i2 - 1) (rh2 i2)), aC (cs 0) (ac 4) 96 rm2] dX1_removeRest_54 rfl rfl (by decide) (by omega) rfl ?_
            refine v_aload_n hC 56 0 dX1_removeRest_55 rfl rfl rfl ?_
            refine v_get hC 59 0 5 (C := RX1) (T := TX1) (N := 6) dX1_removeRest_56 rfl iX1 L3 rfl rfl (by decide) rfl ?_
            refine v_iload_n hC 60 2 dX1_removeRest_59 rfl rfl rfl ?_
            refine v_iconst hC 61 dX1_removeRest_60 rfl ?_
            refine v_isub hC 62 (i2 - 1) dX1_removeRest_61 rfl rfl ?_
            refine v_aload_n hC 63 0 dX1_removeRest_62 rfl rfl rfl ?_
            refine v_get hC 66 0 5 (C := RX1) (T := TX1) (N := 6) dX1_removeRest_63 rfl iX1 L3 rfl rfl (by decide) rfl ?_
            refine v_iload_n hC 67 2 dX1_removeRest_66 rfl rfl rfl ?_
            refine v_iald hC 68 4 dX1_removeRest_67 rfl rfl (by decide) (by omega) ?_
            refine v_iast hC 69 4 [oC ac nt rc, aC (cs 0) (ac 1) 96 src, aC (cs 0) (ac 2) 96 (uI rw2 (i2 - 1) (rw2 i2)), aC (cs 0) (ac 3) 96 (uI rh2 (i2 - 1) (rh2 i2)), aC (cs 0) (ac 4) 96 (uI rm2 (i2 - 1) (rm2 i2))] dX1_removeRest_68 rfl rfl (by decide) (by omega) rfl ?_
            refine v_iinc hC 72 2 [(2, .int (iI (i2 + 1))), (0, .ref (ac 0)), (1, .int (iI x))] dX1_removeRest_69 rfl rfl (by decide) rfl ?_
            refine v_goto hC 13 dX1_removeRest_72 (by decide) ?_
            exact v_sub [0, 1, 2, 3, 4] [1, 2, 0] _ _ rfl rfl rfl (ih_13 (i2 + 1) (uI rw2 (i2 - 1) (rw2 i2)) (uI rh2 (i2 - 1) (rh2 i2)) (uI rm2 (i2 - 1) (rm2 i2)) (by omega) (by rw [hrw2, sh_at]; exact sh_step rw (by omega)) (by rw [hrh2, sh_at]; exact sh_step rh (by omega)) (by rw [hrm2, sh_at]; exact sh_step rmk (by omega)) (by omega))
    exact v_sub [0, 1, 2, 3, 4] [1, 2, 0] _ _ rfl rfl rfl (cut_13 (Int.toNat (rc - (x + 1)) + 1) (x + 1) rw rh rmk (by omega) (by exact (sh_0 rw x).symm) (by exact (sh_0 rh x).symm) (by exact (sh_0 rmk x).symm) (by omega))
  · exfalso; omega

set_option maxHeartbeats 4000000 in
set_option maxRecDepth 100000 in
theorem c_X1_bestRestFor (lx : Launch) (D : va_G) (cs : Nat → ClassId) (ac : Nat → Nat) (nt : Int) (rc : Int) (src : Int → Int) (rw : Int → Int) (rh : Int → Int) (rmk : Int → Int) (w : Int) (h : Int) (hrc : 0 ≤ rc ∧ rc ≤ 96) (hrw : Rn rw 0 4) (hrh : Rn rh 0 4) (hw : -2147483648 ≤ w ∧ w < 2147483648) (hh : -2147483648 ≤ h ∧ h < 2147483648) : Ci lx D cs yX1_bestRestFor wsX1_bestRestFor ({ frames := 1, cells := 0, slots := 0, locals := 24 }) [.ref (ac 0), .int (iI w), .int (iI h)] [oC ac nt rc, aC (cs 0) (ac 1) 96 src, aC (cs 0) (ac 2) 96 rw, aC (cs 0) (ac 3) 96 rh, aC (cs 0) (ac 4) 96 rmk] (fun (z : Int) (u : Unit) => (z = br rw rh w h rc.toNat)) (fun u : Unit => [oC ac nt rc, aC (cs 0) (ac 1) 96 src, aC (cs 0) (ac 2) 96 rw, aC (cs 0) (ac 3) 96 rh, aC (cs 0) (ac 4) 96 rmk]) 0 0 := by
  refine Ci_of (cc := cX1_bestRestFor) (nL := 8) (ret := (some .int)) (lv0 := [(0, .ref (ac 0)), (1, .int (iI w)), (2, .int (iI h))]) RX1 "bestRestFor" (by decide +kernel) rfl (Nat.le_of_ble_eq_true rfl) rfl (fun p9 e9 s9 m9 ar9 be9 me9 c9 A9 Q9 hQ hC => ?_)
  have iX1 : ∀ w ∈ wsX10, w ∈ wsX1_bestRestFor := by decide +kernel
  have L0 : Cond.fieldLink RX1 19 "Groutline$Cuts" "restCount" "I" ∈ wsX1_bestRestFor := by decide +kernel
  have L1 : Cond.fieldLink RX1 22 "Groutline$Cuts" "restWides" "[I" ∈ wsX1_bestRestFor := by decide +kernel
  have L2 : Cond.fieldLink RX1 25 "Groutline$Cuts" "restHighs" "[I" ∈ wsX1_bestRestFor := by decide +kernel
  refine v_iconst hC 1 dX1_bestRestFor_0 rfl ?_
  refine v_istore_n hC 2 [(3, .int (iI (-1))), (0, .ref (ac 0)), (1, .int (iI w)), (2, .int (iI h))] dX1_bestRestFor_1 rfl rfl (by decide) rfl ?_
  refine v_iconst hC 3 dX1_bestRestFor_2 rfl ?_
  refine v_istore hC 5 [(4, .int (iI 0)), (3, .int (iI (-1))), (0, .ref (ac 0)), (1, .int (iI w)), (2, .int (iI h))] dX1_bestRestFor_3 rfl (by decide) rfl ?_
  refine v_iconst hC 6 dX1_bestRestFor_5 rfl ?_
  refine v_istore hC 8 [(5, .int (iI 0)), (4, .int (iI 0)), (3, .int (iI (-1))), (0, .ref (ac 0)), (1, .int (iI w)), (2, .int (iI h))] dX1_bestRestFor_6 rfl (by decide) rfl ?_
  have cut_8 : ∀ (n : Nat) (best : Int) (least : Int) (i : Int), (0 ≤ i ∧ i ≤ rc) → (best = br rw rh w h i.toNat) → (-1 ≤ best ∧ best < i) → (best < 0 → least = 0) → (0 ≤ best → least = rw best * rh best) → (rc - i < (n : Int)) → V p9 lx e9 ({ frames := 1, cells := 0, slots := 0, locals := 24 }) s9 m9 ar9 be9 me9 c9 Q9 D A9 s9.heap 8 0 0 [oC ac nt rc, aC (cs 0) (ac 1) 96 src, aC (cs 0) (ac 2) 96 rw, aC (cs 0) (ac 3) 96 rh, aC (cs 0) (ac 4) 96 rmk] [(0, .ref (ac 0)), (1, .int (iI w)), (2, .int (iI h)), (3, .int (iI best)), (4, .int (iI least)), (5, .int (iI i))] 8 [] := by
    intro n
    induction n with
    | zero =>
      intro best least i hi hbest hb9 hl0 hl1 hn
      exfalso; omega
    | succ n ih =>
      intro best least i hi hbest hb9 hl0 hl1 hn
      have ih_8 := ih
      clear ih
      refine v_iload hC 10 5 dX1_bestRestFor_8 rfl rfl ?_
      refine v_aload_n hC 11 0 dX1_bestRestFor_10 rfl rfl rfl ?_
      refine v_get hC 14 0 2 (C := RX1) (T := TX1) (N := 6) dX1_bestRestFor_11 rfl iX1 L0 rfl rfl (by decide) rfl ?_
      refine v_icmp_ge hC 100 17 dX1_bestRestFor_14 (by decide) rfl (by omega) (by omega) (fun c_14 => ?_) (fun c_14 => ?_)
      · skip
        refine v_iload_n hC 101 3 dX1_bestRestFor_100 rfl rfl rfl ?_
        exact v_iret hC hQ () [0, 1, 2, 3, 4] dX1_bestRestFor_101 rfl rfl ⟨by decide, by decide⟩ (by (try dsimp only); all_goals (rw [hbest, show i = rc by omega]))
      · skip
        refine v_iload hC 19 5 dX1_bestRestFor_17 rfl rfl ?_
        refine v_bipush hC 21 dX1_bestRestFor_19 rfl rfl ?_
        refine v_icmp_ge hC 100 24 dX1_bestRestFor_21 (by decide) rfl (by omega) (by omega) (fun c_21 => ?_) (fun c_21 => ?_)
        · skip
          refine v_iload_n hC 101 3 dX1_bestRestFor_100 rfl rfl rfl ?_
          exact v_iret hC hQ () [0, 1, 2, 3, 4] dX1_bestRestFor_101 rfl rfl ⟨by decide, by decide⟩ (by (try dsimp only); all_goals (rw [hbest, show i = rc by omega]))
        · skip
          have hz9 : 0 ≤ best → 0 ≤ rw best * rh best ∧ rw best * rh best ≤ 16 := fun _ => mul04 (hrw best) (hrh best)
          refine v_aload_n hC 25 0 dX1_bestRestFor_24 rfl rfl rfl ?_
          refine v_get hC 28 0 3 (C := RX1) (T := TX1) (N := 6) dX1_bestRestFor_25 rfl iX1 L1 rfl rfl (by decide) rfl ?_
          refine v_iload hC 30 5 dX1_bestRestFor_28 rfl rfl ?_
          refine v_iald hC 31 2 dX1_bestRestFor_30 rfl rfl (by decide) (by omega) ?_
          have r_30 := hrw i
          refine v_iload_n hC 32 1 dX1_bestRestFor_31 rfl rfl rfl ?_
          refine v_icmp_lt hC 50 35 dX1_bestRestFor_32 (by decide) rfl (by omega) (by omega) (fun c_32 => ?_) (fun c_32 => ?_)
          · skip
            refine v_iconst hC 51 dX1_bestRestFor_50 rfl ?_
            refine v_istore hC 53 [(6, .int (iI 0)), (0, .ref (ac 0)), (1, .int (iI w)), (2, .int (iI h)), (3, .int (iI best)), (4, .int (iI least)), (5, .int (iI i))] dX1_bestRestFor_51 rfl (by decide) rfl ?_
            refine v_aload_n hC 54 1 dX1_bestRestFor_53 rfl rfl rfl ?_
            refine v_get hC 57 0 3 (C := RX1) (T := TX1) (N := 6) dX1_bestRestFor_54 rfl iX1 L1 rfl rfl (by decide) rfl ?_
            refine v_iload hC 59 6 dX1_bestRestFor_57 rfl rfl ?_
            refine v_iald hC 60 2 dX1_bestRestFor_59 rfl rfl (by decide) (by omega) ?_
            have r_59 := hrw i
            refine v_aload_n hC 61 1 dX1_bestRestFor_60 rfl rfl rfl ?_
            refine v_get hC 64 0 4 (C := RX1) (T := TX1) (N := 6) dX1_bestRestFor_61 rfl iX1 L2 rfl rfl (by decide) rfl ?_
            refine v_iload hC 66 6 dX1_bestRestFor_64 rfl rfl ?_
            refine v_iald hC 67 3 dX1_bestRestFor_66 rfl rfl (by decide) (by omega) ?_
            have r_66 := hrh i
            refine v_imul hC 68 ((rw i) * (rh i)) dX1_bestRestFor_67 rfl rfl ?_
            have hz8 := mul04 (hrw i) (hrh i)
            refine v_istore hC 70 [(7, .int (iI ((rw i) * (rh i)))), (6, .int (iI 0)), (0, .ref (ac 0)), (1, .int (iI w)), (2, .int (iI h)), (3, .int (iI best)), (4, .int (iI least)), (5, .int (iI i))] dX1_bestRestFor_68 rfl (by decide) rfl ?_
            refine v_iload hC 72 1 dX1_bestRestFor_70 rfl rfl ?_
            refine v_if_eq hC 94 75 dX1_bestRestFor_72 (by decide) rfl (by omega) (fun c_72 => ?_) (fun c_72 => ?_)
            · skip
              refine v_iinc hC 97 7 [(5, .int (iI (i + 1))), (7, .int (iI ((rw i) * (rh i)))), (6, .int (iI 0)), (0, .ref (ac 0)), (1, .int (iI w)), (2, .int (iI h)), (3, .int (iI best)), (4, .int (iI least))] dX1_bestRestFor_94 rfl rfl (by decide) rfl ?_
              refine v_goto hC 8 dX1_bestRestFor_97 (by decide) ?_
              exact v_sub [0, 1, 2, 3, 4] [3, 4, 5, 6, 7, 0] _ _ rfl rfl rfl (ih_8 best least (i + 1) (by omega) (by rw [br_I hi.1, ← hbest]; first | (rw [if_pos ⟨by omega, by omega⟩]; done) | (rw [if_neg (fun q => by omega)]; done)) (by omega) (by omega) (by first | omega | (intro _; rfl)) (by omega))
            · exfalso; exact absurd c_72 (by decide)
          · skip
            refine v_aload_n hC 36 0 dX1_bestRestFor_35 rfl rfl rfl ?_
            refine v_get hC 39 0 4 (C := RX1) (T := TX1) (N := 6) dX1_bestRestFor_36 rfl iX1 L2 rfl rfl (by decide) rfl ?_
            refine v_iload hC 41 5 dX1_bestRestFor_39 rfl rfl ?_
            refine v_iald hC 42 3 dX1_bestRestFor_41 rfl rfl (by decide) (by omega) ?_
            have r_41 := hrh i
            refine v_iload_n hC 43 2 dX1_bestRestFor_42 rfl rfl rfl ?_
            refine v_icmp_lt hC 50 46 dX1_bestRestFor_43 (by decide) rfl (by omega) (by omega) (fun c_43 => ?_) (fun c_43 => ?_)
            · skip
              refine v_iconst hC 51 dX1_bestRestFor_50 rfl ?_
              refine v_istore hC 53 [(6, .int (iI 0)), (0, .ref (ac 0)), (1, .int (iI w)), (2, .int (iI h)), (3, .int (iI best)), (4, .int (iI least)), (5, .int (iI i))] dX1_bestRestFor_51 rfl (by decide) rfl ?_
              refine v_aload_n hC 54 1 dX1_bestRestFor_53 rfl rfl rfl ?_
              refine v_get hC 57 0 3 (C := RX1) (T := TX1) (N := 6) dX1_bestRestFor_54 rfl iX1 L1 rfl rfl (by decide) rfl ?_
              refine v_iload hC 59 6 dX1_bestRestFor_57 rfl rfl ?_
              refine v_iald hC 60 2 dX1_bestRestFor_59 rfl rfl (by decide) (by omega) ?_
              have r_59 := hrw i
              refine v_aload_n hC 61 1 dX1_bestRestFor_60 rfl rfl rfl ?_
              refine v_get hC 64 0 4 (C := RX1) (T := TX1) (N := 6) dX1_bestRestFor_61 rfl iX1 L2 rfl rfl (by decide) rfl ?_
              refine v_iload hC 66 6 dX1_bestRestFor_64 rfl rfl ?_
              refine v_iald hC 67 3 dX1_bestRestFor_66 rfl rfl (by decide) (by omega) ?_
              have r_66 := hrh i
              refine v_imul hC 68 ((rw i) * (rh i)) dX1_bestRestFor_67 rfl rfl ?_
              have hz8 := mul04 (hrw i) (hrh i)
              refine v_istore hC 70 [(7, .int (iI ((rw i) * (rh i)))), (6, .int (iI 0)), (0, .ref (ac 0)), (1, .int (iI w)), (2, .int (iI h)), (3, .int (iI best)), (4, .int (iI least)), (5, .int (iI i))] dX1_bestRestFor_68 rfl (by decide) rfl ?_
              refine v_iload hC 72 1 dX1_bestRestFor_70 rfl rfl ?_
              refine v_if_eq hC 94 75 dX1_bestRestFor_72 (by decide) rfl (by omega) (fun c_72 => ?_) (fun c_72 => ?_)
              · skip
                refine v_iinc hC 97 7 [(5, .int (iI (i + 1))), (7, .int (iI ((rw i) * (rh i)))), (6, .int (iI 0)), (0, .ref (ac 0)), (1, .int (iI w)), (2, .int (iI h)), (3, .int (iI best)), (4, .int (iI least))] dX1_bestRestFor_94 rfl rfl (by decide) rfl ?_
                refine v_goto hC 8 dX1_bestRestFor_97 (by decide) ?_
                exact v_sub [0, 1, 2, 3, 4] [3, 4, 5, 6, 7, 0] _ _ rfl rfl rfl (ih_8 best least (i + 1) (by omega) (by rw [br_I hi.1, ← hbest]; first | (rw [if_pos ⟨by omega, by omega⟩]; done) | (rw [if_neg (fun q => by omega)]; done)) (by omega) (by omega) (by first | omega | (intro _; rfl)) (by omega))
              · exfalso; exact absurd c_72 (by decide)
            · skip
              refine v_iconst hC 47 dX1_bestRestFor_46 rfl ?_
              refine v_goto hC 51 dX1_bestRestFor_47 (by decide) ?_
              refine v_istore hC 53 [(6, .int (iI 1)), (0, .ref (ac 0)), (1, .int (iI w)), (2, .int (iI h)), (3, .int (iI best)), (4, .int (iI least)), (5, .int (iI i))] dX1_bestRestFor_51 rfl (by decide) rfl ?_
              refine v_aload_n hC 54 1 dX1_bestRestFor_53 rfl rfl rfl ?_
              refine v_get hC 57 0 3 (C := RX1) (T := TX1) (N := 6) dX1_bestRestFor_54 rfl iX1 L1 rfl rfl (by decide) rfl ?_
              refine v_iload hC 59 6 dX1_bestRestFor_57 rfl rfl ?_
              refine v_iald hC 60 2 dX1_bestRestFor_59 rfl rfl (by decide) (by omega) ?_
              have r_59 := hrw i
              refine v_aload_n hC 61 1 dX1_bestRestFor_60 rfl rfl rfl ?_
              refine v_get hC 64 0 4 (C := RX1) (T := TX1) (N := 6) dX1_bestRestFor_61 rfl iX1 L2 rfl rfl (by decide) rfl ?_
              refine v_iload hC 66 6 dX1_bestRestFor_64 rfl rfl ?_
              refine v_iald hC 67 3 dX1_bestRestFor_66 rfl rfl (by decide) (by omega) ?_
              have r_66 := hrh i
              refine v_imul hC 68 ((rw i) * (rh i)) dX1_bestRestFor_67 rfl rfl ?_
              have hz8 := mul04 (hrw i) (hrh i)
              refine v_istore hC 70 [(7, .int (iI ((rw i) * (rh i)))), (6, .int (iI 1)), (0, .ref (ac 0)), (1, .int (iI w)), (2, .int (iI h)), (3, .int (iI best)), (4, .int (iI least)), (5, .int (iI i))] dX1_bestRestFor_68 rfl (by decide) rfl ?_
              refine v_iload hC 72 1 dX1_bestRestFor_70 rfl rfl ?_
              refine v_if_eq hC 94 75 dX1_bestRestFor_72 (by decide) rfl (by omega) (fun c_72 => ?_) (fun c_72 => ?_)
              · exfalso; exact absurd c_72 (by decide)
              · skip
                refine v_iload_n hC 76 5 dX1_bestRestFor_75 rfl rfl rfl ?_
                refine v_iconst hC 77 dX1_bestRestFor_76 rfl ?_
                refine v_icmp_eq hC 87 80 dX1_bestRestFor_77 (by decide) rfl (by omega) (by omega) (fun c_77 => ?_) (fun c_77 => ?_)
                · skip
                  refine v_iload hC 89 7 dX1_bestRestFor_87 rfl rfl ?_
                  refine v_istore_n hC 90 [(3, .int (iI i)), (7, .int (iI ((rw i) * (rh i)))), (6, .int (iI 1)), (0, .ref (ac 0)), (1, .int (iI w)), (2, .int (iI h)), (4, .int (iI least)), (5, .int (iI i))] dX1_bestRestFor_89 rfl rfl (by decide) rfl ?_
                  refine v_iload hC 92 1 dX1_bestRestFor_90 rfl rfl ?_
                  refine v_istore hC 94 [(4, .int (iI ((rw i) * (rh i)))), (3, .int (iI i)), (7, .int (iI ((rw i) * (rh i)))), (6, .int (iI 1)), (0, .ref (ac 0)), (1, .int (iI w)), (2, .int (iI h)), (5, .int (iI i))] dX1_bestRestFor_92 rfl (by decide) rfl ?_
                  refine v_iinc hC 97 7 [(5, .int (iI (i + 1))), (4, .int (iI ((rw i) * (rh i)))), (3, .int (iI i)), (7, .int (iI ((rw i) * (rh i)))), (6, .int (iI 1)), (0, .ref (ac 0)), (1, .int (iI w)), (2, .int (iI h))] dX1_bestRestFor_94 rfl rfl (by decide) rfl ?_
                  refine v_goto hC 8 dX1_bestRestFor_97 (by decide) ?_
                  exact v_sub [0, 1, 2, 3, 4] [5, 6, 7, 2, 1, 0] _ _ rfl rfl rfl (ih_8 i ((rw i) * (rh i)) (i + 1) (by omega) (by rw [br_I hi.1, ← hbest]; first | (rw [if_pos ⟨by omega, by omega⟩]; done) | (rw [if_neg (fun q => by omega)]; done)) (by omega) (by omega) (by first | omega | (intro _; rfl)) (by omega))
                · skip
                  refine v_iload hC 82 0 dX1_bestRestFor_80 rfl rfl ?_
                  refine v_iload hC 84 6 dX1_bestRestFor_82 rfl rfl ?_
                  refine v_icmp_ge hC 94 87 dX1_bestRestFor_84 (by decide) rfl (by omega) (by omega) (fun c_84 => ?_) (fun c_84 => ?_)
                  · skip
                    refine v_iinc hC 97 7 [(5, .int (iI (i + 1))), (7, .int (iI ((rw i) * (rh i)))), (6, .int (iI 1)), (0, .ref (ac 0)), (1, .int (iI w)), (2, .int (iI h)), (3, .int (iI best)), (4, .int (iI least))] dX1_bestRestFor_94 rfl rfl (by decide) rfl ?_
                    refine v_goto hC 8 dX1_bestRestFor_97 (by decide) ?_
                    exact v_sub [0, 1, 2, 3, 4] [3, 4, 5, 6, 7, 0] _ _ rfl rfl rfl (ih_8 best least (i + 1) (by omega) (by rw [br_I hi.1, ← hbest]; first | (rw [if_pos ⟨by omega, by omega⟩]; done) | (rw [if_neg (fun q => by omega)]; done)) (by omega) (by omega) (by first | omega | (intro _; rfl)) (by omega))
                  · skip
                    refine v_iload hC 89 7 dX1_bestRestFor_87 rfl rfl ?_
                    refine v_istore_n hC 90 [(3, .int (iI i)), (7, .int (iI ((rw i) * (rh i)))), (6, .int (iI 1)), (0, .ref (ac 0)), (1, .int (iI w)), (2, .int (iI h)), (4, .int (iI least)), (5, .int (iI i))] dX1_bestRestFor_89 rfl rfl (by decide) rfl ?_
                    refine v_iload hC 92 1 dX1_bestRestFor_90 rfl rfl ?_
                    refine v_istore hC 94 [(4, .int (iI ((rw i) * (rh i)))), (3, .int (iI i)), (7, .int (iI ((rw i) * (rh i)))), (6, .int (iI 1)), (0, .ref (ac 0)), (1, .int (iI w)), (2, .int (iI h)), (5, .int (iI i))] dX1_bestRestFor_92 rfl (by decide) rfl ?_
                    refine v_iinc hC 97 7 [(5, .int (iI (i + 1))), (4, .int (iI ((rw i) * (rh i)))), (3, .int (iI i)), (7, .int (iI ((rw i) * (rh i)))), (6, .int (iI 1)), (0, .ref (ac 0)), (1, .int (iI w)), (2, .int (iI h))] dX1_bestRestFor_94 rfl rfl (by decide) rfl ?_
                    refine v_goto hC 8 dX1_bestRestFor_97 (by decide) ?_
                    exact v_sub [0, 1, 2, 3, 4] [5, 6, 7, 2, 1, 0] _ _ rfl rfl rfl (ih_8 i ((rw i) * (rh i)) (i + 1) (by omega) (by rw [br_I hi.1, ← hbest]; first | (rw [if_pos ⟨by omega, by omega⟩]; done) | (rw [if_neg (fun q => by omega)]; done)) (by omega) (by omega) (by first | omega | (intro _; rfl)) (by omega))
  exact v_sub [0, 1, 2, 3, 4] [3, 4, 5, 2, 1, 0] _ _ rfl rfl rfl (cut_8 (Int.toNat (rc - 0) + 1) (-1) 0 0 (by omega) (by rfl) (by omega) (by omega) (by omega) (by omega))

set_option maxHeartbeats 4000000 in
set_option maxRecDepth 100000 in
theorem c_X1_cut (lx : Launch) (D : va_G) (cs : Nat → ClassId) (ac : Nat → Nat) (al : Nat) (nt : Int) (rc : Int) (src : Int → Int) (rw : Int → Int) (rh : Int → Int) (rmk : Int → Int) (wide : Int) (high : Int) (border : Int) (pattern : Int) (p : Int) (w : Int) (h : Int) (hw : 1 ≤ wide ∧ wide ≤ 4) (hh : 1 ≤ high ∧ high ≤ 4) (hp : 0 ≤ p ∧ p < 96) (hR : Rok (rc, rw, rh, rmk) p) (hw2 : 0 ≤ w ∧ w ≤ wide) (hh2 : 0 ≤ h ∧ h ≤ high) : Cv lx D cs yX1_cut wsX1_cut ({ frames := 4, cells := 0, slots := 0, locals := 96 }) [.ref (ac 0), .ref al, .int (iI p), .int (iI w), .int (iI h)] [oC ac nt rc, aC (cs 0) (ac 1) 96 src, aC (cs 0) (ac 2) 96 rw, aC (cs 0) (ac 3) 96 rh, aC (cs 0) (ac 4) 96 rmk, oL al wide high border pattern] (fun (u : Int × Int × (Int → Int) × (Int → Int) × (Int → Int) × (Int → Int)) => (((u.2.1, u.2.2.1, u.2.2.2.1, u.2.2.2.2.1) : Rs) = cutR wide high (rc, rw, rh, rmk) p w h) ∧ (u.1 = nt + (if cutI (rc, rw, rh, rmk) w h < 0 then 1 else 0)) ∧ (u.2.2.2.2.2 = if 0 ≤ cutI (rc, rw, rh, rmk) w h then uI src p (rmk (cutI (rc, rw, rh, rmk) w h)) else src)) (fun u : Int × Int × (Int → Int) × (Int → Int) × (Int → Int) × (Int → Int) => [oC ac u.1 u.2.1, aC (cs 0) (ac 1) 96 u.2.2.2.2.2, aC (cs 0) (ac 2) 96 u.2.2.1, aC (cs 0) (ac 3) 96 u.2.2.2.1, aC (cs 0) (ac 4) 96 u.2.2.2.2.1, oL al wide high border pattern]) 0 0 := by
  refine Cv_of (cc := cX1_cut) (nL := 8) (ret := none) (lv0 := [(0, .ref (ac 0)), (1, .ref al), (2, .int (iI p)), (3, .int (iI w)), (4, .int (iI h))]) RX1 "cut" (by decide +kernel) rfl (Nat.le_of_ble_eq_true rfl) rfl (fun p9 e9 s9 m9 ar9 be9 me9 c9 A9 Q9 hQ hC => ?_)
  have hR1 := hR.1
  have hR2 := hR.2.1
  have hR3 := hR.2.2.1
  dsimp only at hR1 hR2 hR3
  have hI := cutI_rng (w := w) (h := h) hR
  have hI8 : cutI (rc, rw, rh, rmk) w h = br rw rh w h rc.toNat := rfl
  rw [hI8] at hI
  dsimp only at hI
  have hR4 := hR2 (br rw rh w h rc.toNat)
  have hR5 := hR3 (br rw rh w h rc.toNat)
  have iX1 : ∀ w ∈ wsX10, w ∈ wsX1_cut := by decide +kernel
  have iX3 : ∀ w ∈ wsX30, w ∈ wsX1_cut := by decide +kernel
  have L0 : Cond.fieldLink RX1 22 "Groutline$Cuts" "restWides" "[I" ∈ wsX1_cut := by decide +kernel
  have L1 : Cond.fieldLink RX1 25 "Groutline$Cuts" "restHighs" "[I" ∈ wsX1_cut := by decide +kernel
  have L2 : Cond.fieldLink RX1 15 "Groutline$Cuts" "sources" "[I" ∈ wsX1_cut := by decide +kernel
  have L3 : Cond.fieldLink RX1 28 "Groutline$Cuts" "restMakers" "[I" ∈ wsX1_cut := by decide +kernel
  have L4 : Cond.fieldLink RX1 9 "Groutline$Cuts" "newTiles" "I" ∈ wsX1_cut := by decide +kernel
  have L5 : Cond.fieldLink RX1 63 "Groutline$Layout" "wide" "I" ∈ wsX1_cut := by decide +kernel
  have L6 : Cond.fieldLink RX1 68 "Groutline$Layout" "high" "I" ∈ wsX1_cut := by decide +kernel
  refine v_aload_n hC 1 0 dX1_cut_0 rfl rfl rfl ?_
  refine v_iload_n hC 2 3 dX1_cut_1 rfl rfl rfl ?_
  refine v_iload hC 4 4 dX1_cut_2 rfl rfl ?_
  refine v_callVi hC 7 2 [0, 1, 2, 3, 4] [5] [oL al wide high border pattern] (As := [.int (iI w), .int (iI h)]) (rest := []) (c_X1_bestRestFor lx D cs ac nt rc src rw rh rmk w h (by omega) (by exact hR2) (by exact hR3) (by omega) (by omega)) dX1_cut_4 rfl rfl 0 rfl rfl gX1_cut_X1_bestRestFor rfl rfl rfl (by decide +kernel) ⟨by decide, by decide⟩ rfl rfl rfl rfl (by decide) rfl (Nat.le_of_ble_eq_true rfl) ⟨rfl, rfl⟩ ⟨by decide, by decide⟩ (fun z4 u4 h4 => ?_)
  (try dsimp only at h4)
  subst h4
  show V p9 lx e9 ({ frames := 4, cells := 0, slots := 0, locals := 96 }) s9 m9 ar9 be9 me9 c9 Q9 D A9 s9.heap 8 0 0 [oL al wide high border pattern, oC ac nt rc, aC (cs 0) (ac 1) 96 src, aC (cs 0) (ac 2) 96 rw, aC (cs 0) (ac 3) 96 rh, aC (cs 0) (ac 4) 96 rmk] [(0, .ref (ac 0)), (1, .ref al), (2, .int (iI p)), (3, .int (iI w)), (4, .int (iI h))] 7 [.int (iI (br rw rh w h rc.toNat))]
  refine v_istore hC 9 [(5, .int (iI (br rw rh w h rc.toNat))), (0, .ref (ac 0)), (1, .ref al), (2, .int (iI p)), (3, .int (iI w)), (4, .int (iI h))] dX1_cut_7 rfl (by decide) rfl ?_
  refine v_aload_n hC 10 1 dX1_cut_9 rfl rfl rfl ?_
  refine v_iload hC 12 0 dX1_cut_10 rfl rfl ?_
  refine v_callVi hC 15 1 [1, 2, 3, 4, 5] [0] [oL al wide high border pattern] (As := [.int (iI (br rw rh w h rc.toNat))]) (rest := []) (c_X1_hasRest lx D cs ac nt rc src rw rh rmk (br rw rh w h rc.toNat) (by omega) (by omega)) dX1_cut_12 rfl rfl 1 rfl rfl gX1_cut_X1_hasRest rfl rfl rfl (by decide +kernel) ⟨by decide, by decide⟩ rfl rfl rfl rfl (by decide) rfl (Nat.le_of_ble_eq_true rfl) ⟨rfl, rfl⟩ ⟨by decide, by decide⟩ (fun z12 u12 h12 => ?_)
  (try dsimp only at h12)
  obtain ⟨h12_1, h12_2⟩ := h12
  show V p9 lx e9 ({ frames := 4, cells := 0, slots := 0, locals := 96 }) s9 m9 ar9 be9 me9 c9 Q9 D A9 s9.heap 8 0 0 [oL al wide high border pattern, oC ac nt rc, aC (cs 0) (ac 1) 96 src, aC (cs 0) (ac 2) 96 rw, aC (cs 0) (ac 3) 96 rh, aC (cs 0) (ac 4) 96 rmk] [(5, .int (iI (br rw rh w h rc.toNat))), (0, .ref (ac 0)), (1, .ref al), (2, .int (iI p)), (3, .int (iI w)), (4, .int (iI h))] 15 [.int (iI z12)]
  refine v_if_ne hC 45 18 dX1_cut_15 (by decide) rfl (by omega) (fun c_15 => ?_) (fun c_15 => ?_)
  · skip
    refine v_aload_n hC 46 1 dX1_cut_45 rfl rfl rfl ?_
    refine v_get hC 49 1 3 (C := RX1) (T := TX1) (N := 6) dX1_cut_46 rfl iX1 L0 rfl rfl (by decide) rfl ?_
    refine v_iload hC 51 0 dX1_cut_49 rfl rfl ?_
    refine v_iald hC 52 3 dX1_cut_51 rfl rfl (by decide) (by omega) ?_
    refine v_istore hC 54 [(6, .int (iI (rw (br rw rh w h rc.toNat)))), (5, .int (iI (br rw rh w h rc.toNat))), (0, .ref (ac 0)), (1, .ref al), (2, .int (iI p)), (3, .int (iI w)), (4, .int (iI h))] dX1_cut_52 rfl (by decide) rfl ?_
    refine v_aload_n hC 55 2 dX1_cut_54 rfl rfl rfl ?_
    refine v_get hC 58 1 4 (C := RX1) (T := TX1) (N := 6) dX1_cut_55 rfl iX1 L1 rfl rfl (by decide) rfl ?_
    refine v_iload hC 60 1 dX1_cut_58 rfl rfl ?_
    refine v_iald hC 61 4 dX1_cut_60 rfl rfl (by decide) (by omega) ?_
    refine v_istore hC 63 [(7, .int (iI (rh (br rw rh w h rc.toNat)))), (6, .int (iI (rw (br rw rh w h rc.toNat)))), (5, .int (iI (br rw rh w h rc.toNat))), (0, .ref (ac 0)), (1, .ref al), (2, .int (iI p)), (3, .int (iI w)), (4, .int (iI h))] dX1_cut_61 rfl (by decide) rfl ?_
    refine v_iload_n hC 64 5 dX1_cut_63 rfl rfl rfl ?_
    refine v_if_lt hC 86 67 dX1_cut_64 (by decide) rfl (by omega) (fun c_64 => ?_) (fun c_64 => ?_)
    · exfalso; omega
    · skip
      refine v_iload_n hC 68 5 dX1_cut_67 rfl rfl rfl ?_
      refine v_bipush hC 70 dX1_cut_68 rfl rfl ?_
      refine v_icmp_ge hC 86 73 dX1_cut_70 (by decide) rfl (by omega) (by omega) (fun c_70 => ?_) (fun c_70 => ?_)
      · exfalso; omega
      · skip
        refine v_aload_n hC 74 3 dX1_cut_73 rfl rfl rfl ?_
        refine v_get hC 77 1 1 (C := RX1) (T := TX1) (N := 6) dX1_cut_74 rfl iX1 L2 rfl rfl (by decide) rfl ?_
        refine v_iload_n hC 78 5 dX1_cut_77 rfl rfl rfl ?_
        refine v_aload_n hC 79 3 dX1_cut_78 rfl rfl rfl ?_
        refine v_get hC 82 1 5 (C := RX1) (T := TX1) (N := 6) dX1_cut_79 rfl iX1 L3 rfl rfl (by decide) rfl ?_
        refine v_iload hC 84 2 dX1_cut_82 rfl rfl ?_
        refine v_iald hC 85 5 dX1_cut_84 rfl rfl (by decide) (by omega) ?_
        refine v_iast hC 86 2 [oL al wide high border pattern, oC ac nt rc, aC (cs 0) (ac 1) 96 (uI src p (rmk (br rw rh w h rc.toNat))), aC (cs 0) (ac 2) 96 rw, aC (cs 0) (ac 3) 96 rh, aC (cs 0) (ac 4) 96 rmk] dX1_cut_85 rfl rfl (by decide) (by omega) rfl ?_
        refine v_aload_n hC 87 3 dX1_cut_86 rfl rfl rfl ?_
        refine v_iload hC 89 2 dX1_cut_87 rfl rfl ?_
        refine v_callVv hC 92 1 [1, 2, 3, 4, 5] [0] [oL al wide high border pattern] (As := [.int (iI (br rw rh w h rc.toNat))]) (rest := []) (c_X1_removeRest lx D cs ac nt rc (uI src p (rmk (br rw rh w h rc.toNat))) rw rh rmk (br rw rh w h rc.toNat) (by omega) (by omega)) dX1_cut_89 rfl rfl 1 rfl rfl gX1_cut_X1_removeRest rfl rfl rfl (by decide +kernel) ⟨by decide, by decide⟩ rfl rfl rfl rfl (by decide) rfl (Nat.le_of_ble_eq_true rfl) ⟨rfl, rfl⟩ ⟨by decide, by decide⟩ (fun u89 h89 => ?_)
        (try dsimp only at h89)
        show V p9 lx e9 ({ frames := 4, cells := 0, slots := 0, locals := 96 }) s9 m9 ar9 be9 me9 c9 Q9 D A9 s9.heap 8 0 0 [oL al wide high border pattern, oC ac nt (rc - 1), aC (cs 0) (ac 1) 96 (uI src p (rmk (br rw rh w h rc.toNat))), aC (cs 0) (ac 2) 96 (sh rw (br rw rh w h rc.toNat) rc), aC (cs 0) (ac 3) 96 (sh rh (br rw rh w h rc.toNat) rc), aC (cs 0) (ac 4) 96 (sh rmk (br rw rh w h rc.toNat) rc)] [(7, .int (iI (rh (br rw rh w h rc.toNat)))), (6, .int (iI (rw (br rw rh w h rc.toNat)))), (5, .int (iI (br rw rh w h rc.toNat))), (0, .ref (ac 0)), (1, .ref al), (2, .int (iI p)), (3, .int (iI w)), (4, .int (iI h))] 92 []
        refine v_aload_n hC 93 3 dX1_cut_92 rfl rfl rfl ?_
        refine v_iload_n hC 94 5 dX1_cut_93 rfl rfl rfl ?_
        refine v_iload hC 96 1 dX1_cut_94 rfl rfl ?_
        refine v_iload hC 98 0 dX1_cut_96 rfl rfl ?_
        refine v_iload_n hC 99 6 dX1_cut_98 rfl rfl rfl ?_
        refine v_iload hC 101 7 dX1_cut_99 rfl rfl ?_
        refine v_callVv hC 104 5 [1, 2, 3, 4, 5] [0] [oL al wide high border pattern] (As := [.int (iI p), .int (iI (rw (br rw rh w h rc.toNat))), .int (iI (rh (br rw rh w h rc.toNat))), .int (iI w), .int (iI h)]) (rest := []) (c_X1_leave lx D cs ac nt (rc - 1) (uI src p (rmk (br rw rh w h rc.toNat))) (sh rw (br rw rh w h rc.toNat) rc) (sh rh (br rw rh w h rc.toNat) rc) (sh rmk (br rw rh w h rc.toNat) rc) p (rw (br rw rh w h rc.toNat)) (rh (br rw rh w h rc.toNat)) w h (by omega) (by omega) (by omega) (by omega) (by omega)) dX1_cut_101 rfl rfl 1 rfl rfl gX1_cut_X1_leave rfl rfl rfl (by decide +kernel) ⟨by decide, by decide⟩ rfl rfl rfl rfl (by decide) rfl (Nat.le_of_ble_eq_true rfl) ⟨rfl, rfl⟩ ⟨by decide, by decide⟩ (fun u101 h101 => ?_)
        obtain ⟨rc1_101, rw1_101, rh1_101, rm1_101⟩ := u101
        (try dsimp only at h101)
        show V p9 lx e9 ({ frames := 4, cells := 0, slots := 0, locals := 96 }) s9 m9 ar9 be9 me9 c9 Q9 D A9 s9.heap 8 0 0 [oL al wide high border pattern, oC ac nt rc1_101, aC (cs 0) (ac 1) 96 (uI src p (rmk (br rw rh w h rc.toNat))), aC (cs 0) (ac 2) 96 rw1_101, aC (cs 0) (ac 3) 96 rh1_101, aC (cs 0) (ac 4) 96 rm1_101] [(7, .int (iI (rh (br rw rh w h rc.toNat)))), (6, .int (iI (rw (br rw rh w h rc.toNat)))), (5, .int (iI (br rw rh w h rc.toNat))), (0, .ref (ac 0)), (1, .ref al), (2, .int (iI p)), (3, .int (iI w)), (4, .int (iI h))] 104 []
        exact v_vret hC hQ (nt, rc1_101, rw1_101, rh1_101, rm1_101, uI src p (rmk (br rw rh w h rc.toNat))) [1, 2, 3, 4, 5, 0] dX1_cut_104 rfl rfl ⟨by decide, by decide⟩ ⟨by (try dsimp only); all_goals (unfold cutR; rw [hI8, if_pos (by omega)]; exact h101), by (try dsimp only); all_goals (rw [hI8, if_neg (by omega)]; omega), by (try dsimp only); all_goals (rw [hI8, if_pos (by omega)])⟩
  · skip
    refine v_aload_n hC 19 1 dX1_cut_18 rfl rfl rfl ?_
    refine v_dup hC 20 dX1_cut_19 rfl rfl ?_
    refine v_get hC 23 1 0 (C := RX1) (T := TX1) (N := 6) dX1_cut_20 rfl iX1 L4 rfl rfl (by decide) rfl ?_
    refine v_iconst hC 24 dX1_cut_23 rfl ?_
    refine v_iadd hC 25 (nt + 1) dX1_cut_24 rfl rfl ?_
    refine v_put hC 28 1 0 [oL al wide high border pattern, oC ac (nt + 1) rc, aC (cs 0) (ac 1) 96 src, aC (cs 0) (ac 2) 96 rw, aC (cs 0) (ac 3) 96 rh, aC (cs 0) (ac 4) 96 rmk] (C := RX1) (T := TX1) (N := 6) dX1_cut_25 rfl iX1 tyX1_ok nmX1 L4 rfl rfl (by decide) rfl rfl rfl (Nat.le_of_ble_eq_true rfl) rfl ?_
    refine v_aload_n hC 29 1 dX1_cut_28 rfl rfl rfl ?_
    refine v_iload_n hC 30 3 dX1_cut_29 rfl rfl rfl ?_
    refine v_aload_n hC 31 2 dX1_cut_30 rfl rfl rfl ?_
    refine v_get hC 34 0 0 (C := RX3) (T := TX3) (N := 4) dX1_cut_31 rfl iX3 L5 rfl rfl (by decide) rfl ?_
    refine v_aload_n hC 35 2 dX1_cut_34 rfl rfl rfl ?_
    refine v_get hC 38 0 1 (C := RX3) (T := TX3) (N := 4) dX1_cut_35 rfl iX3 L6 rfl rfl (by decide) rfl ?_
    refine v_iload_n hC 39 4 dX1_cut_38 rfl rfl rfl ?_
    refine v_iload hC 41 5 dX1_cut_39 rfl rfl ?_
    refine v_callVv hC 44 5 [1, 2, 3, 4, 5] [0] [oL al wide high border pattern] (As := [.int (iI p), .int (iI wide), .int (iI high), .int (iI w), .int (iI h)]) (rest := []) (c_X1_leave lx D cs ac (nt + 1) rc src rw rh rmk p wide high w h (by omega) (by omega) (by omega) (by omega) (by omega)) dX1_cut_41 rfl rfl 1 rfl rfl gX1_cut_X1_leave rfl rfl rfl (by decide +kernel) ⟨by decide, by decide⟩ rfl rfl rfl rfl (by decide) rfl (Nat.le_of_ble_eq_true rfl) ⟨rfl, rfl⟩ ⟨by decide, by decide⟩ (fun u41 h41 => ?_)
    obtain ⟨rc1_41, rw1_41, rh1_41, rm1_41⟩ := u41
    (try dsimp only at h41)
    show V p9 lx e9 ({ frames := 4, cells := 0, slots := 0, locals := 96 }) s9 m9 ar9 be9 me9 c9 Q9 D A9 s9.heap 8 0 0 [oL al wide high border pattern, oC ac (nt + 1) rc1_41, aC (cs 0) (ac 1) 96 src, aC (cs 0) (ac 2) 96 rw1_41, aC (cs 0) (ac 3) 96 rh1_41, aC (cs 0) (ac 4) 96 rm1_41] [(5, .int (iI (br rw rh w h rc.toNat))), (0, .ref (ac 0)), (1, .ref al), (2, .int (iI p)), (3, .int (iI w)), (4, .int (iI h))] 44 []
    exact v_vret hC hQ (nt + 1, rc1_41, rw1_41, rh1_41, rm1_41, src) [1, 2, 3, 4, 5, 0] dX1_cut_44 rfl rfl ⟨by decide, by decide⟩ ⟨by (try dsimp only); all_goals (unfold cutR; rw [hI8, if_neg (by omega)]; exact h41), by (try dsimp only); all_goals (rw [hI8, if_pos (by omega)]), by (try dsimp only); all_goals (rw [hI8, if_neg (by omega)])⟩

set_option maxHeartbeats 4000000 in
set_option maxRecDepth 100000 in
theorem c_X4_has (lx : Launch) (D : va_G) (cs : Nat → ClassId) (ap : Nat → Nat) (cnt : Int) (ofc : Int → Int) (knd : Int → Int) (col : Int → Int) (row : Int → Int) (siz : Int → Int) (bw : Int → Int) (bh : Int → Int) (x : Int) (hcnt : 0 ≤ cnt ∧ cnt ≤ 96) (hx : -2147483648 ≤ x ∧ x < 2147483648) : Ci lx D cs yX4_has wsX4_has ({ frames := 1, cells := 0, slots := 0, locals := 24 }) [.ref (ap 0), .int (iI x)] [oP ap cnt, aC (cs 0) (ap 1) 96 ofc, aC (cs 0) (ap 2) 96 knd, aC (cs 0) (ap 3) 96 col, aC (cs 0) (ap 4) 96 row, aC (cs 0) (ap 5) 96 siz, aC (cs 0) (ap 6) 96 bw, aC (cs 0) (ap 7) 96 bh] (fun (z : Int) (u : Unit) => (z = 0 ∨ z = 1) ∧ (z = 1 ↔ 0 ≤ x ∧ x < cnt)) (fun u : Unit => [oP ap cnt, aC (cs 0) (ap 1) 96 ofc, aC (cs 0) (ap 2) 96 knd, aC (cs 0) (ap 3) 96 col, aC (cs 0) (ap 4) 96 row, aC (cs 0) (ap 5) 96 siz, aC (cs 0) (ap 6) 96 bw, aC (cs 0) (ap 7) 96 bh]) 0 0 := by
  refine Ci_of (cc := cX4_has) (nL := 2) (ret := (some .boolean)) (lv0 := [(0, .ref (ap 0)), (1, .int (iI x))]) RX4 "has" (by decide +kernel) rfl (Nat.le_of_ble_eq_true rfl) rfl (fun p9 e9 s9 m9 ar9 be9 me9 c9 A9 Q9 hQ hC => ?_)
  have iX4 : ∀ w ∈ wsX40, w ∈ wsX4_has := by decide +kernel
  have L0 : Cond.fieldLink RX4 9 "Groutline$Pieces" "count" "I" ∈ wsX4_has := by decide +kernel
  refine v_iload_n hC 1 1 dX4_has_0 rfl rfl rfl ?_
  refine v_if_lt hC 22 4 dX4_has_1 (by decide) rfl (by omega) (fun c_1 => ?_) (fun c_1 => ?_)
  · skip
    refine v_iconst hC 23 dX4_has_22 rfl ?_
    exact v_zret hC hQ () [0, 1, 2, 3, 4, 5, 6, 7] dX4_has_23 (by omega) rfl rfl ⟨by decide, by decide⟩ ⟨by (try dsimp only); all_goals (omega), by (try dsimp only); all_goals (omega)⟩
  · skip
    refine v_iload_n hC 5 1 dX4_has_4 rfl rfl rfl ?_
    refine v_aload_n hC 6 0 dX4_has_5 rfl rfl rfl ?_
    refine v_get hC 9 0 0 (C := RX4) (T := TX4) (N := 9) dX4_has_6 rfl iX4 L0 rfl rfl (by decide) rfl ?_
    refine v_icmp_ge hC 22 12 dX4_has_9 (by decide) rfl (by omega) (by omega) (fun c_9 => ?_) (fun c_9 => ?_)
    · skip
      refine v_iconst hC 23 dX4_has_22 rfl ?_
      exact v_zret hC hQ () [0, 1, 2, 3, 4, 5, 6, 7] dX4_has_23 (by omega) rfl rfl ⟨by decide, by decide⟩ ⟨by (try dsimp only); all_goals (omega), by (try dsimp only); all_goals (omega)⟩
    · skip
      refine v_iload_n hC 13 1 dX4_has_12 rfl rfl rfl ?_
      refine v_bipush hC 15 dX4_has_13 rfl rfl ?_
      refine v_icmp_ge hC 22 18 dX4_has_15 (by decide) rfl (by omega) (by omega) (fun c_15 => ?_) (fun c_15 => ?_)
      · skip
        refine v_iconst hC 23 dX4_has_22 rfl ?_
        exact v_zret hC hQ () [0, 1, 2, 3, 4, 5, 6, 7] dX4_has_23 (by omega) rfl rfl ⟨by decide, by decide⟩ ⟨by (try dsimp only); all_goals (omega), by (try dsimp only); all_goals (omega)⟩
      · skip
        refine v_iconst hC 19 dX4_has_18 rfl ?_
        refine v_goto hC 23 dX4_has_19 (by decide) ?_
        exact v_zret hC hQ () [0, 1, 2, 3, 4, 5, 6, 7] dX4_has_23 (by omega) rfl rfl ⟨by decide, by decide⟩ ⟨by (try dsimp only); all_goals (omega), by (try dsimp only); all_goals (omega)⟩

set_option maxHeartbeats 4000000 in
set_option maxRecDepth 100000 in
theorem c_X1_cutAll (lx : Launch) (D : va_G) (cs : Nat → ClassId) (ac : Nat → Nat) (al : Nat) (ap : Nat → Nat) (nt : Int) (rc : Int) (src : Int → Int) (rw : Int → Int) (rh : Int → Int) (rmk : Int → Int) (wide : Int) (high : Int) (border : Int) (pattern : Int) (cnt : Int) (ofc : Int → Int) (knd : Int → Int) (col : Int → Int) (row : Int → Int) (siz : Int → Int) (bw : Int → Int) (bh : Int → Int) (hw : 1 ≤ wide ∧ wide ≤ 4) (hh : 1 ≤ high ∧ high ≤ 4) (hcnt : 0 ≤ cnt ∧ cnt ≤ 96) (hR : Rok (rc, rw, rh, rmk) 96) (hknd : Rn knd 0 2) (hdim : ∀ j : Int, 0 ≤ j → j < cnt → knd j = 1 → (0 ≤ bw j ∧ bw j ≤ wide) ∧ 0 ≤ bh j ∧ bh j ≤ high) : Cv lx D cs yX1_cutAll wsX1_cutAll ({ frames := 5, cells := 0, slots := 0, locals := 123 }) [.ref (ac 0), .ref al, .ref (ap 0)] [oC ac nt rc, aC (cs 0) (ac 1) 96 src, aC (cs 0) (ac 2) 96 rw, aC (cs 0) (ac 3) 96 rh, aC (cs 0) (ac 4) 96 rmk, oL al wide high border pattern, oP ap cnt, aC (cs 0) (ap 1) 96 ofc, aC (cs 0) (ap 2) 96 knd, aC (cs 0) (ap 3) 96 col, aC (cs 0) (ap 4) 96 row, aC (cs 0) (ap 5) 96 siz, aC (cs 0) (ap 6) 96 bw, aC (cs 0) (ap 7) 96 bh] (fun (u : Int × Int × (Int → Int) × (Int → Int) × (Int → Int) × (Int → Int)) => (((u.2.1, u.2.2.1, u.2.2.2.1, u.2.2.2.2.1) : Rs) = ctR wide high knd bw bh (rc, rw, rh, rmk) cnt.toNat) ∧ (u.1 = ctT wide high knd bw bh (rc, rw, rh, rmk) cnt.toNat) ∧ (∀ j : Int, 0 ≤ j → j < cnt → u.2.2.2.2.2 j = ctS wide high knd bw bh (rc, rw, rh, rmk) j.toNat)) (fun u : Int × Int × (Int → Int) × (Int → Int) × (Int → Int) × (Int → Int) => [oC ac u.1 u.2.1, aC (cs 0) (ac 1) 96 u.2.2.2.2.2, aC (cs 0) (ac 2) 96 u.2.2.1, aC (cs 0) (ac 3) 96 u.2.2.2.1, aC (cs 0) (ac 4) 96 u.2.2.2.2.1, oL al wide high border pattern, oP ap cnt, aC (cs 0) (ap 1) 96 ofc, aC (cs 0) (ap 2) 96 knd, aC (cs 0) (ap 3) 96 col, aC (cs 0) (ap 4) 96 row, aC (cs 0) (ap 5) 96 siz, aC (cs 0) (ap 6) 96 bw, aC (cs 0) (ap 7) 96 bh]) 0 0 := by
  refine Cv_of (cc := cX1_cutAll) (nL := 4) (ret := none) (lv0 := [(0, .ref (ac 0)), (1, .ref al), (2, .ref (ap 0))]) RX1 "cutAll" (by decide +kernel) rfl (Nat.le_of_ble_eq_true rfl) rfl (fun p9 e9 s9 m9 ar9 be9 me9 c9 A9 Q9 hQ hC => ?_)
  have iX1 : ∀ w ∈ wsX10, w ∈ wsX1_cutAll := by decide +kernel
  have iX4 : ∀ w ∈ wsX40, w ∈ wsX1_cutAll := by decide +kernel
  have L0 : Cond.fieldLink RX1 9 "Groutline$Cuts" "newTiles" "I" ∈ wsX1_cutAll := by decide +kernel
  have L1 : Cond.fieldLink RX1 19 "Groutline$Cuts" "restCount" "I" ∈ wsX1_cutAll := by decide +kernel
  have L2 : Cond.fieldLink RX1 15 "Groutline$Cuts" "sources" "[I" ∈ wsX1_cutAll := by decide +kernel
  have L3 : Cond.fieldLink RX1 46 "Groutline$Pieces" "kinds" "[I" ∈ wsX1_cutAll := by decide +kernel
  have L4 : Cond.fieldLink RX1 49 "Groutline$Pieces" "boxWides" "[I" ∈ wsX1_cutAll := by decide +kernel
  have L5 : Cond.fieldLink RX1 52 "Groutline$Pieces" "boxHighs" "[I" ∈ wsX1_cutAll := by decide +kernel
  refine v_aload_n hC 1 0 dX1_cutAll_0 rfl rfl rfl ?_
  refine v_iconst hC 2 dX1_cutAll_1 rfl ?_
  refine v_put hC 5 0 0 [oC ac 0 rc, aC (cs 0) (ac 1) 96 src, aC (cs 0) (ac 2) 96 rw, aC (cs 0) (ac 3) 96 rh, aC (cs 0) (ac 4) 96 rmk, oL al wide high border pattern, oP ap cnt, aC (cs 0) (ap 1) 96 ofc, aC (cs 0) (ap 2) 96 knd, aC (cs 0) (ap 3) 96 col, aC (cs 0) (ap 4) 96 row, aC (cs 0) (ap 5) 96 siz, aC (cs 0) (ap 6) 96 bw, aC (cs 0) (ap 7) 96 bh] (C := RX1) (T := TX1) (N := 6) dX1_cutAll_2 rfl iX1 tyX1_ok nmX1 L0 rfl rfl (by decide) rfl rfl rfl (Nat.le_of_ble_eq_true rfl) rfl ?_
  refine v_aload_n hC 6 0 dX1_cutAll_5 rfl rfl rfl ?_
  refine v_iconst hC 7 dX1_cutAll_6 rfl ?_
  refine v_put hC 10 0 2 [oC ac 0 0, aC (cs 0) (ac 1) 96 src, aC (cs 0) (ac 2) 96 rw, aC (cs 0) (ac 3) 96 rh, aC (cs 0) (ac 4) 96 rmk, oL al wide high border pattern, oP ap cnt, aC (cs 0) (ap 1) 96 ofc, aC (cs 0) (ap 2) 96 knd, aC (cs 0) (ap 3) 96 col, aC (cs 0) (ap 4) 96 row, aC (cs 0) (ap 5) 96 siz, aC (cs 0) (ap 6) 96 bw, aC (cs 0) (ap 7) 96 bh] (C := RX1) (T := TX1) (N := 6) dX1_cutAll_7 rfl iX1 tyX1_ok nmX1 L1 rfl rfl (by decide) rfl rfl rfl (Nat.le_of_ble_eq_true rfl) rfl ?_
  refine v_aload_n hC 11 0 dX1_cutAll_10 rfl rfl rfl ?_
  refine v_get hC 14 0 1 (C := RX1) (T := TX1) (N := 6) dX1_cutAll_11 rfl iX1 L2 rfl rfl (by decide) rfl ?_
  refine v_iconst hC 15 dX1_cutAll_14 rfl ?_
  refine v_callSv hC 18 2 [1] [0, 2, 3, 4, 5, 6, 7, 8, 9, 10, 11, 12, 13] [oC ac 0 0, aC (cs 0) (ac 2) 96 rw, aC (cs 0) (ac 3) 96 rh, aC (cs 0) (ac 4) 96 rmk, oL al wide high border pattern, oP ap cnt, aC (cs 0) (ap 1) 96 ofc, aC (cs 0) (ap 2) 96 knd, aC (cs 0) (ap 3) 96 col, aC (cs 0) (ap 4) 96 row, aC (cs 0) (ap 5) 96 siz, aC (cs 0) (ap 6) 96 bw, aC (cs 0) (ap 7) 96 bh] (As := [.ref (ac 1), .int (iI (-1))]) (rest := []) (c_J7_fill_53178 lx D cs (ac 1) src (-1) ) dX1_cutAll_15 rfl rfl gX1_cutAll_J7_fill_53178 rfl rfl rfl (by decide +kernel) ⟨by decide, by decide⟩ rfl rfl rfl rfl (by decide) rfl (Nat.le_of_ble_eq_true rfl) ⟨rfl, rfl⟩ ⟨by decide, by decide⟩ (fun u15 h15 => ?_)
  obtain ⟨g1_15, rfl⟩ : ∃ y9, y9 = u15 := ⟨_, rfl⟩
  (try dsimp only at h15)
  show V p9 lx e9 ({ frames := 5, cells := 0, slots := 0, locals := 123 }) s9 m9 ar9 be9 me9 c9 Q9 D A9 s9.heap 4 0 0 [oC ac 0 0, aC (cs 0) (ac 2) 96 rw, aC (cs 0) (ac 3) 96 rh, aC (cs 0) (ac 4) 96 rmk, oL al wide high border pattern, oP ap cnt, aC (cs 0) (ap 1) 96 ofc, aC (cs 0) (ap 2) 96 knd, aC (cs 0) (ap 3) 96 col, aC (cs 0) (ap 4) 96 row, aC (cs 0) (ap 5) 96 siz, aC (cs 0) (ap 6) 96 bw, aC (cs 0) (ap 7) 96 bh, aC (cs 0) (ac 1) 96 g1_15] [(0, .ref (ac 0)), (1, .ref al), (2, .ref (ap 0))] 18 []
  refine v_iconst hC 19 dX1_cutAll_18 rfl ?_
  refine v_istore_n hC 20 [(3, .int (iI 0)), (0, .ref (ac 0)), (1, .ref al), (2, .ref (ap 0))] dX1_cutAll_19 rfl rfl (by decide) rfl ?_
  have cut_20 : ∀ (n : Nat) (i : Int) (nt2 : Int) (rc2 : Int) (rw2 : Int → Int) (rh2 : Int → Int) (rm2 : Int → Int) (src2 : Int → Int), (0 ≤ i ∧ i ≤ cnt) → (((rc2, rw2, rh2, rm2) : Rs) = ctR wide high knd bw bh (rc, rw, rh, rmk) i.toNat) → (nt2 = ctT wide high knd bw bh (rc, rw, rh, rmk) i.toNat) → (∀ j : Int, 0 ≤ j → j < i → src2 j = ctS wide high knd bw bh (rc, rw, rh, rmk) j.toNat) → (∀ j : Int, i ≤ j → j < 96 → src2 j = -1) → (cnt - i < (n : Int)) → V p9 lx e9 ({ frames := 5, cells := 0, slots := 0, locals := 123 }) s9 m9 ar9 be9 me9 c9 Q9 D A9 s9.heap 4 0 0 [oC ac nt2 rc2, aC (cs 0) (ac 2) 96 rw2, aC (cs 0) (ac 3) 96 rh2, aC (cs 0) (ac 4) 96 rm2, oL al wide high border pattern, oP ap cnt, aC (cs 0) (ap 1) 96 ofc, aC (cs 0) (ap 2) 96 knd, aC (cs 0) (ap 3) 96 col, aC (cs 0) (ap 4) 96 row, aC (cs 0) (ap 5) 96 siz, aC (cs 0) (ap 6) 96 bw, aC (cs 0) (ap 7) 96 bh, aC (cs 0) (ac 1) 96 src2] [(0, .ref (ac 0)), (1, .ref al), (2, .ref (ap 0)), (3, .int (iI i))] 20 [] := by
    intro n
    induction n with
    | zero =>
      intro i nt2 rc2 rw2 rh2 rm2 src2 hi hst hnt hs1 hs2 hn
      exfalso; omega
    | succ n ih =>
      intro i nt2 rc2 rw2 rh2 rm2 src2 hi hst hnt hs1 hs2 hn
      have ih_20 := ih
      clear ih
      refine v_iload_n hC 21 3 dX1_cutAll_20 rfl rfl rfl ?_
      refine v_bipush hC 23 dX1_cutAll_21 rfl rfl ?_
      refine v_icmp_ge hC 93 26 dX1_cutAll_23 (by decide) rfl (by omega) (by omega) (fun c_23 => ?_) (fun c_23 => ?_)
      · skip
        have he9 : i = cnt := by omega
        exact v_vret hC hQ (nt2, rc2, rw2, rh2, rm2, src2) [0, 13, 1, 2, 3, 4, 5, 6, 7, 8, 9, 10, 11, 12] dX1_cutAll_93 rfl rfl ⟨by decide, by decide⟩ ⟨by (try dsimp only); all_goals (rw [← he9]; exact hst), by (try dsimp only); all_goals (rw [← he9]; exact hnt), by (try dsimp only); all_goals (rw [← he9]; exact hs1)⟩
      · skip
        refine v_aload_n hC 27 2 dX1_cutAll_26 rfl rfl rfl ?_
        refine v_iload_n hC 28 3 dX1_cutAll_27 rfl rfl rfl ?_
        refine v_callVi hC 31 1 [5, 6, 7, 8, 9, 10, 11, 12] [0, 1, 2, 3, 4, 13] [oC ac nt2 rc2, aC (cs 0) (ac 2) 96 rw2, aC (cs 0) (ac 3) 96 rh2, aC (cs 0) (ac 4) 96 rm2, oL al wide high border pattern, aC (cs 0) (ac 1) 96 src2] (As := [.int (iI i)]) (rest := []) (c_X4_has lx D cs ap cnt ofc knd col row siz bw bh i (by omega) (by omega)) dX1_cutAll_28 rfl rfl 5 rfl rfl gX1_cutAll_X4_has rfl rfl rfl (by decide +kernel) ⟨by decide, by decide⟩ rfl rfl rfl rfl (by decide) rfl (Nat.le_of_ble_eq_true rfl) ⟨rfl, rfl⟩ ⟨by decide, by decide⟩ (fun z28 u28 h28 => ?_)
        (try dsimp only at h28)
        obtain ⟨h28_1, h28_2⟩ := h28
        show V p9 lx e9 ({ frames := 5, cells := 0, slots := 0, locals := 123 }) s9 m9 ar9 be9 me9 c9 Q9 D A9 s9.heap 4 0 0 [oC ac nt2 rc2, aC (cs 0) (ac 2) 96 rw2, aC (cs 0) (ac 3) 96 rh2, aC (cs 0) (ac 4) 96 rm2, oL al wide high border pattern, aC (cs 0) (ac 1) 96 src2, oP ap cnt, aC (cs 0) (ap 1) 96 ofc, aC (cs 0) (ap 2) 96 knd, aC (cs 0) (ap 3) 96 col, aC (cs 0) (ap 4) 96 row, aC (cs 0) (ap 5) 96 siz, aC (cs 0) (ap 6) 96 bw, aC (cs 0) (ap 7) 96 bh] [(0, .ref (ac 0)), (1, .ref al), (2, .ref (ap 0)), (3, .int (iI i))] 31 [.int (iI z28)]
        refine v_if_ne hC 37 34 dX1_cutAll_31 (by decide) rfl (by omega) (fun c_31 => ?_) (fun c_31 => ?_)
        · skip
          refine v_aload_n hC 38 2 dX1_cutAll_37 rfl rfl rfl ?_
          refine v_get hC 41 6 2 (C := RX4) (T := TX4) (N := 9) dX1_cutAll_38 rfl iX4 L3 rfl rfl (by decide) rfl ?_
          refine v_iload_n hC 42 3 dX1_cutAll_41 rfl rfl rfl ?_
          refine v_iald hC 43 8 dX1_cutAll_42 rfl rfl (by decide) (by omega) ?_
          have r_42 := hknd i
          refine v_if_ne hC 59 46 dX1_cutAll_43 (by decide) rfl (by omega) (fun c_43 => ?_) (fun c_43 => ?_)
          · skip
            refine v_aload_n hC 60 2 dX1_cutAll_59 rfl rfl rfl ?_
            refine v_get hC 63 6 2 (C := RX4) (T := TX4) (N := 9) dX1_cutAll_60 rfl iX4 L3 rfl rfl (by decide) rfl ?_
            refine v_iload_n hC 64 3 dX1_cutAll_63 rfl rfl rfl ?_
            refine v_iald hC 65 8 dX1_cutAll_64 rfl rfl (by decide) (by omega) ?_
            have r_64 := hknd i
            refine v_iconst hC 66 dX1_cutAll_65 rfl ?_
            refine v_icmp_ne hC 87 69 dX1_cutAll_66 (by decide) rfl (by omega) (by omega) (fun c_66 => ?_) (fun c_66 => ?_)
            · skip
              refine v_iinc hC 90 3 [(3, .int (iI (i + 1))), (0, .ref (ac 0)), (1, .ref al), (2, .ref (ap 0))] dX1_cutAll_87 rfl rfl (by decide) rfl ?_
              refine v_goto hC 20 dX1_cutAll_90 (by decide) ?_
              exact v_sub [0, 1, 2, 3, 4, 6, 7, 8, 9, 10, 11, 12, 13, 5] [1, 2, 3, 0] _ _ rfl rfl rfl (ih_20 (i + 1) nt2 rc2 rw2 rh2 rm2 src2 (by omega) (by obtain ⟨e1, e2, e3⟩ := ct_I (W := wide) (H := high) (knd := knd) (bw := bw) (bh := bh) (s0 := (rc, rw, rh, rmk)) hi.1; rw [e1, ← hst]; first | (rw [if_neg (by omega)]; done) | (rw [if_pos (by omega)]; exact h84_1)) (by obtain ⟨e1, e2, e3⟩ := ct_I (W := wide) (H := high) (knd := knd) (bw := bw) (bh := bh) (s0 := (rc, rw, rh, rmk)) hi.1; rw [e2, ← hst, ← hnt]; first | (rw [if_pos (by omega)]; done) | (rw [h84_2, if_neg (show ¬ knd i = 0 by omega)]; by_cases hq : cutI (rc2, rw2, rh2, rm2) (bw i) (bh i) < 0 <;> first | (rw [if_pos hq, if_pos ⟨by omega, hq⟩]; done) | (rw [if_neg hq, if_neg (fun q => hq q.2)]; done)) | (rw [if_neg (by omega), if_neg (fun q => by omega)]; omega)) (by obtain ⟨e1, e2, e3⟩ := ct_I (W := wide) (H := high) (knd := knd) (bw := bw) (bh := bh) (s0 := (rc, rw, rh, rmk)) hi.1; rw [← hst] at e3; dsimp only at e3; intro j h1 h2; by_cases hj : j = i <;> first | exact hs1 j h1 (by omega) | (rw [h84_3]; split <;> first | exact hs1 j h1 (by omega) | (rw [uI_ne _ _ hj]; exact hs1 j h1 (by omega))) | (subst hj; rw [e3, if_neg (fun q => by omega)]; exact hs2 j (by omega) (by omega)) | (subst hj; rw [e3, h84_3]; by_cases hq : 0 ≤ cutI (rc2, rw2, rh2, rm2) (bw j) (bh j) <;> first | (rw [if_pos hq, if_pos ⟨by omega, hq⟩, uI_eq]; done) | (rw [if_neg hq, if_neg (fun q => hq q.2)]; exact hs2 j (by omega) (by omega)))) (by intro j h1 h2; first | exact hs2 j (by omega) h2 | (rw [h84_3]; split <;> first | exact hs2 j (by omega) h2 | (rw [uI_ne _ _ (by omega)]; exact hs2 j (by omega) h2))) (by omega))
            · skip
              have hk9 := Rok_ct (knd := knd) (bw := bw) (bh := bh) hR hw.2 hh.2 i.toNat (by omega) (fun j h1 h2 h3 => hdim j h1 (by omega) h3)
              rw [← hst, Int.toNat_of_nonneg hi.1] at hk9
              have hd9 := hdim i hi.1 (by omega) (by omega)
              refine v_aload_n hC 70 0 dX1_cutAll_69 rfl rfl rfl ?_
              refine v_aload_n hC 71 1 dX1_cutAll_70 rfl rfl rfl ?_
              refine v_iload_n hC 72 3 dX1_cutAll_71 rfl rfl rfl ?_
              refine v_aload_n hC 73 2 dX1_cutAll_72 rfl rfl rfl ?_
              refine v_get hC 76 6 6 (C := RX4) (T := TX4) (N := 9) dX1_cutAll_73 rfl iX4 L4 rfl rfl (by decide) rfl ?_
              refine v_iload_n hC 77 3 dX1_cutAll_76 rfl rfl rfl ?_
              refine v_iald hC 78 12 dX1_cutAll_77 rfl rfl (by decide) (by omega) ?_
              refine v_aload_n hC 79 2 dX1_cutAll_78 rfl rfl rfl ?_
              refine v_get hC 82 6 7 (C := RX4) (T := TX4) (N := 9) dX1_cutAll_79 rfl iX4 L5 rfl rfl (by decide) rfl ?_
              refine v_iload_n hC 83 3 dX1_cutAll_82 rfl rfl rfl ?_
              refine v_iald hC 84 13 dX1_cutAll_83 rfl rfl (by decide) (by omega) ?_
              refine v_callVv hC 87 4 [0, 5, 1, 2, 3, 4] [6, 7, 8, 9, 10, 11, 12, 13] [oP ap cnt, aC (cs 0) (ap 1) 96 ofc, aC (cs 0) (ap 2) 96 knd, aC (cs 0) (ap 3) 96 col, aC (cs 0) (ap 4) 96 row, aC (cs 0) (ap 5) 96 siz, aC (cs 0) (ap 6) 96 bw, aC (cs 0) (ap 7) 96 bh] (As := [.ref al, .int (iI i), .int (iI (bw i)), .int (iI (bh i))]) (rest := []) (c_X1_cut lx D cs ac al nt2 rc2 src2 rw2 rh2 rm2 wide high border pattern i (bw i) (bh i) (by omega) (by omega) (by omega) (by exact hk9) (by exact hd9.1) (by exact hd9.2)) dX1_cutAll_84 rfl rfl 0 rfl rfl gX1_cutAll_X1_cut rfl rfl rfl (by decide +kernel) ⟨by decide, by decide⟩ rfl rfl rfl rfl (by decide) rfl (Nat.le_of_ble_eq_true rfl) ⟨rfl, rfl⟩ ⟨by decide, by decide⟩ (fun u84 h84 => ?_)
              obtain ⟨nt1_84, rc1_84, rw1_84, rh1_84, rm1_84, src1_84⟩ := u84
              (try dsimp only at h84)
              obtain ⟨h84_1, h84_2, h84_3⟩ := h84
              show V p9 lx e9 ({ frames := 5, cells := 0, slots := 0, locals := 123 }) s9 m9 ar9 be9 me9 c9 Q9 D A9 s9.heap 4 0 0 [oP ap cnt, aC (cs 0) (ap 1) 96 ofc, aC (cs 0) (ap 2) 96 knd, aC (cs 0) (ap 3) 96 col, aC (cs 0) (ap 4) 96 row, aC (cs 0) (ap 5) 96 siz, aC (cs 0) (ap 6) 96 bw, aC (cs 0) (ap 7) 96 bh, oC ac nt1_84 rc1_84, aC (cs 0) (ac 1) 96 src1_84, aC (cs 0) (ac 2) 96 rw1_84, aC (cs 0) (ac 3) 96 rh1_84, aC (cs 0) (ac 4) 96 rm1_84, oL al wide high border pattern] [(0, .ref (ac 0)), (1, .ref al), (2, .ref (ap 0)), (3, .int (iI i))] 87 []
              refine v_iinc hC 90 3 [(3, .int (iI (i + 1))), (0, .ref (ac 0)), (1, .ref al), (2, .ref (ap 0))] dX1_cutAll_87 rfl rfl (by decide) rfl ?_
              refine v_goto hC 20 dX1_cutAll_90 (by decide) ?_
              exact v_sub [8, 10, 11, 12, 13, 0, 1, 2, 3, 4, 5, 6, 7, 9] [1, 2, 3, 0] _ _ rfl rfl rfl (ih_20 (i + 1) nt1_84 rc1_84 rw1_84 rh1_84 rm1_84 src1_84 (by omega) (by obtain ⟨e1, e2, e3⟩ := ct_I (W := wide) (H := high) (knd := knd) (bw := bw) (bh := bh) (s0 := (rc, rw, rh, rmk)) hi.1; rw [e1, ← hst]; first | (rw [if_neg (by omega)]; done) | (rw [if_pos (by omega)]; exact h84_1)) (by obtain ⟨e1, e2, e3⟩ := ct_I (W := wide) (H := high) (knd := knd) (bw := bw) (bh := bh) (s0 := (rc, rw, rh, rmk)) hi.1; rw [e2, ← hst, ← hnt]; first | (rw [if_pos (by omega)]; done) | (rw [h84_2, if_neg (show ¬ knd i = 0 by omega)]; by_cases hq : cutI (rc2, rw2, rh2, rm2) (bw i) (bh i) < 0 <;> first | (rw [if_pos hq, if_pos ⟨by omega, hq⟩]; done) | (rw [if_neg hq, if_neg (fun q => hq q.2)]; done)) | (rw [if_neg (by omega), if_neg (fun q => by omega)]; omega)) (by obtain ⟨e1, e2, e3⟩ := ct_I (W := wide) (H := high) (knd := knd) (bw := bw) (bh := bh) (s0 := (rc, rw, rh, rmk)) hi.1; rw [← hst] at e3; dsimp only at e3; intro j h1 h2; by_cases hj : j = i <;> first | exact hs1 j h1 (by omega) | (rw [h84_3]; split <;> first | exact hs1 j h1 (by omega) | (rw [uI_ne _ _ hj]; exact hs1 j h1 (by omega))) | (subst hj; rw [e3, if_neg (fun q => by omega)]; exact hs2 j (by omega) (by omega)) | (subst hj; rw [e3, h84_3]; by_cases hq : 0 ≤ cutI (rc2, rw2, rh2, rm2) (bw j) (bh j) <;> first | (rw [if_pos hq, if_pos ⟨by omega, hq⟩, uI_eq]; done) | (rw [if_neg hq, if_neg (fun q => hq q.2)]; exact hs2 j (by omega) (by omega)))) (by intro j h1 h2; first | exact hs2 j (by omega) h2 | (rw [h84_3]; split <;> first | exact hs2 j (by omega) h2 | (rw [uI_ne _ _ (by omega)]; exact hs2 j (by omega) h2))) (by omega))
          · skip
            refine v_aload_n hC 47 0 dX1_cutAll_46 rfl rfl rfl ?_
            refine v_dup hC 48 dX1_cutAll_47 rfl rfl ?_
            refine v_get hC 51 0 0 (C := RX1) (T := TX1) (N := 6) dX1_cutAll_48 rfl iX1 L0 rfl rfl (by decide) rfl ?_
            refine v_iconst hC 52 dX1_cutAll_51 rfl ?_
            refine v_iadd hC 53 (nt2 + 1) dX1_cutAll_52 rfl rfl ?_
            refine v_put hC 56 0 0 [oC ac (nt2 + 1) rc2, aC (cs 0) (ac 2) 96 rw2, aC (cs 0) (ac 3) 96 rh2, aC (cs 0) (ac 4) 96 rm2, oL al wide high border pattern, aC (cs 0) (ac 1) 96 src2, oP ap cnt, aC (cs 0) (ap 1) 96 ofc, aC (cs 0) (ap 2) 96 knd, aC (cs 0) (ap 3) 96 col, aC (cs 0) (ap 4) 96 row, aC (cs 0) (ap 5) 96 siz, aC (cs 0) (ap 6) 96 bw, aC (cs 0) (ap 7) 96 bh] (C := RX1) (T := TX1) (N := 6) dX1_cutAll_53 rfl iX1 tyX1_ok nmX1 L0 rfl rfl (by decide) rfl rfl rfl (Nat.le_of_ble_eq_true rfl) rfl ?_
            refine v_goto hC 87 dX1_cutAll_56 (by decide) ?_
            refine v_iinc hC 90 3 [(3, .int (iI (i + 1))), (0, .ref (ac 0)), (1, .ref al), (2, .ref (ap 0))] dX1_cutAll_87 rfl rfl (by decide) rfl ?_
            refine v_goto hC 20 dX1_cutAll_90 (by decide) ?_
            exact v_sub [0, 1, 2, 3, 4, 6, 7, 8, 9, 10, 11, 12, 13, 5] [1, 2, 3, 0] _ _ rfl rfl rfl (ih_20 (i + 1) (nt2 + 1) rc2 rw2 rh2 rm2 src2 (by omega) (by obtain ⟨e1, e2, e3⟩ := ct_I (W := wide) (H := high) (knd := knd) (bw := bw) (bh := bh) (s0 := (rc, rw, rh, rmk)) hi.1; rw [e1, ← hst]; first | (rw [if_neg (by omega)]; done) | (rw [if_pos (by omega)]; exact h84_1)) (by obtain ⟨e1, e2, e3⟩ := ct_I (W := wide) (H := high) (knd := knd) (bw := bw) (bh := bh) (s0 := (rc, rw, rh, rmk)) hi.1; rw [e2, ← hst, ← hnt]; first | (rw [if_pos (by omega)]; done) | (rw [h84_2, if_neg (show ¬ knd i = 0 by omega)]; by_cases hq : cutI (rc2, rw2, rh2, rm2) (bw i) (bh i) < 0 <;> first | (rw [if_pos hq, if_pos ⟨by omega, hq⟩]; done) | (rw [if_neg hq, if_neg (fun q => hq q.2)]; done)) | (rw [if_neg (by omega), if_neg (fun q => by omega)]; omega)) (by obtain ⟨e1, e2, e3⟩ := ct_I (W := wide) (H := high) (knd := knd) (bw := bw) (bh := bh) (s0 := (rc, rw, rh, rmk)) hi.1; rw [← hst] at e3; dsimp only at e3; intro j h1 h2; by_cases hj : j = i <;> first | exact hs1 j h1 (by omega) | (rw [h84_3]; split <;> first | exact hs1 j h1 (by omega) | (rw [uI_ne _ _ hj]; exact hs1 j h1 (by omega))) | (subst hj; rw [e3, if_neg (fun q => by omega)]; exact hs2 j (by omega) (by omega)) | (subst hj; rw [e3, h84_3]; by_cases hq : 0 ≤ cutI (rc2, rw2, rh2, rm2) (bw j) (bh j) <;> first | (rw [if_pos hq, if_pos ⟨by omega, hq⟩, uI_eq]; done) | (rw [if_neg hq, if_neg (fun q => hq q.2)]; exact hs2 j (by omega) (by omega)))) (by intro j h1 h2; first | exact hs2 j (by omega) h2 | (rw [h84_3]; split <;> first | exact hs2 j (by omega) h2 | (rw [uI_ne _ _ (by omega)]; exact hs2 j (by omega) h2))) (by omega))
        · skip
          refine v_goto hC 93 dX1_cutAll_34 (by decide) ?_
          have he9 : i = cnt := by omega
          exact v_vret hC hQ (nt2, rc2, rw2, rh2, rm2, src2) [0, 5, 1, 2, 3, 4, 6, 7, 8, 9, 10, 11, 12, 13] dX1_cutAll_93 rfl rfl ⟨by decide, by decide⟩ ⟨by (try dsimp only); all_goals (rw [← he9]; exact hst), by (try dsimp only); all_goals (rw [← he9]; exact hnt), by (try dsimp only); all_goals (rw [← he9]; exact hs1)⟩
  exact v_sub [0, 1, 2, 3, 4, 5, 6, 7, 8, 9, 10, 11, 12, 13] [1, 2, 3, 0] _ _ rfl rfl rfl (cut_20 (Int.toNat (cnt - 0) + 1) 0 0 0 rw rh rmk g1_15 (by omega) (by rfl) (by rfl) (by intro j h1 h2; exfalso; omega) (by intro j h1 h2; rw [h15]; unfold fil; rw [if_pos ⟨by omega, h2⟩]) (by omega))

set_option maxHeartbeats 4000000 in
set_option maxRecDepth 100000 in
theorem c_X8_thrown (lx : Launch) (D : va_G) (cs : Nat → ClassId) (am : Nat → Nat) (mwide : Int) (mhigh : Int) (mborder : Int) (mpattern : Int) (mdoor : Int) (mpieces : Int) (mtiles : Int) (mrests : Int) (mcrates : Int) (mmoves : Int) (manyLaid : Int) (mgrout : Int) (mhour : Int) (mthrown : Int) (mpillar : Int → Int) (mshut : Int → Int) (mpk : Int → Int) (mpf : Int → Int) (mpn : Int → Int) (mpr : Int → Int) (mleft : Int → Int) (mright : Int → Int) (mtop : Int → Int) (mbottom : Int → Int) (mat : Int → Int) (mrw : Int → Int) (mrh : Int → Int) (mrp : Int → Int) (mcf : Int → Int) (mcn : Int → Int) (mdry : Int → Int)  : Ci lx D cs yX8_thrown wsX8_thrown ({ frames := 1, cells := 0, slots := 0, locals := 24 }) [.ref (am 0)] [oM am mwide mhigh mborder mpattern mdoor mpieces mtiles mrests mcrates mmoves manyLaid mgrout mhour mthrown, aC (cs 0) (am 1) 96 mpillar, aC (cs 0) (am 2) 12 mshut, aC (cs 0) (am 3) 96 mpk, aC (cs 0) (am 4) 96 mpf, aC (cs 0) (am 5) 96 mpn, aC (cs 0) (am 6) 96 mpr, aC (cs 0) (am 7) 96 mleft, aC (cs 0) (am 8) 96 mright, aC (cs 0) (am 9) 96 mtop, aC (cs 0) (am 10) 96 mbottom, aC (cs 0) (am 11) 96 mat, aC (cs 0) (am 12) 100 mrw, aC (cs 0) (am 13) 100 mrh, aC (cs 0) (am 14) 100 mrp, aC (cs 0) (am 15) 20 mcf, aC (cs 0) (am 16) 20 mcn, aC (cs 0) (am 17) 8 mdry] (fun (z : Int) (u : Unit) => (z = mthrown)) (fun u : Unit => [oM am mwide mhigh mborder mpattern mdoor mpieces mtiles mrests mcrates mmoves manyLaid mgrout mhour mthrown, aC (cs 0) (am 1) 96 mpillar, aC (cs 0) (am 2) 12 mshut, aC (cs 0) (am 3) 96 mpk, aC (cs 0) (am 4) 96 mpf, aC (cs 0) (am 5) 96 mpn, aC (cs 0) (am 6) 96 mpr, aC (cs 0) (am 7) 96 mleft, aC (cs 0) (am 8) 96 mright, aC (cs 0) (am 9) 96 mtop, aC (cs 0) (am 10) 96 mbottom, aC (cs 0) (am 11) 96 mat, aC (cs 0) (am 12) 100 mrw, aC (cs 0) (am 13) 100 mrh, aC (cs 0) (am 14) 100 mrp, aC (cs 0) (am 15) 20 mcf, aC (cs 0) (am 16) 20 mcn, aC (cs 0) (am 17) 8 mdry]) 0 0 := by
  refine Ci_of (cc := cX8_thrown) (nL := 1) (ret := (some .int)) (lv0 := [(0, .ref (am 0))]) RX8 "thrown" (by decide +kernel) rfl (Nat.le_of_ble_eq_true rfl) rfl (fun p9 e9 s9 m9 ar9 be9 me9 c9 A9 Q9 hQ hC => ?_)
  have iX8 : ∀ w ∈ wsX80, w ∈ wsX8_thrown := by decide +kernel
  have L0 : Cond.fieldLink RX8 77 "GroutlineModel" "thrown" "I" ∈ wsX8_thrown := by decide +kernel
  refine v_aload_n hC 1 0 dX8_thrown_0 rfl rfl rfl ?_
  refine v_get hC 4 0 30 (C := RX8) (T := TX8) (N := 31) dX8_thrown_1 rfl iX8 L0 rfl rfl (by decide) rfl ?_
  exact v_iret hC hQ () [0, 1, 2, 3, 4, 5, 6, 7, 8, 9, 10, 11, 12, 13, 14, 15, 16, 17] dX8_thrown_4 rfl rfl ⟨by decide, by decide⟩ (by (try dsimp only); all_goals (first | rfl | omega))

set_option maxHeartbeats 4000000 in
set_option maxRecDepth 100000 in
theorem c_X8_holds (lx : Launch) (D : va_G) (cs : Nat → ClassId) (am : Nat → Nat) (mwide : Int) (mhigh : Int) (mborder : Int) (mpattern : Int) (mdoor : Int) (mpieces : Int) (mtiles : Int) (mrests : Int) (mcrates : Int) (mmoves : Int) (manyLaid : Int) (mgrout : Int) (mhour : Int) (mthrown : Int) (mpillar : Int → Int) (mshut : Int → Int) (mpk : Int → Int) (mpf : Int → Int) (mpn : Int → Int) (mpr : Int → Int) (mleft : Int → Int) (mright : Int → Int) (mtop : Int → Int) (mbottom : Int → Int) (mat : Int → Int) (mrw : Int → Int) (mrh : Int → Int) (mrp : Int → Int) (mcf : Int → Int) (mcn : Int → Int) (mdry : Int → Int) (x : Int) (hx : -2147483648 ≤ x ∧ x < 2147483648) : Ci lx D cs yX8_holds wsX8_holds ({ frames := 1, cells := 0, slots := 0, locals := 24 }) [.ref (am 0), .int (iI x)] [oM am mwide mhigh mborder mpattern mdoor mpieces mtiles mrests mcrates mmoves manyLaid mgrout mhour mthrown, aC (cs 0) (am 1) 96 mpillar, aC (cs 0) (am 2) 12 mshut, aC (cs 0) (am 3) 96 mpk, aC (cs 0) (am 4) 96 mpf, aC (cs 0) (am 5) 96 mpn, aC (cs 0) (am 6) 96 mpr, aC (cs 0) (am 7) 96 mleft, aC (cs 0) (am 8) 96 mright, aC (cs 0) (am 9) 96 mtop, aC (cs 0) (am 10) 96 mbottom, aC (cs 0) (am 11) 96 mat, aC (cs 0) (am 12) 100 mrw, aC (cs 0) (am 13) 100 mrh, aC (cs 0) (am 14) 100 mrp, aC (cs 0) (am 15) 20 mcf, aC (cs 0) (am 16) 20 mcn, aC (cs 0) (am 17) 8 mdry] (fun (z : Int) (u : Unit) => (z = 0 ∨ z = 1) ∧ (z = 1 ↔ 0 < x)) (fun u : Unit => [oM am mwide mhigh mborder mpattern mdoor mpieces mtiles mrests mcrates mmoves manyLaid mgrout mhour x, aC (cs 0) (am 1) 96 mpillar, aC (cs 0) (am 2) 12 mshut, aC (cs 0) (am 3) 96 mpk, aC (cs 0) (am 4) 96 mpf, aC (cs 0) (am 5) 96 mpn, aC (cs 0) (am 6) 96 mpr, aC (cs 0) (am 7) 96 mleft, aC (cs 0) (am 8) 96 mright, aC (cs 0) (am 9) 96 mtop, aC (cs 0) (am 10) 96 mbottom, aC (cs 0) (am 11) 96 mat, aC (cs 0) (am 12) 100 mrw, aC (cs 0) (am 13) 100 mrh, aC (cs 0) (am 14) 100 mrp, aC (cs 0) (am 15) 20 mcf, aC (cs 0) (am 16) 20 mcn, aC (cs 0) (am 17) 8 mdry]) 0 0 := by
  refine Ci_of (cc := cX8_holds) (nL := 2) (ret := (some .boolean)) (lv0 := [(0, .ref (am 0)), (1, .int (iI x))]) RX8 "holds" (by decide +kernel) rfl (Nat.le_of_ble_eq_true rfl) rfl (fun p9 e9 s9 m9 ar9 be9 me9 c9 A9 Q9 hQ hC => ?_)
  have iX8 : ∀ w ∈ wsX80, w ∈ wsX8_holds := by decide +kernel
  have L0 : Cond.fieldLink RX8 77 "GroutlineModel" "thrown" "I" ∈ wsX8_holds := by decide +kernel
  refine v_aload_n hC 1 0 dX8_holds_0 rfl rfl rfl ?_
  refine v_iload_n hC 2 1 dX8_holds_1 rfl rfl rfl ?_
  refine v_put hC 5 0 30 [oM am mwide mhigh mborder mpattern mdoor mpieces mtiles mrests mcrates mmoves manyLaid mgrout mhour x, aC (cs 0) (am 1) 96 mpillar, aC (cs 0) (am 2) 12 mshut, aC (cs 0) (am 3) 96 mpk, aC (cs 0) (am 4) 96 mpf, aC (cs 0) (am 5) 96 mpn, aC (cs 0) (am 6) 96 mpr, aC (cs 0) (am 7) 96 mleft, aC (cs 0) (am 8) 96 mright, aC (cs 0) (am 9) 96 mtop, aC (cs 0) (am 10) 96 mbottom, aC (cs 0) (am 11) 96 mat, aC (cs 0) (am 12) 100 mrw, aC (cs 0) (am 13) 100 mrh, aC (cs 0) (am 14) 100 mrp, aC (cs 0) (am 15) 20 mcf, aC (cs 0) (am 16) 20 mcn, aC (cs 0) (am 17) 8 mdry] (C := RX8) (T := TX8) (N := 31) dX8_holds_2 rfl iX8 tyX8_ok nmX8 L0 rfl rfl (by decide) rfl rfl rfl (Nat.le_of_ble_eq_true rfl) rfl ?_
  refine v_iload_n hC 6 1 dX8_holds_5 rfl rfl rfl ?_
  refine v_if_le hC 13 9 dX8_holds_6 (by decide) rfl (by omega) (fun c_6 => ?_) (fun c_6 => ?_)
  · skip
    refine v_iconst hC 14 dX8_holds_13 rfl ?_
    exact v_zret hC hQ () [0, 1, 2, 3, 4, 5, 6, 7, 8, 9, 10, 11, 12, 13, 14, 15, 16, 17] dX8_holds_14 (by omega) rfl rfl ⟨by decide, by decide⟩ ⟨by (try dsimp only); all_goals (omega), by (try dsimp only); all_goals (omega)⟩
  · skip
    refine v_iconst hC 10 dX8_holds_9 rfl ?_
    refine v_goto hC 14 dX8_holds_10 (by decide) ?_
    exact v_zret hC hQ () [0, 1, 2, 3, 4, 5, 6, 7, 8, 9, 10, 11, 12, 13, 14, 15, 16, 17] dX8_holds_14 (by omega) rfl rfl ⟨by decide, by decide⟩ ⟨by (try dsimp only); all_goals (omega), by (try dsimp only); all_goals (omega)⟩

set_option maxHeartbeats 4000000 in
set_option maxRecDepth 100000 in
theorem c_X8_in (lx : Launch) (D : va_G) (cs : Nat → ClassId) (am : Nat → Nat) (mwide : Int) (mhigh : Int) (mborder : Int) (mpattern : Int) (mdoor : Int) (mpieces : Int) (mtiles : Int) (mrests : Int) (mcrates : Int) (mmoves : Int) (manyLaid : Int) (mgrout : Int) (mhour : Int) (mthrown : Int) (mpillar : Int → Int) (mshut : Int → Int) (mpk : Int → Int) (mpf : Int → Int) (mpn : Int → Int) (mpr : Int → Int) (mleft : Int → Int) (mright : Int → Int) (mtop : Int → Int) (mbottom : Int → Int) (mat : Int → Int) (mrw : Int → Int) (mrh : Int → Int) (mrp : Int → Int) (mcf : Int → Int) (mcn : Int → Int) (mdry : Int → Int) (a : Int) (b : Int) (k : Int) (ha : -2147483648 ≤ a ∧ a < 2147483648) (hb9 : -2147483648 ≤ b ∧ b < 2147483648) (hk : -2147483648 ≤ k ∧ k < 2147483648) : Ci lx D cs yX8_in wsX8_in ({ frames := 1, cells := 0, slots := 0, locals := 24 }) [.ref (am 0), .int (iI a), .int (iI b), .int (iI k)] [oM am mwide mhigh mborder mpattern mdoor mpieces mtiles mrests mcrates mmoves manyLaid mgrout mhour mthrown, aC (cs 0) (am 1) 96 mpillar, aC (cs 0) (am 2) 12 mshut, aC (cs 0) (am 3) 96 mpk, aC (cs 0) (am 4) 96 mpf, aC (cs 0) (am 5) 96 mpn, aC (cs 0) (am 6) 96 mpr, aC (cs 0) (am 7) 96 mleft, aC (cs 0) (am 8) 96 mright, aC (cs 0) (am 9) 96 mtop, aC (cs 0) (am 10) 96 mbottom, aC (cs 0) (am 11) 96 mat, aC (cs 0) (am 12) 100 mrw, aC (cs 0) (am 13) 100 mrh, aC (cs 0) (am 14) 100 mrp, aC (cs 0) (am 15) 20 mcf, aC (cs 0) (am 16) 20 mcn, aC (cs 0) (am 17) 8 mdry] (fun (z : Int) (u : Unit) => (z = 0 ∨ z = 1) ∧ (z = 1 ↔ b ≤ a ∧ a ≤ k)) (fun u : Unit => [oM am mwide mhigh mborder mpattern mdoor mpieces mtiles mrests mcrates mmoves manyLaid mgrout mhour mthrown, aC (cs 0) (am 1) 96 mpillar, aC (cs 0) (am 2) 12 mshut, aC (cs 0) (am 3) 96 mpk, aC (cs 0) (am 4) 96 mpf, aC (cs 0) (am 5) 96 mpn, aC (cs 0) (am 6) 96 mpr, aC (cs 0) (am 7) 96 mleft, aC (cs 0) (am 8) 96 mright, aC (cs 0) (am 9) 96 mtop, aC (cs 0) (am 10) 96 mbottom, aC (cs 0) (am 11) 96 mat, aC (cs 0) (am 12) 100 mrw, aC (cs 0) (am 13) 100 mrh, aC (cs 0) (am 14) 100 mrp, aC (cs 0) (am 15) 20 mcf, aC (cs 0) (am 16) 20 mcn, aC (cs 0) (am 17) 8 mdry]) 0 0 := by
  refine Ci_of (cc := cX8_in) (nL := 4) (ret := (some .boolean)) (lv0 := [(0, .ref (am 0)), (1, .int (iI a)), (2, .int (iI b)), (3, .int (iI k))]) RX8 "in" (by decide +kernel) rfl (Nat.le_of_ble_eq_true rfl) rfl (fun p9 e9 s9 m9 ar9 be9 me9 c9 A9 Q9 hQ hC => ?_)
  refine v_iload_n hC 1 1 dX8_in_0 rfl rfl rfl ?_
  refine v_iload_n hC 2 2 dX8_in_1 rfl rfl rfl ?_
  refine v_icmp_lt hC 14 5 dX8_in_2 (by decide) rfl (by omega) (by omega) (fun c_2 => ?_) (fun c_2 => ?_)
  · skip
    refine v_iconst hC 15 dX8_in_14 rfl ?_
    exact v_zret hC hQ () [0, 1, 2, 3, 4, 5, 6, 7, 8, 9, 10, 11, 12, 13, 14, 15, 16, 17] dX8_in_15 (by omega) rfl rfl ⟨by decide, by decide⟩ ⟨by (try dsimp only); all_goals (omega), by (try dsimp only); all_goals (omega)⟩
  · skip
    refine v_iload_n hC 6 1 dX8_in_5 rfl rfl rfl ?_
    refine v_iload_n hC 7 3 dX8_in_6 rfl rfl rfl ?_
    refine v_icmp_gt hC 14 10 dX8_in_7 (by decide) rfl (by omega) (by omega) (fun c_7 => ?_) (fun c_7 => ?_)
    · skip
      refine v_iconst hC 15 dX8_in_14 rfl ?_
      exact v_zret hC hQ () [0, 1, 2, 3, 4, 5, 6, 7, 8, 9, 10, 11, 12, 13, 14, 15, 16, 17] dX8_in_15 (by omega) rfl rfl ⟨by decide, by decide⟩ ⟨by (try dsimp only); all_goals (omega), by (try dsimp only); all_goals (omega)⟩
    · skip
      refine v_iconst hC 11 dX8_in_10 rfl ?_
      refine v_goto hC 15 dX8_in_11 (by decide) ?_
      exact v_zret hC hQ () [0, 1, 2, 3, 4, 5, 6, 7, 8, 9, 10, 11, 12, 13, 14, 15, 16, 17] dX8_in_15 (by omega) rfl rfl ⟨by decide, by decide⟩ ⟨by (try dsimp only); all_goals (omega), by (try dsimp only); all_goals (omega)⟩

set_option maxHeartbeats 4000000 in
set_option maxRecDepth 100000 in
theorem c_X8_unlay (lx : Launch) (D : va_G) (cs : Nat → ClassId) (am : Nat → Nat) (mwide : Int) (mhigh : Int) (mborder : Int) (mpattern : Int) (mdoor : Int) (mpieces : Int) (mtiles : Int) (mrests : Int) (mcrates : Int) (mmoves : Int) (manyLaid : Int) (mgrout : Int) (mhour : Int) (mthrown : Int) (mpillar : Int → Int) (mshut : Int → Int) (mpk : Int → Int) (mpf : Int → Int) (mpn : Int → Int) (mpr : Int → Int) (mleft : Int → Int) (mright : Int → Int) (mtop : Int → Int) (mbottom : Int → Int) (mat : Int → Int) (mrw : Int → Int) (mrh : Int → Int) (mrp : Int → Int) (mcf : Int → Int) (mcn : Int → Int) (mdry : Int → Int)  : Cv lx D cs yX8_unlay wsX8_unlay ({ frames := 1, cells := 0, slots := 0, locals := 24 }) [.ref (am 0)] [oM am mwide mhigh mborder mpattern mdoor mpieces mtiles mrests mcrates mmoves manyLaid mgrout mhour mthrown, aC (cs 0) (am 1) 96 mpillar, aC (cs 0) (am 2) 12 mshut, aC (cs 0) (am 3) 96 mpk, aC (cs 0) (am 4) 96 mpf, aC (cs 0) (am 5) 96 mpn, aC (cs 0) (am 6) 96 mpr, aC (cs 0) (am 7) 96 mleft, aC (cs 0) (am 8) 96 mright, aC (cs 0) (am 9) 96 mtop, aC (cs 0) (am 10) 96 mbottom, aC (cs 0) (am 11) 96 mat, aC (cs 0) (am 12) 100 mrw, aC (cs 0) (am 13) 100 mrh, aC (cs 0) (am 14) 100 mrp, aC (cs 0) (am 15) 20 mcf, aC (cs 0) (am 16) 20 mcn, aC (cs 0) (am 17) 8 mdry] (fun (u : (Int → Int)) => (u = fil mdry (-1) 8)) (fun u : (Int → Int) => [oM am mwide mhigh mborder mpattern mdoor mpieces mtiles mrests mcrates mmoves manyLaid mgrout mhour mthrown, aC (cs 0) (am 1) 96 mpillar, aC (cs 0) (am 2) 12 mshut, aC (cs 0) (am 3) 96 mpk, aC (cs 0) (am 4) 96 mpf, aC (cs 0) (am 5) 96 mpn, aC (cs 0) (am 6) 96 mpr, aC (cs 0) (am 7) 96 mleft, aC (cs 0) (am 8) 96 mright, aC (cs 0) (am 9) 96 mtop, aC (cs 0) (am 10) 96 mbottom, aC (cs 0) (am 11) 96 mat, aC (cs 0) (am 12) 100 mrw, aC (cs 0) (am 13) 100 mrh, aC (cs 0) (am 14) 100 mrp, aC (cs 0) (am 15) 20 mcf, aC (cs 0) (am 16) 20 mcn, aC (cs 0) (am 17) 8 u]) 0 0 := by
  refine Cv_of (cc := cX8_unlay) (nL := 2) (ret := none) (lv0 := [(0, .ref (am 0))]) RX8 "unlay" (by decide +kernel) rfl (Nat.le_of_ble_eq_true rfl) rfl (fun p9 e9 s9 m9 ar9 be9 me9 c9 A9 Q9 hQ hC => ?_)
  have iX8 : ∀ w ∈ wsX80, w ∈ wsX8_unlay := by decide +kernel
  have L0 : Cond.fieldLink RX8 65 "GroutlineModel" "dry" "[I" ∈ wsX8_unlay := by decide +kernel
  refine v_iconst hC 1 dX8_unlay_0 rfl ?_
  refine v_istore_n hC 2 [(1, .int (iI 0)), (0, .ref (am 0))] dX8_unlay_1 rfl rfl (by decide) rfl ?_
  have cut_2 : ∀ (n : Nat) (i : Int) (dry2 : Int → Int), (0 ≤ i ∧ i ≤ 8) → (dry2 = fil mdry (-1) i) → (8 - i < (n : Int)) → V p9 lx e9 ({ frames := 1, cells := 0, slots := 0, locals := 24 }) s9 m9 ar9 be9 me9 c9 Q9 D A9 s9.heap 2 0 0 [oM am mwide mhigh mborder mpattern mdoor mpieces mtiles mrests mcrates mmoves manyLaid mgrout mhour mthrown, aC (cs 0) (am 1) 96 mpillar, aC (cs 0) (am 2) 12 mshut, aC (cs 0) (am 3) 96 mpk, aC (cs 0) (am 4) 96 mpf, aC (cs 0) (am 5) 96 mpn, aC (cs 0) (am 6) 96 mpr, aC (cs 0) (am 7) 96 mleft, aC (cs 0) (am 8) 96 mright, aC (cs 0) (am 9) 96 mtop, aC (cs 0) (am 10) 96 mbottom, aC (cs 0) (am 11) 96 mat, aC (cs 0) (am 12) 100 mrw, aC (cs 0) (am 13) 100 mrh, aC (cs 0) (am 14) 100 mrp, aC (cs 0) (am 15) 20 mcf, aC (cs 0) (am 16) 20 mcn, aC (cs 0) (am 17) 8 dry2] [(0, .ref (am 0)), (1, .int (iI i))] 2 [] := by
    intro n
    induction n with
    | zero =>
      intro i dry2 hi hd2 hn
      exfalso; omega
    | succ n ih =>
      intro i dry2 hi hd2 hn
      have ih_2 := ih
      clear ih
      refine v_iload_n hC 3 1 dX8_unlay_2 rfl rfl rfl ?_
      refine v_bipush hC 5 dX8_unlay_3 rfl rfl ?_
      refine v_icmp_ge hC 21 8 dX8_unlay_5 (by decide) rfl (by omega) (by omega) (fun c_5 => ?_) (fun c_5 => ?_)
      · skip
        exact v_vret hC hQ dry2 [0, 1, 2, 3, 4, 5, 6, 7, 8, 9, 10, 11, 12, 13, 14, 15, 16, 17] dX8_unlay_21 rfl rfl ⟨by decide, by decide⟩ (by (try dsimp only); all_goals (rw [hd2, show i = 8 by omega]))
      · skip
        refine v_aload_n hC 9 0 dX8_unlay_8 rfl rfl rfl ?_
        refine v_get hC 12 0 26 (C := RX8) (T := TX8) (N := 31) dX8_unlay_9 rfl iX8 L0 rfl rfl (by decide) rfl ?_
        refine v_iload_n hC 13 1 dX8_unlay_12 rfl rfl rfl ?_
        refine v_iconst hC 14 dX8_unlay_13 rfl ?_
        refine v_iast hC 15 17 [oM am mwide mhigh mborder mpattern mdoor mpieces mtiles mrests mcrates mmoves manyLaid mgrout mhour mthrown, aC (cs 0) (am 1) 96 mpillar, aC (cs 0) (am 2) 12 mshut, aC (cs 0) (am 3) 96 mpk, aC (cs 0) (am 4) 96 mpf, aC (cs 0) (am 5) 96 mpn, aC (cs 0) (am 6) 96 mpr, aC (cs 0) (am 7) 96 mleft, aC (cs 0) (am 8) 96 mright, aC (cs 0) (am 9) 96 mtop, aC (cs 0) (am 10) 96 mbottom, aC (cs 0) (am 11) 96 mat, aC (cs 0) (am 12) 100 mrw, aC (cs 0) (am 13) 100 mrh, aC (cs 0) (am 14) 100 mrp, aC (cs 0) (am 15) 20 mcf, aC (cs 0) (am 16) 20 mcn, aC (cs 0) (am 17) 8 (uI dry2 i (-1))] dX8_unlay_14 rfl rfl (by decide) (by omega) rfl ?_
        refine v_iinc hC 18 1 [(1, .int (iI (i + 1))), (0, .ref (am 0))] dX8_unlay_15 rfl rfl (by decide) rfl ?_
        refine v_goto hC 2 dX8_unlay_18 (by decide) ?_
        exact v_sub [0, 1, 2, 3, 4, 5, 6, 7, 8, 9, 10, 11, 12, 13, 14, 15, 16, 17] [1, 0] _ _ rfl rfl rfl (ih_2 (i + 1) (uI dry2 i (-1)) (by omega) (by rw [hd2]; exact fil_step mdry (-1) i hi.1) (by omega))
  exact v_sub [0, 1, 2, 3, 4, 5, 6, 7, 8, 9, 10, 11, 12, 13, 14, 15, 16, 17] [1, 0] _ _ rfl rfl rfl (cut_2 (Int.toNat (8 - 0) + 1) 0 mdry (by omega) (by exact (fil_0 mdry (-1)).symm) (by omega))

set_option maxHeartbeats 4000000 in
set_option maxRecDepth 100000 in
theorem c_X8_isBarred (lx : Launch) (D : va_G) (cs : Nat → ClassId) (am : Nat → Nat) (mwide : Int) (mhigh : Int) (mborder : Int) (mpattern : Int) (mdoor : Int) (mpieces : Int) (mtiles : Int) (mrests : Int) (mcrates : Int) (mmoves : Int) (manyLaid : Int) (mgrout : Int) (mhour : Int) (mthrown : Int) (mpillar : Int → Int) (mshut : Int → Int) (mpk : Int → Int) (mpf : Int → Int) (mpn : Int → Int) (mpr : Int → Int) (mleft : Int → Int) (mright : Int → Int) (mtop : Int → Int) (mbottom : Int → Int) (mat : Int → Int) (mrw : Int → Int) (mrh : Int → Int) (mrp : Int → Int) (mcf : Int → Int) (mcn : Int → Int) (mdry : Int → Int) (x : Int) (hc : 0 ≤ x ∧ x < 96) (hpl : Rn mpillar 0 1) (hsh : Rn mshut 0 1) : Ci lx D cs yX8_isBarred wsX8_isBarred ({ frames := 1, cells := 0, slots := 0, locals := 24 }) [.ref (am 0), .int (iI x)] [oM am mwide mhigh mborder mpattern mdoor mpieces mtiles mrests mcrates mmoves manyLaid mgrout mhour mthrown, aC (cs 0) (am 1) 96 mpillar, aC (cs 0) (am 2) 12 mshut, aC (cs 0) (am 3) 96 mpk, aC (cs 0) (am 4) 96 mpf, aC (cs 0) (am 5) 96 mpn, aC (cs 0) (am 6) 96 mpr, aC (cs 0) (am 7) 96 mleft, aC (cs 0) (am 8) 96 mright, aC (cs 0) (am 9) 96 mtop, aC (cs 0) (am 10) 96 mbottom, aC (cs 0) (am 11) 96 mat, aC (cs 0) (am 12) 100 mrw, aC (cs 0) (am 13) 100 mrh, aC (cs 0) (am 14) 100 mrp, aC (cs 0) (am 15) 20 mcf, aC (cs 0) (am 16) 20 mcn, aC (cs 0) (am 17) 8 mdry] (fun (z : Int) (u : Unit) => (z = 0 ∨ z = 1) ∧ (z = 1 ↔ (mbar mpillar mshut) x = 1)) (fun u : Unit => [oM am mwide mhigh mborder mpattern mdoor mpieces mtiles mrests mcrates mmoves manyLaid mgrout mhour mthrown, aC (cs 0) (am 1) 96 mpillar, aC (cs 0) (am 2) 12 mshut, aC (cs 0) (am 3) 96 mpk, aC (cs 0) (am 4) 96 mpf, aC (cs 0) (am 5) 96 mpn, aC (cs 0) (am 6) 96 mpr, aC (cs 0) (am 7) 96 mleft, aC (cs 0) (am 8) 96 mright, aC (cs 0) (am 9) 96 mtop, aC (cs 0) (am 10) 96 mbottom, aC (cs 0) (am 11) 96 mat, aC (cs 0) (am 12) 100 mrw, aC (cs 0) (am 13) 100 mrh, aC (cs 0) (am 14) 100 mrp, aC (cs 0) (am 15) 20 mcf, aC (cs 0) (am 16) 20 mcn, aC (cs 0) (am 17) 8 mdry]) 0 0 := by
  refine Ci_of (cc := cX8_isBarred) (nL := 2) (ret := (some .boolean)) (lv0 := [(0, .ref (am 0)), (1, .int (iI x))]) RX8 "isBarred" (by decide +kernel) rfl (Nat.le_of_ble_eq_true rfl) rfl (fun p9 e9 s9 m9 ar9 be9 me9 c9 A9 Q9 hQ hC => ?_)
  have iX8 : ∀ w ∈ wsX80, w ∈ wsX8_isBarred := by decide +kernel
  have L0 : Cond.fieldLink RX8 16 "GroutlineModel" "pillar" "[I" ∈ wsX8_isBarred := by decide +kernel
  have L1 : Cond.fieldLink RX8 20 "GroutlineModel" "shut" "[I" ∈ wsX8_isBarred := by decide +kernel
  refine v_aload_n hC 1 0 dX8_isBarred_0 rfl rfl rfl ?_
  refine v_get hC 4 0 5 (C := RX8) (T := TX8) (N := 31) dX8_isBarred_1 rfl iX8 L0 rfl rfl (by decide) rfl ?_
  refine v_iload_n hC 5 1 dX8_isBarred_4 rfl rfl rfl ?_
  refine v_iald hC 6 1 dX8_isBarred_5 rfl rfl (by decide) (by omega) ?_
  have r_5 := hpl x
  refine v_iconst hC 7 dX8_isBarred_6 rfl ?_
  refine v_icmp_eq hC 26 10 dX8_isBarred_7 (by decide) rfl (by omega) (by omega) (fun c_7 => ?_) (fun c_7 => ?_)
  · skip
    refine v_iconst hC 27 dX8_isBarred_26 rfl ?_
    refine v_goto hC 31 dX8_isBarred_27 (by decide) ?_
    exact v_zret hC hQ () [0, 1, 2, 3, 4, 5, 6, 7, 8, 9, 10, 11, 12, 13, 14, 15, 16, 17] dX8_isBarred_31 (by omega) rfl rfl ⟨by decide, by decide⟩ ⟨by (try dsimp only); all_goals (omega), by (try dsimp only); all_goals (rw [mbar_iff]; omega)⟩
  · skip
    refine v_iload_n hC 11 1 dX8_isBarred_10 rfl rfl rfl ?_
    refine v_bipush hC 13 dX8_isBarred_11 rfl rfl ?_
    refine v_icmp_ge hC 30 16 dX8_isBarred_13 (by decide) rfl (by omega) (by omega) (fun c_13 => ?_) (fun c_13 => ?_)
    · skip
      refine v_iconst hC 31 dX8_isBarred_30 rfl ?_
      exact v_zret hC hQ () [0, 1, 2, 3, 4, 5, 6, 7, 8, 9, 10, 11, 12, 13, 14, 15, 16, 17] dX8_isBarred_31 (by omega) rfl rfl ⟨by decide, by decide⟩ ⟨by (try dsimp only); all_goals (omega), by (try dsimp only); all_goals (rw [mbar_iff]; omega)⟩
    · skip
      refine v_aload_n hC 17 0 dX8_isBarred_16 rfl rfl rfl ?_
      refine v_get hC 20 0 6 (C := RX8) (T := TX8) (N := 31) dX8_isBarred_17 rfl iX8 L1 rfl rfl (by decide) rfl ?_
      refine v_iload_n hC 21 1 dX8_isBarred_20 rfl rfl rfl ?_
      refine v_iald hC 22 2 dX8_isBarred_21 rfl rfl (by decide) (by omega) ?_
      have r_21 := hsh x
      refine v_iconst hC 23 dX8_isBarred_22 rfl ?_
      refine v_icmp_ne hC 30 26 dX8_isBarred_23 (by decide) rfl (by omega) (by omega) (fun c_23 => ?_) (fun c_23 => ?_)
      · skip
        refine v_iconst hC 31 dX8_isBarred_30 rfl ?_
        exact v_zret hC hQ () [0, 1, 2, 3, 4, 5, 6, 7, 8, 9, 10, 11, 12, 13, 14, 15, 16, 17] dX8_isBarred_31 (by omega) rfl rfl ⟨by decide, by decide⟩ ⟨by (try dsimp only); all_goals (omega), by (try dsimp only); all_goals (rw [mbar_iff]; omega)⟩
      · skip
        refine v_iconst hC 27 dX8_isBarred_26 rfl ?_
        refine v_goto hC 31 dX8_isBarred_27 (by decide) ?_
        exact v_zret hC hQ () [0, 1, 2, 3, 4, 5, 6, 7, 8, 9, 10, 11, 12, 13, 14, 15, 16, 17] dX8_isBarred_31 (by omega) rfl rfl ⟨by decide, by decide⟩ ⟨by (try dsimp only); all_goals (omega), by (try dsimp only); all_goals (rw [mbar_iff]; omega)⟩

set_option maxHeartbeats 4000000 in
set_option maxRecDepth 100000 in
theorem c_X8_isEdge (lx : Launch) (D : va_G) (cs : Nat → ClassId) (am : Nat → Nat) (mwide : Int) (mhigh : Int) (mborder : Int) (mpattern : Int) (mdoor : Int) (mpieces : Int) (mtiles : Int) (mrests : Int) (mcrates : Int) (mmoves : Int) (manyLaid : Int) (mgrout : Int) (mhour : Int) (mthrown : Int) (mpillar : Int → Int) (mshut : Int → Int) (mpk : Int → Int) (mpf : Int → Int) (mpn : Int → Int) (mpr : Int → Int) (mleft : Int → Int) (mright : Int → Int) (mtop : Int → Int) (mbottom : Int → Int) (mat : Int → Int) (mrw : Int → Int) (mrh : Int → Int) (mrp : Int → Int) (mcf : Int → Int) (mcn : Int → Int) (mdry : Int → Int) (x : Int) (hc : 0 ≤ x ∧ x < 96) (hb : 0 ≤ mborder ∧ mborder ≤ 2) : Ci lx D cs yX8_isEdge wsX8_isEdge ({ frames := 1, cells := 0, slots := 0, locals := 24 }) [.ref (am 0), .int (iI x)] [oM am mwide mhigh mborder mpattern mdoor mpieces mtiles mrests mcrates mmoves manyLaid mgrout mhour mthrown, aC (cs 0) (am 1) 96 mpillar, aC (cs 0) (am 2) 12 mshut, aC (cs 0) (am 3) 96 mpk, aC (cs 0) (am 4) 96 mpf, aC (cs 0) (am 5) 96 mpn, aC (cs 0) (am 6) 96 mpr, aC (cs 0) (am 7) 96 mleft, aC (cs 0) (am 8) 96 mright, aC (cs 0) (am 9) 96 mtop, aC (cs 0) (am 10) 96 mbottom, aC (cs 0) (am 11) 96 mat, aC (cs 0) (am 12) 100 mrw, aC (cs 0) (am 13) 100 mrh, aC (cs 0) (am 14) 100 mrp, aC (cs 0) (am 15) 20 mcf, aC (cs 0) (am 16) 20 mcn, aC (cs 0) (am 17) 8 mdry] (fun (z : Int) (u : Unit) => (z = 0 ∨ z = 1) ∧ (z = 1 ↔ (x % 12 < mborder ∨ 12 - mborder ≤ x % 12 ∨ x / 12 < mborder ∨ 8 - mborder ≤ x / 12))) (fun u : Unit => [oM am mwide mhigh mborder mpattern mdoor mpieces mtiles mrests mcrates mmoves manyLaid mgrout mhour mthrown, aC (cs 0) (am 1) 96 mpillar, aC (cs 0) (am 2) 12 mshut, aC (cs 0) (am 3) 96 mpk, aC (cs 0) (am 4) 96 mpf, aC (cs 0) (am 5) 96 mpn, aC (cs 0) (am 6) 96 mpr, aC (cs 0) (am 7) 96 mleft, aC (cs 0) (am 8) 96 mright, aC (cs 0) (am 9) 96 mtop, aC (cs 0) (am 10) 96 mbottom, aC (cs 0) (am 11) 96 mat, aC (cs 0) (am 12) 100 mrw, aC (cs 0) (am 13) 100 mrh, aC (cs 0) (am 14) 100 mrp, aC (cs 0) (am 15) 20 mcf, aC (cs 0) (am 16) 20 mcn, aC (cs 0) (am 17) 8 mdry]) 0 0 := by
  refine Ci_of (cc := cX8_isEdge) (nL := 4) (ret := (some .boolean)) (lv0 := [(0, .ref (am 0)), (1, .int (iI x))]) RX8 "isEdge" (by decide +kernel) rfl (Nat.le_of_ble_eq_true rfl) rfl (fun p9 e9 s9 m9 ar9 be9 me9 c9 A9 Q9 hQ hC => ?_)
  have iX8 : ∀ w ∈ wsX80, w ∈ wsX8_isEdge := by decide +kernel
  have L0 : Cond.fieldLink RX8 80 "GroutlineModel" "border" "I" ∈ wsX8_isEdge := by decide +kernel
  refine v_iload_n hC 1 1 dX8_isEdge_0 rfl rfl rfl ?_
  refine v_bipush hC 3 dX8_isEdge_1 rfl rfl ?_
  refine v_irem hC 4 (x % 12) dX8_isEdge_3 rfl (by omega) (by omega) rfl ?_
  refine v_istore_n hC 5 [(2, .int (iI (x % 12))), (0, .ref (am 0)), (1, .int (iI x))] dX8_isEdge_4 rfl rfl (by decide) rfl ?_
  refine v_iload_n hC 6 2 dX8_isEdge_5 rfl rfl rfl ?_
  refine v_bipush hC 8 dX8_isEdge_6 rfl rfl ?_
  refine v_idiv hC 9 (x / 12) dX8_isEdge_8 rfl (by omega) (by omega) rfl ?_
  refine v_istore_n hC 10 [(3, .int (iI (x / 12))), (2, .int (iI (x % 12))), (0, .ref (am 0)), (1, .int (iI x))] dX8_isEdge_9 rfl rfl (by decide) rfl ?_
  refine v_iload_n hC 11 1 dX8_isEdge_10 rfl rfl rfl ?_
  refine v_aload_n hC 12 2 dX8_isEdge_11 rfl rfl rfl ?_
  refine v_get hC 15 0 2 (C := RX8) (T := TX8) (N := 31) dX8_isEdge_12 rfl iX8 L0 rfl rfl (by decide) rfl ?_
  refine v_icmp_lt hC 48 18 dX8_isEdge_15 (by decide) rfl (by omega) (by omega) (fun c_15 => ?_) (fun c_15 => ?_)
  · skip
    refine v_iconst hC 49 dX8_isEdge_48 rfl ?_
    refine v_goto hC 53 dX8_isEdge_49 (by decide) ?_
    exact v_zret hC hQ () [0, 1, 2, 3, 4, 5, 6, 7, 8, 9, 10, 11, 12, 13, 14, 15, 16, 17] dX8_isEdge_53 (by omega) rfl rfl ⟨by decide, by decide⟩ ⟨by (try dsimp only); all_goals (omega), by (try dsimp only); all_goals (omega)⟩
  · skip
    refine v_iload_n hC 19 1 dX8_isEdge_18 rfl rfl rfl ?_
    refine v_bipush hC 21 dX8_isEdge_19 rfl rfl ?_
    refine v_aload_n hC 22 2 dX8_isEdge_21 rfl rfl rfl ?_
    refine v_get hC 25 0 2 (C := RX8) (T := TX8) (N := 31) dX8_isEdge_22 rfl iX8 L0 rfl rfl (by decide) rfl ?_
    refine v_isub hC 26 (12 - mborder) dX8_isEdge_25 rfl rfl ?_
    refine v_icmp_ge hC 48 29 dX8_isEdge_26 (by decide) rfl (by omega) (by omega) (fun c_26 => ?_) (fun c_26 => ?_)
    · skip
      refine v_iconst hC 49 dX8_isEdge_48 rfl ?_
      refine v_goto hC 53 dX8_isEdge_49 (by decide) ?_
      exact v_zret hC hQ () [0, 1, 2, 3, 4, 5, 6, 7, 8, 9, 10, 11, 12, 13, 14, 15, 16, 17] dX8_isEdge_53 (by omega) rfl rfl ⟨by decide, by decide⟩ ⟨by (try dsimp only); all_goals (omega), by (try dsimp only); all_goals (omega)⟩
    · skip
      refine v_iload_n hC 30 0 dX8_isEdge_29 rfl rfl rfl ?_
      refine v_aload_n hC 31 2 dX8_isEdge_30 rfl rfl rfl ?_
      refine v_get hC 34 0 2 (C := RX8) (T := TX8) (N := 31) dX8_isEdge_31 rfl iX8 L0 rfl rfl (by decide) rfl ?_
      refine v_icmp_lt hC 48 37 dX8_isEdge_34 (by decide) rfl (by omega) (by omega) (fun c_34 => ?_) (fun c_34 => ?_)
      · skip
        refine v_iconst hC 49 dX8_isEdge_48 rfl ?_
        refine v_goto hC 53 dX8_isEdge_49 (by decide) ?_
        exact v_zret hC hQ () [0, 1, 2, 3, 4, 5, 6, 7, 8, 9, 10, 11, 12, 13, 14, 15, 16, 17] dX8_isEdge_53 (by omega) rfl rfl ⟨by decide, by decide⟩ ⟨by (try dsimp only); all_goals (omega), by (try dsimp only); all_goals (omega)⟩
      · skip
        refine v_iload_n hC 38 0 dX8_isEdge_37 rfl rfl rfl ?_
        refine v_bipush hC 40 dX8_isEdge_38 rfl rfl ?_
        refine v_aload_n hC 41 2 dX8_isEdge_40 rfl rfl rfl ?_
        refine v_get hC 44 0 2 (C := RX8) (T := TX8) (N := 31) dX8_isEdge_41 rfl iX8 L0 rfl rfl (by decide) rfl ?_
        refine v_isub hC 45 (8 - mborder) dX8_isEdge_44 rfl rfl ?_
        refine v_icmp_lt hC 52 48 dX8_isEdge_45 (by decide) rfl (by omega) (by omega) (fun c_45 => ?_) (fun c_45 => ?_)
        · skip
          refine v_iconst hC 53 dX8_isEdge_52 rfl ?_
          exact v_zret hC hQ () [0, 1, 2, 3, 4, 5, 6, 7, 8, 9, 10, 11, 12, 13, 14, 15, 16, 17] dX8_isEdge_53 (by omega) rfl rfl ⟨by decide, by decide⟩ ⟨by (try dsimp only); all_goals (omega), by (try dsimp only); all_goals (omega)⟩
        · skip
          refine v_iconst hC 49 dX8_isEdge_48 rfl ?_
          refine v_goto hC 53 dX8_isEdge_49 (by decide) ?_
          exact v_zret hC hQ () [0, 1, 2, 3, 4, 5, 6, 7, 8, 9, 10, 11, 12, 13, 14, 15, 16, 17] dX8_isEdge_53 (by omega) rfl rfl ⟨by decide, by decide⟩ ⟨by (try dsimp only); all_goals (omega), by (try dsimp only); all_goals (omega)⟩

set_option maxHeartbeats 4000000 in
set_option maxRecDepth 100000 in
theorem c_X8_tileOf (lx : Launch) (D : va_G) (cs : Nat → ClassId) (am : Nat → Nat) (mwide : Int) (mhigh : Int) (mborder : Int) (mpattern : Int) (mdoor : Int) (mpieces : Int) (mtiles : Int) (mrests : Int) (mcrates : Int) (mmoves : Int) (manyLaid : Int) (mgrout : Int) (mhour : Int) (mthrown : Int) (mpillar : Int → Int) (mshut : Int → Int) (mpk : Int → Int) (mpf : Int → Int) (mpn : Int → Int) (mpr : Int → Int) (mleft : Int → Int) (mright : Int → Int) (mtop : Int → Int) (mbottom : Int → Int) (mat : Int → Int) (mrw : Int → Int) (mrh : Int → Int) (mrp : Int → Int) (mcf : Int → Int) (mcn : Int → Int) (mdry : Int → Int) (x : Int) (hw : 1 ≤ mwide ∧ mwide ≤ 4) (hh : 1 ≤ mhigh ∧ mhigh ≤ 4) (hb : 0 ≤ mborder ∧ mborder ≤ 2) (hp : 0 ≤ mpattern ∧ mpattern ≤ 1) (hc : 0 ≤ x ∧ x < 96) (he : ¬ (x % 12 < mborder ∨ 12 - mborder ≤ x % 12 ∨ x / 12 < mborder ∨ 8 - mborder ≤ x / 12)) : Ci lx D cs yX8_tileOf wsX8_tileOf ({ frames := 1, cells := 0, slots := 0, locals := 24 }) [.ref (am 0), .int (iI x)] [oM am mwide mhigh mborder mpattern mdoor mpieces mtiles mrests mcrates mmoves manyLaid mgrout mhour mthrown, aC (cs 0) (am 1) 96 mpillar, aC (cs 0) (am 2) 12 mshut, aC (cs 0) (am 3) 96 mpk, aC (cs 0) (am 4) 96 mpf, aC (cs 0) (am 5) 96 mpn, aC (cs 0) (am 6) 96 mpr, aC (cs 0) (am 7) 96 mleft, aC (cs 0) (am 8) 96 mright, aC (cs 0) (am 9) 96 mtop, aC (cs 0) (am 10) 96 mbottom, aC (cs 0) (am 11) 96 mat, aC (cs 0) (am 12) 100 mrw, aC (cs 0) (am 13) 100 mrh, aC (cs 0) (am 14) 100 mrp, aC (cs 0) (am 15) 20 mcf, aC (cs 0) (am 16) 20 mcn, aC (cs 0) (am 17) 8 mdry] (fun (z : Int) (u : Unit) => (z = tlN mwide mhigh mborder mpattern x)) (fun u : Unit => [oM am mwide mhigh mborder mpattern mdoor mpieces mtiles mrests mcrates mmoves manyLaid mgrout mhour mthrown, aC (cs 0) (am 1) 96 mpillar, aC (cs 0) (am 2) 12 mshut, aC (cs 0) (am 3) 96 mpk, aC (cs 0) (am 4) 96 mpf, aC (cs 0) (am 5) 96 mpn, aC (cs 0) (am 6) 96 mpr, aC (cs 0) (am 7) 96 mleft, aC (cs 0) (am 8) 96 mright, aC (cs 0) (am 9) 96 mtop, aC (cs 0) (am 10) 96 mbottom, aC (cs 0) (am 11) 96 mat, aC (cs 0) (am 12) 100 mrw, aC (cs 0) (am 13) 100 mrh, aC (cs 0) (am 14) 100 mrp, aC (cs 0) (am 15) 20 mcf, aC (cs 0) (am 16) 20 mcn, aC (cs 0) (am 17) 8 mdry]) 0 0 := by
  refine Ci_of (cc := cX8_tileOf) (nL := 4) (ret := (some .int)) (lv0 := [(0, .ref (am 0)), (1, .int (iI x))]) RX8 "tileOf" (by decide +kernel) rfl (Nat.le_of_ble_eq_true rfl) rfl (fun p9 e9 s9 m9 ar9 be9 me9 c9 A9 Q9 hQ hC => ?_)
  have iX8 : ∀ w ∈ wsX80, w ∈ wsX8_tileOf := by decide +kernel
  have L0 : Cond.fieldLink RX8 80 "GroutlineModel" "border" "I" ∈ wsX8_tileOf := by decide +kernel
  have L1 : Cond.fieldLink RX8 13 "GroutlineModel" "high" "I" ∈ wsX8_tileOf := by decide +kernel
  have L2 : Cond.fieldLink RX8 83 "GroutlineModel" "pattern" "I" ∈ wsX8_tileOf := by decide +kernel
  have L3 : Cond.fieldLink RX8 7 "GroutlineModel" "wide" "I" ∈ wsX8_tileOf := by decide +kernel
  refine v_iload_n hC 1 1 dX8_tileOf_0 rfl rfl rfl ?_
  refine v_bipush hC 3 dX8_tileOf_1 rfl rfl ?_
  refine v_idiv hC 4 (x / 12) dX8_tileOf_3 rfl (by omega) (by omega) rfl ?_
  refine v_aload_n hC 5 0 dX8_tileOf_4 rfl rfl rfl ?_
  refine v_get hC 8 0 2 (C := RX8) (T := TX8) (N := 31) dX8_tileOf_5 rfl iX8 L0 rfl rfl (by decide) rfl ?_
  refine v_isub hC 9 (x / 12 - mborder) dX8_tileOf_8 rfl rfl ?_
  refine v_aload_n hC 10 0 dX8_tileOf_9 rfl rfl rfl ?_
  refine v_get hC 13 0 1 (C := RX8) (T := TX8) (N := 31) dX8_tileOf_10 rfl iX8 L1 rfl rfl (by decide) rfl ?_
  refine v_idiv hC 14 ((x / 12 - mborder) / mhigh) dX8_tileOf_13 rfl (by omega) (by omega) rfl ?_
  have hd8 := dm_rng (t := x / 12 - mborder) (w := mhigh) (by omega) hh.1
  refine v_istore_n hC 15 [(2, .int (iI ((x / 12 - mborder) / mhigh))), (0, .ref (am 0)), (1, .int (iI x))] dX8_tileOf_14 rfl rfl (by decide) rfl ?_
  refine v_aload_n hC 16 1 dX8_tileOf_15 rfl rfl rfl ?_
  refine v_get hC 19 0 3 (C := RX8) (T := TX8) (N := 31) dX8_tileOf_16 rfl iX8 L2 rfl rfl (by decide) rfl ?_
  refine v_iconst hC 20 dX8_tileOf_19 rfl ?_
  refine v_icmp_ne hC 39 23 dX8_tileOf_20 (by decide) rfl (by omega) (by omega) (fun c_20 => ?_) (fun c_20 => ?_)
  · skip
    refine v_iconst hC 40 dX8_tileOf_39 rfl ?_
    have cut_40 : ∀ (fs : Int), (fs = shf mwide mhigh mborder mpattern (x / 12)) → V p9 lx e9 ({ frames := 1, cells := 0, slots := 0, locals := 24 }) s9 m9 ar9 be9 me9 c9 Q9 D A9 s9.heap 4 0 0 [oM am mwide mhigh mborder mpattern mdoor mpieces mtiles mrests mcrates mmoves manyLaid mgrout mhour mthrown, aC (cs 0) (am 1) 96 mpillar, aC (cs 0) (am 2) 12 mshut, aC (cs 0) (am 3) 96 mpk, aC (cs 0) (am 4) 96 mpf, aC (cs 0) (am 5) 96 mpn, aC (cs 0) (am 6) 96 mpr, aC (cs 0) (am 7) 96 mleft, aC (cs 0) (am 8) 96 mright, aC (cs 0) (am 9) 96 mtop, aC (cs 0) (am 10) 96 mbottom, aC (cs 0) (am 11) 96 mat, aC (cs 0) (am 12) 100 mrw, aC (cs 0) (am 13) 100 mrh, aC (cs 0) (am 14) 100 mrp, aC (cs 0) (am 15) 20 mcf, aC (cs 0) (am 16) 20 mcn, aC (cs 0) (am 17) 8 mdry] [(0, .ref (am 0)), (1, .int (iI x)), (2, .int (iI ((x / 12 - mborder) / mhigh)))] 40 [.int (iI fs)] := by
      intro fs hfs
      refine v_istore_n hC 41 [(3, .int (iI fs)), (0, .ref (am 0)), (1, .int (iI x)), (2, .int (iI ((x / 12 - mborder) / mhigh)))] dX8_tileOf_40 rfl rfl (by decide) rfl ?_
      have hs9 := shf_rng (high := mhigh) (border := mborder) (pattern := mpattern) (y := x / 12) hw
      refine v_bipush hC 43 dX8_tileOf_41 rfl rfl ?_
      refine v_iload_n hC 44 3 dX8_tileOf_43 rfl rfl rfl ?_
      refine v_imul hC 45 (100 * ((x / 12 - mborder) / mhigh)) dX8_tileOf_44 rfl rfl ?_
      refine v_iload_n hC 46 2 dX8_tileOf_45 rfl rfl rfl ?_
      refine v_bipush hC 48 dX8_tileOf_46 rfl rfl ?_
      refine v_irem hC 49 (x % 12) dX8_tileOf_48 rfl (by omega) (by omega) rfl ?_
      refine v_aload_n hC 50 1 dX8_tileOf_49 rfl rfl rfl ?_
      refine v_get hC 53 0 2 (C := RX8) (T := TX8) (N := 31) dX8_tileOf_50 rfl iX8 L0 rfl rfl (by decide) rfl ?_
      refine v_isub hC 54 (x % 12 - mborder) dX8_tileOf_53 rfl rfl ?_
      refine v_iload_n hC 55 0 dX8_tileOf_54 rfl rfl rfl ?_
      refine v_iadd hC 56 (x % 12 - mborder + fs) dX8_tileOf_55 rfl rfl ?_
      refine v_aload_n hC 57 1 dX8_tileOf_56 rfl rfl rfl ?_
      refine v_get hC 60 0 0 (C := RX8) (T := TX8) (N := 31) dX8_tileOf_57 rfl iX8 L3 rfl rfl (by decide) rfl ?_
      refine v_idiv hC 61 ((x % 12 - mborder + fs) / mwide) dX8_tileOf_60 rfl (by omega) (by omega) rfl ?_
      refine v_iadd hC 62 (100 * ((x / 12 - mborder) / mhigh) + ((x % 12 - mborder + fs) / mwide)) dX8_tileOf_61 rfl rfl ?_
      exact v_iret hC hQ () [0, 1, 2, 3, 4, 5, 6, 7, 8, 9, 10, 11, 12, 13, 14, 15, 16, 17] dX8_tileOf_62 rfl rfl ⟨by decide, by decide⟩ (by (try dsimp only); all_goals (unfold tlN; rw [hfs]))
    exact v_sub [0, 1, 2, 3, 4, 5, 6, 7, 8, 9, 10, 11, 12, 13, 14, 15, 16, 17] [1, 2, 0] _ _ rfl rfl rfl (cut_40 0 (by unfold shf; first | (rw [if_pos (by omega)]; done) | (rw [if_neg (by omega)]; done)))
  · skip
    refine v_iload_n hC 24 0 dX8_tileOf_23 rfl rfl rfl ?_
    refine v_iconst hC 25 dX8_tileOf_24 rfl ?_
    refine v_irem hC 26 (((x / 12 - mborder) / mhigh) % 2) dX8_tileOf_25 rfl (by omega) (by omega) rfl ?_
    refine v_iconst hC 27 dX8_tileOf_26 rfl ?_
    refine v_icmp_ne hC 39 30 dX8_tileOf_27 (by decide) rfl (by omega) (by omega) (fun c_27 => ?_) (fun c_27 => ?_)
    · skip
      refine v_iconst hC 40 dX8_tileOf_39 rfl ?_
      have cut_40 : ∀ (fs : Int), (fs = shf mwide mhigh mborder mpattern (x / 12)) → V p9 lx e9 ({ frames := 1, cells := 0, slots := 0, locals := 24 }) s9 m9 ar9 be9 me9 c9 Q9 D A9 s9.heap 4 0 0 [oM am mwide mhigh mborder mpattern mdoor mpieces mtiles mrests mcrates mmoves manyLaid mgrout mhour mthrown, aC (cs 0) (am 1) 96 mpillar, aC (cs 0) (am 2) 12 mshut, aC (cs 0) (am 3) 96 mpk, aC (cs 0) (am 4) 96 mpf, aC (cs 0) (am 5) 96 mpn, aC (cs 0) (am 6) 96 mpr, aC (cs 0) (am 7) 96 mleft, aC (cs 0) (am 8) 96 mright, aC (cs 0) (am 9) 96 mtop, aC (cs 0) (am 10) 96 mbottom, aC (cs 0) (am 11) 96 mat, aC (cs 0) (am 12) 100 mrw, aC (cs 0) (am 13) 100 mrh, aC (cs 0) (am 14) 100 mrp, aC (cs 0) (am 15) 20 mcf, aC (cs 0) (am 16) 20 mcn, aC (cs 0) (am 17) 8 mdry] [(0, .ref (am 0)), (1, .int (iI x)), (2, .int (iI ((x / 12 - mborder) / mhigh)))] 40 [.int (iI fs)] := by
        intro fs hfs
        refine v_istore_n hC 41 [(3, .int (iI fs)), (0, .ref (am 0)), (1, .int (iI x)), (2, .int (iI ((x / 12 - mborder) / mhigh)))] dX8_tileOf_40 rfl rfl (by decide) rfl ?_
        have hs9 := shf_rng (high := mhigh) (border := mborder) (pattern := mpattern) (y := x / 12) hw
        refine v_bipush hC 43 dX8_tileOf_41 rfl rfl ?_
        refine v_iload_n hC 44 3 dX8_tileOf_43 rfl rfl rfl ?_
        refine v_imul hC 45 (100 * ((x / 12 - mborder) / mhigh)) dX8_tileOf_44 rfl rfl ?_
        refine v_iload_n hC 46 2 dX8_tileOf_45 rfl rfl rfl ?_
        refine v_bipush hC 48 dX8_tileOf_46 rfl rfl ?_
        refine v_irem hC 49 (x % 12) dX8_tileOf_48 rfl (by omega) (by omega) rfl ?_
        refine v_aload_n hC 50 1 dX8_tileOf_49 rfl rfl rfl ?_
        refine v_get hC 53 0 2 (C := RX8) (T := TX8) (N := 31) dX8_tileOf_50 rfl iX8 L0 rfl rfl (by decide) rfl ?_
        refine v_isub hC 54 (x % 12 - mborder) dX8_tileOf_53 rfl rfl ?_
        refine v_iload_n hC 55 0 dX8_tileOf_54 rfl rfl rfl ?_
        refine v_iadd hC 56 (x % 12 - mborder + fs) dX8_tileOf_55 rfl rfl ?_
        refine v_aload_n hC 57 1 dX8_tileOf_56 rfl rfl rfl ?_
        refine v_get hC 60 0 0 (C := RX8) (T := TX8) (N := 31) dX8_tileOf_57 rfl iX8 L3 rfl rfl (by decide) rfl ?_
        refine v_idiv hC 61 ((x % 12 - mborder + fs) / mwide) dX8_tileOf_60 rfl (by omega) (by omega) rfl ?_
        refine v_iadd hC 62 (100 * ((x / 12 - mborder) / mhigh) + ((x % 12 - mborder + fs) / mwide)) dX8_tileOf_61 rfl rfl ?_
        exact v_iret hC hQ () [0, 1, 2, 3, 4, 5, 6, 7, 8, 9, 10, 11, 12, 13, 14, 15, 16, 17] dX8_tileOf_62 rfl rfl ⟨by decide, by decide⟩ (by (try dsimp only); all_goals (unfold tlN; rw [hfs]))
      exact v_sub [0, 1, 2, 3, 4, 5, 6, 7, 8, 9, 10, 11, 12, 13, 14, 15, 16, 17] [1, 2, 0] _ _ rfl rfl rfl (cut_40 0 (by unfold shf; first | (rw [if_pos (by omega)]; done) | (rw [if_neg (by omega)]; done)))
    · skip
      refine v_aload_n hC 31 1 dX8_tileOf_30 rfl rfl rfl ?_
      refine v_get hC 34 0 0 (C := RX8) (T := TX8) (N := 31) dX8_tileOf_31 rfl iX8 L3 rfl rfl (by decide) rfl ?_
      refine v_iconst hC 35 dX8_tileOf_34 rfl ?_
      refine v_idiv hC 36 (mwide / 2) dX8_tileOf_35 rfl (by omega) (by omega) rfl ?_
      refine v_goto hC 40 dX8_tileOf_36 (by decide) ?_
      have cut_40 : ∀ (fs : Int), (fs = shf mwide mhigh mborder mpattern (x / 12)) → V p9 lx e9 ({ frames := 1, cells := 0, slots := 0, locals := 24 }) s9 m9 ar9 be9 me9 c9 Q9 D A9 s9.heap 4 0 0 [oM am mwide mhigh mborder mpattern mdoor mpieces mtiles mrests mcrates mmoves manyLaid mgrout mhour mthrown, aC (cs 0) (am 1) 96 mpillar, aC (cs 0) (am 2) 12 mshut, aC (cs 0) (am 3) 96 mpk, aC (cs 0) (am 4) 96 mpf, aC (cs 0) (am 5) 96 mpn, aC (cs 0) (am 6) 96 mpr, aC (cs 0) (am 7) 96 mleft, aC (cs 0) (am 8) 96 mright, aC (cs 0) (am 9) 96 mtop, aC (cs 0) (am 10) 96 mbottom, aC (cs 0) (am 11) 96 mat, aC (cs 0) (am 12) 100 mrw, aC (cs 0) (am 13) 100 mrh, aC (cs 0) (am 14) 100 mrp, aC (cs 0) (am 15) 20 mcf, aC (cs 0) (am 16) 20 mcn, aC (cs 0) (am 17) 8 mdry] [(0, .ref (am 0)), (1, .int (iI x)), (2, .int (iI ((x / 12 - mborder) / mhigh)))] 40 [.int (iI fs)] := by
        intro fs hfs
        refine v_istore_n hC 41 [(3, .int (iI fs)), (0, .ref (am 0)), (1, .int (iI x)), (2, .int (iI ((x / 12 - mborder) / mhigh)))] dX8_tileOf_40 rfl rfl (by decide) rfl ?_
        have hs9 := shf_rng (high := mhigh) (border := mborder) (pattern := mpattern) (y := x / 12) hw
        refine v_bipush hC 43 dX8_tileOf_41 rfl rfl ?_
        refine v_iload_n hC 44 3 dX8_tileOf_43 rfl rfl rfl ?_
        refine v_imul hC 45 (100 * ((x / 12 - mborder) / mhigh)) dX8_tileOf_44 rfl rfl ?_
        refine v_iload_n hC 46 2 dX8_tileOf_45 rfl rfl rfl ?_
        refine v_bipush hC 48 dX8_tileOf_46 rfl rfl ?_
        refine v_irem hC 49 (x % 12) dX8_tileOf_48 rfl (by omega) (by omega) rfl ?_
        refine v_aload_n hC 50 1 dX8_tileOf_49 rfl rfl rfl ?_
        refine v_get hC 53 0 2 (C := RX8) (T := TX8) (N := 31) dX8_tileOf_50 rfl iX8 L0 rfl rfl (by decide) rfl ?_
        refine v_isub hC 54 (x % 12 - mborder) dX8_tileOf_53 rfl rfl ?_
        refine v_iload_n hC 55 0 dX8_tileOf_54 rfl rfl rfl ?_
        refine v_iadd hC 56 (x % 12 - mborder + fs) dX8_tileOf_55 rfl rfl ?_
        refine v_aload_n hC 57 1 dX8_tileOf_56 rfl rfl rfl ?_
        refine v_get hC 60 0 0 (C := RX8) (T := TX8) (N := 31) dX8_tileOf_57 rfl iX8 L3 rfl rfl (by decide) rfl ?_
        refine v_idiv hC 61 ((x % 12 - mborder + fs) / mwide) dX8_tileOf_60 rfl (by omega) (by omega) rfl ?_
        refine v_iadd hC 62 (100 * ((x / 12 - mborder) / mhigh) + ((x % 12 - mborder + fs) / mwide)) dX8_tileOf_61 rfl rfl ?_
        exact v_iret hC hQ () [0, 1, 2, 3, 4, 5, 6, 7, 8, 9, 10, 11, 12, 13, 14, 15, 16, 17] dX8_tileOf_62 rfl rfl ⟨by decide, by decide⟩ (by (try dsimp only); all_goals (unfold tlN; rw [hfs]))
      exact v_sub [0, 1, 2, 3, 4, 5, 6, 7, 8, 9, 10, 11, 12, 13, 14, 15, 16, 17] [1, 2, 0] _ _ rfl rfl rfl (cut_40 (mwide / 2) (by unfold shf; first | (rw [if_pos (by omega)]; done) | (rw [if_neg (by omega)]; done)))

set_option maxHeartbeats 4000000 in
set_option maxRecDepth 100000 in
theorem c_X8_isSame (lx : Launch) (D : va_G) (cs : Nat → ClassId) (am : Nat → Nat) (mwide : Int) (mhigh : Int) (mborder : Int) (mpattern : Int) (mdoor : Int) (mpieces : Int) (mtiles : Int) (mrests : Int) (mcrates : Int) (mmoves : Int) (manyLaid : Int) (mgrout : Int) (mhour : Int) (mthrown : Int) (mpillar : Int → Int) (mshut : Int → Int) (mpk : Int → Int) (mpf : Int → Int) (mpn : Int → Int) (mpr : Int → Int) (mleft : Int → Int) (mright : Int → Int) (mtop : Int → Int) (mbottom : Int → Int) (mat : Int → Int) (mrw : Int → Int) (mrh : Int → Int) (mrp : Int → Int) (mcf : Int → Int) (mcn : Int → Int) (mdry : Int → Int) (x : Int) (y : Int) (hw : 1 ≤ mwide ∧ mwide ≤ 4) (hh : 1 ≤ mhigh ∧ mhigh ≤ 4) (hb : 0 ≤ mborder ∧ mborder ≤ 2) (hp : 0 ≤ mpattern ∧ mpattern ≤ 1) (hc : 0 ≤ x ∧ x < 96) (hy : 0 ≤ y ∧ y < 96) : Ci lx D cs yX8_isSame wsX8_isSame ({ frames := 2, cells := 0, slots := 0, locals := 47 }) [.ref (am 0), .int (iI x), .int (iI y)] [oM am mwide mhigh mborder mpattern mdoor mpieces mtiles mrests mcrates mmoves manyLaid mgrout mhour mthrown, aC (cs 0) (am 1) 96 mpillar, aC (cs 0) (am 2) 12 mshut, aC (cs 0) (am 3) 96 mpk, aC (cs 0) (am 4) 96 mpf, aC (cs 0) (am 5) 96 mpn, aC (cs 0) (am 6) 96 mpr, aC (cs 0) (am 7) 96 mleft, aC (cs 0) (am 8) 96 mright, aC (cs 0) (am 9) 96 mtop, aC (cs 0) (am 10) 96 mbottom, aC (cs 0) (am 11) 96 mat, aC (cs 0) (am 12) 100 mrw, aC (cs 0) (am 13) 100 mrh, aC (cs 0) (am 14) 100 mrp, aC (cs 0) (am 15) 20 mcf, aC (cs 0) (am 16) 20 mcn, aC (cs 0) (am 17) 8 mdry] (fun (z : Int) (u : Unit) => (z = 0 ∨ z = 1) ∧ (z = 1 ↔ sm mwide mhigh mborder mpattern x y)) (fun u : Unit => [oM am mwide mhigh mborder mpattern mdoor mpieces mtiles mrests mcrates mmoves manyLaid mgrout mhour mthrown, aC (cs 0) (am 1) 96 mpillar, aC (cs 0) (am 2) 12 mshut, aC (cs 0) (am 3) 96 mpk, aC (cs 0) (am 4) 96 mpf, aC (cs 0) (am 5) 96 mpn, aC (cs 0) (am 6) 96 mpr, aC (cs 0) (am 7) 96 mleft, aC (cs 0) (am 8) 96 mright, aC (cs 0) (am 9) 96 mtop, aC (cs 0) (am 10) 96 mbottom, aC (cs 0) (am 11) 96 mat, aC (cs 0) (am 12) 100 mrw, aC (cs 0) (am 13) 100 mrh, aC (cs 0) (am 14) 100 mrp, aC (cs 0) (am 15) 20 mcf, aC (cs 0) (am 16) 20 mcn, aC (cs 0) (am 17) 8 mdry]) 0 0 := by
  refine Ci_of (cc := cX8_isSame) (nL := 3) (ret := (some .boolean)) (lv0 := [(0, .ref (am 0)), (1, .int (iI x)), (2, .int (iI y))]) RX8 "isSame" (by decide +kernel) rfl (Nat.le_of_ble_eq_true rfl) rfl (fun p9 e9 s9 m9 ar9 be9 me9 c9 A9 Q9 hQ hC => ?_)
  refine v_iload_n hC 1 1 dX8_isSame_0 rfl rfl rfl ?_
  refine v_iload_n hC 2 2 dX8_isSame_1 rfl rfl rfl ?_
  refine v_icmp_eq hC 34 5 dX8_isSame_2 (by decide) rfl (by omega) (by omega) (fun c_2 => ?_) (fun c_2 => ?_)
  · skip
    refine v_iconst hC 35 dX8_isSame_34 rfl ?_
    refine v_goto hC 39 dX8_isSame_35 (by decide) ?_
    exact v_zret hC hQ () [0, 1, 2, 3, 4, 5, 6, 7, 8, 9, 10, 11, 12, 13, 14, 15, 16, 17] dX8_isSame_39 (by omega) rfl rfl ⟨by decide, by decide⟩ ⟨by (try dsimp only); all_goals (omega), by (try dsimp only); all_goals (first | exact ⟨fun _ => Or.inl c_2, fun _ => rfl⟩ | exact ⟨fun h => absurd h (by decide), fun h => by simp only [sm, egc, egd] at h; omega⟩ | exact ⟨fun _ => (by simp only [sm, egc, egd]; omega), fun _ => rfl⟩)⟩
  · skip
    refine v_aload_n hC 6 0 dX8_isSame_5 rfl rfl rfl ?_
    refine v_iload_n hC 7 1 dX8_isSame_6 rfl rfl rfl ?_
    refine v_callVi hC 10 1 [0, 1, 2, 3, 4, 5, 6, 7, 8, 9, 10, 11, 12, 13, 14, 15, 16, 17] [] [] (As := [.int (iI x)]) (rest := []) (c_X8_isEdge lx D cs am mwide mhigh mborder mpattern mdoor mpieces mtiles mrests mcrates mmoves manyLaid mgrout mhour mthrown mpillar mshut mpk mpf mpn mpr mleft mright mtop mbottom mat mrw mrh mrp mcf mcn mdry x (by omega) (by omega)) dX8_isSame_7 rfl rfl 0 rfl rfl gX8_isSame_X8_isEdge rfl rfl rfl (by decide +kernel) ⟨by decide, by decide⟩ rfl rfl rfl rfl (by decide) rfl (Nat.le_of_ble_eq_true rfl) ⟨rfl, rfl⟩ ⟨by decide, by decide⟩ (fun z7 u7 h7 => ?_)
    (try dsimp only at h7)
    obtain ⟨h7_1, h7_2⟩ := h7
    show V p9 lx e9 ({ frames := 2, cells := 0, slots := 0, locals := 47 }) s9 m9 ar9 be9 me9 c9 Q9 D A9 s9.heap 3 0 0 [oM am mwide mhigh mborder mpattern mdoor mpieces mtiles mrests mcrates mmoves manyLaid mgrout mhour mthrown, aC (cs 0) (am 1) 96 mpillar, aC (cs 0) (am 2) 12 mshut, aC (cs 0) (am 3) 96 mpk, aC (cs 0) (am 4) 96 mpf, aC (cs 0) (am 5) 96 mpn, aC (cs 0) (am 6) 96 mpr, aC (cs 0) (am 7) 96 mleft, aC (cs 0) (am 8) 96 mright, aC (cs 0) (am 9) 96 mtop, aC (cs 0) (am 10) 96 mbottom, aC (cs 0) (am 11) 96 mat, aC (cs 0) (am 12) 100 mrw, aC (cs 0) (am 13) 100 mrh, aC (cs 0) (am 14) 100 mrp, aC (cs 0) (am 15) 20 mcf, aC (cs 0) (am 16) 20 mcn, aC (cs 0) (am 17) 8 mdry] [(0, .ref (am 0)), (1, .int (iI x)), (2, .int (iI y))] 10 [.int (iI z7)]
    refine v_if_ne hC 38 13 dX8_isSame_10 (by decide) rfl (by omega) (fun c_10 => ?_) (fun c_10 => ?_)
    · skip
      refine v_iconst hC 39 dX8_isSame_38 rfl ?_
      exact v_zret hC hQ () [0, 1, 2, 3, 4, 5, 6, 7, 8, 9, 10, 11, 12, 13, 14, 15, 16, 17] dX8_isSame_39 (by omega) rfl rfl ⟨by decide, by decide⟩ ⟨by (try dsimp only); all_goals (omega), by (try dsimp only); all_goals (first | exact ⟨fun _ => Or.inl c_2, fun _ => rfl⟩ | exact ⟨fun h => absurd h (by decide), fun h => by simp only [sm, egc, egd] at h; omega⟩ | exact ⟨fun _ => (by simp only [sm, egc, egd]; omega), fun _ => rfl⟩)⟩
    · skip
      refine v_aload_n hC 14 0 dX8_isSame_13 rfl rfl rfl ?_
      refine v_iload_n hC 15 2 dX8_isSame_14 rfl rfl rfl ?_
      refine v_callVi hC 18 1 [0, 1, 2, 3, 4, 5, 6, 7, 8, 9, 10, 11, 12, 13, 14, 15, 16, 17] [] [] (As := [.int (iI y)]) (rest := []) (c_X8_isEdge lx D cs am mwide mhigh mborder mpattern mdoor mpieces mtiles mrests mcrates mmoves manyLaid mgrout mhour mthrown mpillar mshut mpk mpf mpn mpr mleft mright mtop mbottom mat mrw mrh mrp mcf mcn mdry y (by omega) (by omega)) dX8_isSame_15 rfl rfl 0 rfl rfl gX8_isSame_X8_isEdge rfl rfl rfl (by decide +kernel) ⟨by decide, by decide⟩ rfl rfl rfl rfl (by decide) rfl (Nat.le_of_ble_eq_true rfl) ⟨rfl, rfl⟩ ⟨by decide, by decide⟩ (fun z15 u15 h15 => ?_)
      (try dsimp only at h15)
      obtain ⟨h15_1, h15_2⟩ := h15
      show V p9 lx e9 ({ frames := 2, cells := 0, slots := 0, locals := 47 }) s9 m9 ar9 be9 me9 c9 Q9 D A9 s9.heap 3 0 0 [oM am mwide mhigh mborder mpattern mdoor mpieces mtiles mrests mcrates mmoves manyLaid mgrout mhour mthrown, aC (cs 0) (am 1) 96 mpillar, aC (cs 0) (am 2) 12 mshut, aC (cs 0) (am 3) 96 mpk, aC (cs 0) (am 4) 96 mpf, aC (cs 0) (am 5) 96 mpn, aC (cs 0) (am 6) 96 mpr, aC (cs 0) (am 7) 96 mleft, aC (cs 0) (am 8) 96 mright, aC (cs 0) (am 9) 96 mtop, aC (cs 0) (am 10) 96 mbottom, aC (cs 0) (am 11) 96 mat, aC (cs 0) (am 12) 100 mrw, aC (cs 0) (am 13) 100 mrh, aC (cs 0) (am 14) 100 mrp, aC (cs 0) (am 15) 20 mcf, aC (cs 0) (am 16) 20 mcn, aC (cs 0) (am 17) 8 mdry] [(0, .ref (am 0)), (1, .int (iI x)), (2, .int (iI y))] 18 [.int (iI z15)]
      refine v_if_ne hC 38 21 dX8_isSame_18 (by decide) rfl (by omega) (fun c_18 => ?_) (fun c_18 => ?_)
      · skip
        refine v_iconst hC 39 dX8_isSame_38 rfl ?_
        exact v_zret hC hQ () [0, 1, 2, 3, 4, 5, 6, 7, 8, 9, 10, 11, 12, 13, 14, 15, 16, 17] dX8_isSame_39 (by omega) rfl rfl ⟨by decide, by decide⟩ ⟨by (try dsimp only); all_goals (omega), by (try dsimp only); all_goals (first | exact ⟨fun _ => Or.inl c_2, fun _ => rfl⟩ | exact ⟨fun h => absurd h (by decide), fun h => by simp only [sm, egc, egd] at h; omega⟩ | exact ⟨fun _ => (by simp only [sm, egc, egd]; omega), fun _ => rfl⟩)⟩
      · skip
        refine v_aload_n hC 22 0 dX8_isSame_21 rfl rfl rfl ?_
        refine v_iload_n hC 23 1 dX8_isSame_22 rfl rfl rfl ?_
        refine v_callVi hC 26 1 [0, 1, 2, 3, 4, 5, 6, 7, 8, 9, 10, 11, 12, 13, 14, 15, 16, 17] [] [] (As := [.int (iI x)]) (rest := []) (c_X8_tileOf lx D cs am mwide mhigh mborder mpattern mdoor mpieces mtiles mrests mcrates mmoves manyLaid mgrout mhour mthrown mpillar mshut mpk mpf mpn mpr mleft mright mtop mbottom mat mrw mrh mrp mcf mcn mdry x (by omega) (by omega) (by omega) (by omega) (by omega) (by omega)) dX8_isSame_23 rfl rfl 0 rfl rfl gX8_isSame_X8_tileOf rfl rfl rfl (by decide +kernel) ⟨by decide, by decide⟩ rfl rfl rfl rfl (by decide) rfl (Nat.le_of_ble_eq_true rfl) ⟨rfl, rfl⟩ ⟨by decide, by decide⟩ (fun z23 u23 h23 => ?_)
        (try dsimp only at h23)
        subst h23
        show V p9 lx e9 ({ frames := 2, cells := 0, slots := 0, locals := 47 }) s9 m9 ar9 be9 me9 c9 Q9 D A9 s9.heap 3 0 0 [oM am mwide mhigh mborder mpattern mdoor mpieces mtiles mrests mcrates mmoves manyLaid mgrout mhour mthrown, aC (cs 0) (am 1) 96 mpillar, aC (cs 0) (am 2) 12 mshut, aC (cs 0) (am 3) 96 mpk, aC (cs 0) (am 4) 96 mpf, aC (cs 0) (am 5) 96 mpn, aC (cs 0) (am 6) 96 mpr, aC (cs 0) (am 7) 96 mleft, aC (cs 0) (am 8) 96 mright, aC (cs 0) (am 9) 96 mtop, aC (cs 0) (am 10) 96 mbottom, aC (cs 0) (am 11) 96 mat, aC (cs 0) (am 12) 100 mrw, aC (cs 0) (am 13) 100 mrh, aC (cs 0) (am 14) 100 mrp, aC (cs 0) (am 15) 20 mcf, aC (cs 0) (am 16) 20 mcn, aC (cs 0) (am 17) 8 mdry] [(0, .ref (am 0)), (1, .int (iI x)), (2, .int (iI y))] 26 [.int (iI (tlN mwide mhigh mborder mpattern x))]
        refine v_aload_n hC 27 0 dX8_isSame_26 rfl rfl rfl ?_
        refine v_iload_n hC 28 2 dX8_isSame_27 rfl rfl rfl ?_
        refine v_callVi hC 31 1 [0, 1, 2, 3, 4, 5, 6, 7, 8, 9, 10, 11, 12, 13, 14, 15, 16, 17] [] [] (As := [.int (iI y)]) (rest := [.int (iI (tlN mwide mhigh mborder mpattern x))]) (c_X8_tileOf lx D cs am mwide mhigh mborder mpattern mdoor mpieces mtiles mrests mcrates mmoves manyLaid mgrout mhour mthrown mpillar mshut mpk mpf mpn mpr mleft mright mtop mbottom mat mrw mrh mrp mcf mcn mdry y (by omega) (by omega) (by omega) (by omega) (by omega) (by omega)) dX8_isSame_28 rfl rfl 0 rfl rfl gX8_isSame_X8_tileOf rfl rfl rfl (by decide +kernel) ⟨by decide, by decide⟩ rfl rfl rfl rfl (by decide) rfl (Nat.le_of_ble_eq_true rfl) ⟨rfl, rfl⟩ ⟨by decide, by decide⟩ (fun z28 u28 h28 => ?_)
        (try dsimp only at h28)
        subst h28
        show V p9 lx e9 ({ frames := 2, cells := 0, slots := 0, locals := 47 }) s9 m9 ar9 be9 me9 c9 Q9 D A9 s9.heap 3 0 0 [oM am mwide mhigh mborder mpattern mdoor mpieces mtiles mrests mcrates mmoves manyLaid mgrout mhour mthrown, aC (cs 0) (am 1) 96 mpillar, aC (cs 0) (am 2) 12 mshut, aC (cs 0) (am 3) 96 mpk, aC (cs 0) (am 4) 96 mpf, aC (cs 0) (am 5) 96 mpn, aC (cs 0) (am 6) 96 mpr, aC (cs 0) (am 7) 96 mleft, aC (cs 0) (am 8) 96 mright, aC (cs 0) (am 9) 96 mtop, aC (cs 0) (am 10) 96 mbottom, aC (cs 0) (am 11) 96 mat, aC (cs 0) (am 12) 100 mrw, aC (cs 0) (am 13) 100 mrh, aC (cs 0) (am 14) 100 mrp, aC (cs 0) (am 15) 20 mcf, aC (cs 0) (am 16) 20 mcn, aC (cs 0) (am 17) 8 mdry] [(0, .ref (am 0)), (1, .int (iI x)), (2, .int (iI y))] 31 [.int (iI (tlN mwide mhigh mborder mpattern y)), .int (iI (tlN mwide mhigh mborder mpattern x))]
        have t1 := tlN_rng (pattern := mpattern) hw hh hb hc (by omega)
        have t2 := tlN_rng (pattern := mpattern) hw hh hb hy (by omega)
        refine v_icmp_ne hC 38 34 dX8_isSame_31 (by decide) rfl (by omega) (by omega) (fun c_31 => ?_) (fun c_31 => ?_)
        · skip
          refine v_iconst hC 39 dX8_isSame_38 rfl ?_
          exact v_zret hC hQ () [0, 1, 2, 3, 4, 5, 6, 7, 8, 9, 10, 11, 12, 13, 14, 15, 16, 17] dX8_isSame_39 (by omega) rfl rfl ⟨by decide, by decide⟩ ⟨by (try dsimp only); all_goals (omega), by (try dsimp only); all_goals (first | exact ⟨fun _ => Or.inl c_2, fun _ => rfl⟩ | exact ⟨fun h => absurd h (by decide), fun h => by simp only [sm, egc, egd] at h; omega⟩ | exact ⟨fun _ => (by simp only [sm, egc, egd]; omega), fun _ => rfl⟩)⟩
        · skip
          refine v_iconst hC 35 dX8_isSame_34 rfl ?_
          refine v_goto hC 39 dX8_isSame_35 (by decide) ?_
          exact v_zret hC hQ () [0, 1, 2, 3, 4, 5, 6, 7, 8, 9, 10, 11, 12, 13, 14, 15, 16, 17] dX8_isSame_39 (by omega) rfl rfl ⟨by decide, by decide⟩ ⟨by (try dsimp only); all_goals (omega), by (try dsimp only); all_goals (first | exact ⟨fun _ => Or.inl c_2, fun _ => rfl⟩ | exact ⟨fun h => absurd h (by decide), fun h => by simp only [sm, egc, egd] at h; omega⟩ | exact ⟨fun _ => (by simp only [sm, egc, egd]; omega), fun _ => rfl⟩)⟩

set_option maxHeartbeats 4000000 in
set_option maxRecDepth 100000 in
theorem c_X8_courses (lx : Launch) (D : va_G) (cs : Nat → ClassId) (am : Nat → Nat) (mwide : Int) (mhigh : Int) (mborder : Int) (mpattern : Int) (mdoor : Int) (mpieces : Int) (mtiles : Int) (mrests : Int) (mcrates : Int) (mmoves : Int) (manyLaid : Int) (mgrout : Int) (mhour : Int) (mthrown : Int) (mpillar : Int → Int) (mshut : Int → Int) (mpk : Int → Int) (mpf : Int → Int) (mpn : Int → Int) (mpr : Int → Int) (mleft : Int → Int) (mright : Int → Int) (mtop : Int → Int) (mbottom : Int → Int) (mat : Int → Int) (mrw : Int → Int) (mrh : Int → Int) (mrp : Int → Int) (mcf : Int → Int) (mcn : Int → Int) (mdry : Int → Int) (hh : 1 ≤ mhigh ∧ mhigh ≤ 4) (hb : 0 ≤ mborder ∧ mborder ≤ 2) : Ci lx D cs yX8_courses wsX8_courses ({ frames := 1, cells := 0, slots := 0, locals := 24 }) [.ref (am 0)] [oM am mwide mhigh mborder mpattern mdoor mpieces mtiles mrests mcrates mmoves manyLaid mgrout mhour mthrown, aC (cs 0) (am 1) 96 mpillar, aC (cs 0) (am 2) 12 mshut, aC (cs 0) (am 3) 96 mpk, aC (cs 0) (am 4) 96 mpf, aC (cs 0) (am 5) 96 mpn, aC (cs 0) (am 6) 96 mpr, aC (cs 0) (am 7) 96 mleft, aC (cs 0) (am 8) 96 mright, aC (cs 0) (am 9) 96 mtop, aC (cs 0) (am 10) 96 mbottom, aC (cs 0) (am 11) 96 mat, aC (cs 0) (am 12) 100 mrw, aC (cs 0) (am 13) 100 mrh, aC (cs 0) (am 14) 100 mrp, aC (cs 0) (am 15) 20 mcf, aC (cs 0) (am 16) 20 mcn, aC (cs 0) (am 17) 8 mdry] (fun (z : Int) (u : Unit) => (z = cC mhigh mborder)) (fun u : Unit => [oM am mwide mhigh mborder mpattern mdoor mpieces mtiles mrests mcrates mmoves manyLaid mgrout mhour mthrown, aC (cs 0) (am 1) 96 mpillar, aC (cs 0) (am 2) 12 mshut, aC (cs 0) (am 3) 96 mpk, aC (cs 0) (am 4) 96 mpf, aC (cs 0) (am 5) 96 mpn, aC (cs 0) (am 6) 96 mpr, aC (cs 0) (am 7) 96 mleft, aC (cs 0) (am 8) 96 mright, aC (cs 0) (am 9) 96 mtop, aC (cs 0) (am 10) 96 mbottom, aC (cs 0) (am 11) 96 mat, aC (cs 0) (am 12) 100 mrw, aC (cs 0) (am 13) 100 mrh, aC (cs 0) (am 14) 100 mrp, aC (cs 0) (am 15) 20 mcf, aC (cs 0) (am 16) 20 mcn, aC (cs 0) (am 17) 8 mdry]) 0 0 := by
  refine Ci_of (cc := cX8_courses) (nL := 1) (ret := (some .int)) (lv0 := [(0, .ref (am 0))]) RX8 "courses" (by decide +kernel) rfl (Nat.le_of_ble_eq_true rfl) rfl (fun p9 e9 s9 m9 ar9 be9 me9 c9 A9 Q9 hQ hC => ?_)
  have iX8 : ∀ w ∈ wsX80, w ∈ wsX8_courses := by decide +kernel
  have L0 : Cond.fieldLink RX8 80 "GroutlineModel" "border" "I" ∈ wsX8_courses := by decide +kernel
  have L1 : Cond.fieldLink RX8 13 "GroutlineModel" "high" "I" ∈ wsX8_courses := by decide +kernel
  refine v_bipush hC 2 dX8_courses_0 rfl rfl ?_
  refine v_iconst hC 3 dX8_courses_2 rfl ?_
  refine v_aload_n hC 4 0 dX8_courses_3 rfl rfl rfl ?_
  refine v_get hC 7 0 2 (C := RX8) (T := TX8) (N := 31) dX8_courses_4 rfl iX8 L0 rfl rfl (by decide) rfl ?_
  refine v_imul hC 8 (2 * mborder) dX8_courses_7 rfl rfl ?_
  refine v_isub hC 9 (8 - (2 * mborder)) dX8_courses_8 rfl rfl ?_
  refine v_aload_n hC 10 0 dX8_courses_9 rfl rfl rfl ?_
  refine v_get hC 13 0 1 (C := RX8) (T := TX8) (N := 31) dX8_courses_10 rfl iX8 L1 rfl rfl (by decide) rfl ?_
  refine v_iadd hC 14 (8 - (2 * mborder) + mhigh) dX8_courses_13 rfl rfl ?_
  refine v_iconst hC 15 dX8_courses_14 rfl ?_
  refine v_isub hC 16 (8 - (2 * mborder) + mhigh - 1) dX8_courses_15 rfl rfl ?_
  refine v_aload_n hC 17 0 dX8_courses_16 rfl rfl rfl ?_
  refine v_get hC 20 0 1 (C := RX8) (T := TX8) (N := 31) dX8_courses_17 rfl iX8 L1 rfl rfl (by decide) rfl ?_
  refine v_idiv hC 21 ((8 - (2 * mborder) + mhigh - 1) / mhigh) dX8_courses_20 rfl (by omega) (by omega) rfl ?_
  exact v_iret hC hQ () [0, 1, 2, 3, 4, 5, 6, 7, 8, 9, 10, 11, 12, 13, 14, 15, 16, 17] dX8_courses_21 rfl rfl ⟨by decide, by decide⟩ (by (try dsimp only); all_goals (exact cC_alt hh))

set_option maxHeartbeats 4000000 in
set_option maxRecDepth 100000 in
theorem c_X8_stripCount (lx : Launch) (D : va_G) (cs : Nat → ClassId) (am : Nat → Nat) (mwide : Int) (mhigh : Int) (mborder : Int) (mpattern : Int) (mdoor : Int) (mpieces : Int) (mtiles : Int) (mrests : Int) (mcrates : Int) (mmoves : Int) (manyLaid : Int) (mgrout : Int) (mhour : Int) (mthrown : Int) (mpillar : Int → Int) (mshut : Int → Int) (mpk : Int → Int) (mpf : Int → Int) (mpn : Int → Int) (mpr : Int → Int) (mleft : Int → Int) (mright : Int → Int) (mtop : Int → Int) (mbottom : Int → Int) (mat : Int → Int) (mrw : Int → Int) (mrh : Int → Int) (mrp : Int → Int) (mcf : Int → Int) (mcn : Int → Int) (mdry : Int → Int) (hh : 1 ≤ mhigh ∧ mhigh ≤ 4) (hb : 0 ≤ mborder ∧ mborder ≤ 2) : Ci lx D cs yX8_stripCount wsX8_stripCount ({ frames := 2, cells := 0, slots := 0, locals := 44 }) [.ref (am 0)] [oM am mwide mhigh mborder mpattern mdoor mpieces mtiles mrests mcrates mmoves manyLaid mgrout mhour mthrown, aC (cs 0) (am 1) 96 mpillar, aC (cs 0) (am 2) 12 mshut, aC (cs 0) (am 3) 96 mpk, aC (cs 0) (am 4) 96 mpf, aC (cs 0) (am 5) 96 mpn, aC (cs 0) (am 6) 96 mpr, aC (cs 0) (am 7) 96 mleft, aC (cs 0) (am 8) 96 mright, aC (cs 0) (am 9) 96 mtop, aC (cs 0) (am 10) 96 mbottom, aC (cs 0) (am 11) 96 mat, aC (cs 0) (am 12) 100 mrw, aC (cs 0) (am 13) 100 mrh, aC (cs 0) (am 14) 100 mrp, aC (cs 0) (am 15) 20 mcf, aC (cs 0) (am 16) 20 mcn, aC (cs 0) (am 17) 8 mdry] (fun (z : Int) (u : Unit) => (z = nS mhigh mborder)) (fun u : Unit => [oM am mwide mhigh mborder mpattern mdoor mpieces mtiles mrests mcrates mmoves manyLaid mgrout mhour mthrown, aC (cs 0) (am 1) 96 mpillar, aC (cs 0) (am 2) 12 mshut, aC (cs 0) (am 3) 96 mpk, aC (cs 0) (am 4) 96 mpf, aC (cs 0) (am 5) 96 mpn, aC (cs 0) (am 6) 96 mpr, aC (cs 0) (am 7) 96 mleft, aC (cs 0) (am 8) 96 mright, aC (cs 0) (am 9) 96 mtop, aC (cs 0) (am 10) 96 mbottom, aC (cs 0) (am 11) 96 mat, aC (cs 0) (am 12) 100 mrw, aC (cs 0) (am 13) 100 mrh, aC (cs 0) (am 14) 100 mrp, aC (cs 0) (am 15) 20 mcf, aC (cs 0) (am 16) 20 mcn, aC (cs 0) (am 17) 8 mdry]) 0 0 := by
  refine Ci_of (cc := cX8_stripCount) (nL := 1) (ret := (some .int)) (lv0 := [(0, .ref (am 0))]) RX8 "stripCount" (by decide +kernel) rfl (Nat.le_of_ble_eq_true rfl) rfl (fun p9 e9 s9 m9 ar9 be9 me9 c9 A9 Q9 hQ hC => ?_)
  have iX8 : ∀ w ∈ wsX80, w ∈ wsX8_stripCount := by decide +kernel
  have L0 : Cond.fieldLink RX8 80 "GroutlineModel" "border" "I" ∈ wsX8_stripCount := by decide +kernel
  refine v_iconst hC 1 dX8_stripCount_0 rfl ?_
  refine v_aload_n hC 2 0 dX8_stripCount_1 rfl rfl rfl ?_
  refine v_get hC 5 0 2 (C := RX8) (T := TX8) (N := 31) dX8_stripCount_2 rfl iX8 L0 rfl rfl (by decide) rfl ?_
  refine v_imul hC 6 (2 * mborder) dX8_stripCount_5 rfl rfl ?_
  refine v_aload_n hC 7 0 dX8_stripCount_6 rfl rfl rfl ?_
  refine v_callVi hC 10 0 [0, 1, 2, 3, 4, 5, 6, 7, 8, 9, 10, 11, 12, 13, 14, 15, 16, 17] [] [] (As := []) (rest := [.int (iI (2 * mborder))]) (c_X8_courses lx D cs am mwide mhigh mborder mpattern mdoor mpieces mtiles mrests mcrates mmoves manyLaid mgrout mhour mthrown mpillar mshut mpk mpf mpn mpr mleft mright mtop mbottom mat mrw mrh mrp mcf mcn mdry (by omega) (by omega)) dX8_stripCount_7 rfl rfl 0 rfl rfl gX8_stripCount_X8_courses rfl rfl rfl (by decide +kernel) ⟨by decide, by decide⟩ rfl rfl rfl rfl (by decide) rfl (Nat.le_of_ble_eq_true rfl) ⟨rfl, rfl⟩ ⟨by decide, by decide⟩ (fun z7 u7 h7 => ?_)
  (try dsimp only at h7)
  subst h7
  show V p9 lx e9 ({ frames := 2, cells := 0, slots := 0, locals := 44 }) s9 m9 ar9 be9 me9 c9 Q9 D A9 s9.heap 1 0 0 [oM am mwide mhigh mborder mpattern mdoor mpieces mtiles mrests mcrates mmoves manyLaid mgrout mhour mthrown, aC (cs 0) (am 1) 96 mpillar, aC (cs 0) (am 2) 12 mshut, aC (cs 0) (am 3) 96 mpk, aC (cs 0) (am 4) 96 mpf, aC (cs 0) (am 5) 96 mpn, aC (cs 0) (am 6) 96 mpr, aC (cs 0) (am 7) 96 mleft, aC (cs 0) (am 8) 96 mright, aC (cs 0) (am 9) 96 mtop, aC (cs 0) (am 10) 96 mbottom, aC (cs 0) (am 11) 96 mat, aC (cs 0) (am 12) 100 mrw, aC (cs 0) (am 13) 100 mrh, aC (cs 0) (am 14) 100 mrp, aC (cs 0) (am 15) 20 mcf, aC (cs 0) (am 16) 20 mcn, aC (cs 0) (am 17) 8 mdry] [(0, .ref (am 0))] 10 [.int (iI (cC mhigh mborder)), .int (iI (2 * mborder))]
  refine v_iadd hC 11 (2 * mborder + (cC mhigh mborder)) dX8_stripCount_10 rfl rfl ?_
  exact v_iret hC hQ () [0, 1, 2, 3, 4, 5, 6, 7, 8, 9, 10, 11, 12, 13, 14, 15, 16, 17] dX8_stripCount_11 rfl rfl ⟨by decide, by decide⟩ (by (try dsimp only); all_goals (rfl))

set_option maxHeartbeats 4000000 in
set_option maxRecDepth 100000 in
theorem c_X8_stripOfRow (lx : Launch) (D : va_G) (cs : Nat → ClassId) (am : Nat → Nat) (mwide : Int) (mhigh : Int) (mborder : Int) (mpattern : Int) (mdoor : Int) (mpieces : Int) (mtiles : Int) (mrests : Int) (mcrates : Int) (mmoves : Int) (manyLaid : Int) (mgrout : Int) (mhour : Int) (mthrown : Int) (mpillar : Int → Int) (mshut : Int → Int) (mpk : Int → Int) (mpf : Int → Int) (mpn : Int → Int) (mpr : Int → Int) (mleft : Int → Int) (mright : Int → Int) (mtop : Int → Int) (mbottom : Int → Int) (mat : Int → Int) (mrw : Int → Int) (mrh : Int → Int) (mrp : Int → Int) (mcf : Int → Int) (mcn : Int → Int) (mdry : Int → Int) (y : Int) (hh : 1 ≤ mhigh ∧ mhigh ≤ 4) (hb : 0 ≤ mborder ∧ mborder ≤ 2) (hy : 0 ≤ y ∧ y < 8) : Ci lx D cs yX8_stripOfRow wsX8_stripOfRow ({ frames := 2, cells := 0, slots := 0, locals := 44 }) [.ref (am 0), .int (iI y)] [oM am mwide mhigh mborder mpattern mdoor mpieces mtiles mrests mcrates mmoves manyLaid mgrout mhour mthrown, aC (cs 0) (am 1) 96 mpillar, aC (cs 0) (am 2) 12 mshut, aC (cs 0) (am 3) 96 mpk, aC (cs 0) (am 4) 96 mpf, aC (cs 0) (am 5) 96 mpn, aC (cs 0) (am 6) 96 mpr, aC (cs 0) (am 7) 96 mleft, aC (cs 0) (am 8) 96 mright, aC (cs 0) (am 9) 96 mtop, aC (cs 0) (am 10) 96 mbottom, aC (cs 0) (am 11) 96 mat, aC (cs 0) (am 12) 100 mrw, aC (cs 0) (am 13) 100 mrh, aC (cs 0) (am 14) 100 mrp, aC (cs 0) (am 15) 20 mcf, aC (cs 0) (am 16) 20 mcn, aC (cs 0) (am 17) 8 mdry] (fun (z : Int) (u : Unit) => (z = sR mhigh mborder y)) (fun u : Unit => [oM am mwide mhigh mborder mpattern mdoor mpieces mtiles mrests mcrates mmoves manyLaid mgrout mhour mthrown, aC (cs 0) (am 1) 96 mpillar, aC (cs 0) (am 2) 12 mshut, aC (cs 0) (am 3) 96 mpk, aC (cs 0) (am 4) 96 mpf, aC (cs 0) (am 5) 96 mpn, aC (cs 0) (am 6) 96 mpr, aC (cs 0) (am 7) 96 mleft, aC (cs 0) (am 8) 96 mright, aC (cs 0) (am 9) 96 mtop, aC (cs 0) (am 10) 96 mbottom, aC (cs 0) (am 11) 96 mat, aC (cs 0) (am 12) 100 mrw, aC (cs 0) (am 13) 100 mrh, aC (cs 0) (am 14) 100 mrp, aC (cs 0) (am 15) 20 mcf, aC (cs 0) (am 16) 20 mcn, aC (cs 0) (am 17) 8 mdry]) 0 0 := by
  refine Ci_of (cc := cX8_stripOfRow) (nL := 2) (ret := (some .int)) (lv0 := [(0, .ref (am 0)), (1, .int (iI y))]) RX8 "stripOfRow" (by decide +kernel) rfl (Nat.le_of_ble_eq_true rfl) rfl (fun p9 e9 s9 m9 ar9 be9 me9 c9 A9 Q9 hQ hC => ?_)
  have hn9 := cC_rng hh hb
  have iX8 : ∀ w ∈ wsX80, w ∈ wsX8_stripOfRow := by decide +kernel
  have L0 : Cond.fieldLink RX8 80 "GroutlineModel" "border" "I" ∈ wsX8_stripOfRow := by decide +kernel
  have L1 : Cond.fieldLink RX8 13 "GroutlineModel" "high" "I" ∈ wsX8_stripOfRow := by decide +kernel
  refine v_iload_n hC 1 1 dX8_stripOfRow_0 rfl rfl rfl ?_
  refine v_aload_n hC 2 0 dX8_stripOfRow_1 rfl rfl rfl ?_
  refine v_get hC 5 0 2 (C := RX8) (T := TX8) (N := 31) dX8_stripOfRow_2 rfl iX8 L0 rfl rfl (by decide) rfl ?_
  refine v_icmp_ge hC 10 8 dX8_stripOfRow_5 (by decide) rfl (by omega) (by omega) (fun c_5 => ?_) (fun c_5 => ?_)
  · skip
    refine v_iload_n hC 11 1 dX8_stripOfRow_10 rfl rfl rfl ?_
    refine v_bipush hC 13 dX8_stripOfRow_11 rfl rfl ?_
    refine v_aload_n hC 14 0 dX8_stripOfRow_13 rfl rfl rfl ?_
    refine v_get hC 17 0 2 (C := RX8) (T := TX8) (N := 31) dX8_stripOfRow_14 rfl iX8 L0 rfl rfl (by decide) rfl ?_
    refine v_isub hC 18 (8 - mborder) dX8_stripOfRow_17 rfl rfl ?_
    refine v_icmp_lt hC 43 21 dX8_stripOfRow_18 (by decide) rfl (by omega) (by omega) (fun c_18 => ?_) (fun c_18 => ?_)
    · skip
      refine v_aload_n hC 44 0 dX8_stripOfRow_43 rfl rfl rfl ?_
      refine v_get hC 47 0 2 (C := RX8) (T := TX8) (N := 31) dX8_stripOfRow_44 rfl iX8 L0 rfl rfl (by decide) rfl ?_
      refine v_iload_n hC 48 1 dX8_stripOfRow_47 rfl rfl rfl ?_
      refine v_aload_n hC 49 0 dX8_stripOfRow_48 rfl rfl rfl ?_
      refine v_get hC 52 0 2 (C := RX8) (T := TX8) (N := 31) dX8_stripOfRow_49 rfl iX8 L0 rfl rfl (by decide) rfl ?_
      refine v_isub hC 53 (y - mborder) dX8_stripOfRow_52 rfl rfl ?_
      refine v_aload_n hC 54 0 dX8_stripOfRow_53 rfl rfl rfl ?_
      refine v_get hC 57 0 1 (C := RX8) (T := TX8) (N := 31) dX8_stripOfRow_54 rfl iX8 L1 rfl rfl (by decide) rfl ?_
      refine v_idiv hC 58 ((y - mborder) / mhigh) dX8_stripOfRow_57 rfl (by omega) (by omega) rfl ?_
      refine v_iadd hC 59 (mborder + ((y - mborder) / mhigh)) dX8_stripOfRow_58 rfl rfl ?_
      exact v_iret hC hQ () [0, 1, 2, 3, 4, 5, 6, 7, 8, 9, 10, 11, 12, 13, 14, 15, 16, 17] dX8_stripOfRow_59 rfl rfl ⟨by decide, by decide⟩ (by (try dsimp only); all_goals (unfold sR; (first | (rw [if_pos (by omega)]; done) | (rw [if_neg (by omega), if_pos (by omega)]; done) | (rw [if_neg (by omega), if_neg (by omega)]; done))))
    · skip
      refine v_aload_n hC 22 0 dX8_stripOfRow_21 rfl rfl rfl ?_
      refine v_get hC 25 0 2 (C := RX8) (T := TX8) (N := 31) dX8_stripOfRow_22 rfl iX8 L0 rfl rfl (by decide) rfl ?_
      refine v_aload_n hC 26 0 dX8_stripOfRow_25 rfl rfl rfl ?_
      refine v_callVi hC 29 0 [0, 1, 2, 3, 4, 5, 6, 7, 8, 9, 10, 11, 12, 13, 14, 15, 16, 17] [] [] (As := []) (rest := [.int (iI mborder)]) (c_X8_courses lx D cs am mwide mhigh mborder mpattern mdoor mpieces mtiles mrests mcrates mmoves manyLaid mgrout mhour mthrown mpillar mshut mpk mpf mpn mpr mleft mright mtop mbottom mat mrw mrh mrp mcf mcn mdry (by omega) (by omega)) dX8_stripOfRow_26 rfl rfl 0 rfl rfl gX8_stripOfRow_X8_courses rfl rfl rfl (by decide +kernel) ⟨by decide, by decide⟩ rfl rfl rfl rfl (by decide) rfl (Nat.le_of_ble_eq_true rfl) ⟨rfl, rfl⟩ ⟨by decide, by decide⟩ (fun z26 u26 h26 => ?_)
      (try dsimp only at h26)
      subst h26
      show V p9 lx e9 ({ frames := 2, cells := 0, slots := 0, locals := 44 }) s9 m9 ar9 be9 me9 c9 Q9 D A9 s9.heap 2 0 0 [oM am mwide mhigh mborder mpattern mdoor mpieces mtiles mrests mcrates mmoves manyLaid mgrout mhour mthrown, aC (cs 0) (am 1) 96 mpillar, aC (cs 0) (am 2) 12 mshut, aC (cs 0) (am 3) 96 mpk, aC (cs 0) (am 4) 96 mpf, aC (cs 0) (am 5) 96 mpn, aC (cs 0) (am 6) 96 mpr, aC (cs 0) (am 7) 96 mleft, aC (cs 0) (am 8) 96 mright, aC (cs 0) (am 9) 96 mtop, aC (cs 0) (am 10) 96 mbottom, aC (cs 0) (am 11) 96 mat, aC (cs 0) (am 12) 100 mrw, aC (cs 0) (am 13) 100 mrh, aC (cs 0) (am 14) 100 mrp, aC (cs 0) (am 15) 20 mcf, aC (cs 0) (am 16) 20 mcn, aC (cs 0) (am 17) 8 mdry] [(0, .ref (am 0)), (1, .int (iI y))] 29 [.int (iI (cC mhigh mborder)), .int (iI mborder)]
      refine v_iadd hC 30 (mborder + (cC mhigh mborder)) dX8_stripOfRow_29 rfl rfl ?_
      refine v_iload_n hC 31 1 dX8_stripOfRow_30 rfl rfl rfl ?_
      refine v_iadd hC 32 (mborder + (cC mhigh mborder) + y) dX8_stripOfRow_31 rfl rfl ?_
      refine v_bipush hC 34 dX8_stripOfRow_32 rfl rfl ?_
      refine v_aload_n hC 35 0 dX8_stripOfRow_34 rfl rfl rfl ?_
      refine v_get hC 38 0 2 (C := RX8) (T := TX8) (N := 31) dX8_stripOfRow_35 rfl iX8 L0 rfl rfl (by decide) rfl ?_
      refine v_isub hC 39 (8 - mborder) dX8_stripOfRow_38 rfl rfl ?_
      refine v_isub hC 40 (mborder + (cC mhigh mborder) + y - (8 - mborder)) dX8_stripOfRow_39 rfl rfl ?_
      refine v_goto hC 59 dX8_stripOfRow_40 (by decide) ?_
      exact v_iret hC hQ () [0, 1, 2, 3, 4, 5, 6, 7, 8, 9, 10, 11, 12, 13, 14, 15, 16, 17] dX8_stripOfRow_59 rfl rfl ⟨by decide, by decide⟩ (by (try dsimp only); all_goals (unfold sR; (first | (rw [if_pos (by omega)]; done) | (rw [if_neg (by omega), if_pos (by omega)]; done) | (rw [if_neg (by omega), if_neg (by omega)]; done))))
  · skip
    refine v_iload_n hC 9 1 dX8_stripOfRow_8 rfl rfl rfl ?_
    exact v_iret hC hQ () [0, 1, 2, 3, 4, 5, 6, 7, 8, 9, 10, 11, 12, 13, 14, 15, 16, 17] dX8_stripOfRow_9 rfl rfl ⟨by decide, by decide⟩ (by (try dsimp only); all_goals (unfold sR; (first | (rw [if_pos (by omega)]; done) | (rw [if_neg (by omega), if_pos (by omega)]; done) | (rw [if_neg (by omega), if_neg (by omega)]; done))))

set_option maxHeartbeats 4000000 in
set_option maxRecDepth 100000 in
theorem c_X8_isStrip (lx : Launch) (D : va_G) (cs : Nat → ClassId) (am : Nat → Nat) (mwide : Int) (mhigh : Int) (mborder : Int) (mpattern : Int) (mdoor : Int) (mpieces : Int) (mtiles : Int) (mrests : Int) (mcrates : Int) (mmoves : Int) (manyLaid : Int) (mgrout : Int) (mhour : Int) (mthrown : Int) (mpillar : Int → Int) (mshut : Int → Int) (mpk : Int → Int) (mpf : Int → Int) (mpn : Int → Int) (mpr : Int → Int) (mleft : Int → Int) (mright : Int → Int) (mtop : Int → Int) (mbottom : Int → Int) (mat : Int → Int) (mrw : Int → Int) (mrh : Int → Int) (mrp : Int → Int) (mcf : Int → Int) (mcn : Int → Int) (mdry : Int → Int) (x : Int) (hh : 1 ≤ mhigh ∧ mhigh ≤ 4) (hb : 0 ≤ mborder ∧ mborder ≤ 2) (hx : -2147483648 ≤ x ∧ x < 2147483648) : Ci lx D cs yX8_isStrip wsX8_isStrip ({ frames := 3, cells := 0, slots := 0, locals := 64 }) [.ref (am 0), .int (iI x)] [oM am mwide mhigh mborder mpattern mdoor mpieces mtiles mrests mcrates mmoves manyLaid mgrout mhour mthrown, aC (cs 0) (am 1) 96 mpillar, aC (cs 0) (am 2) 12 mshut, aC (cs 0) (am 3) 96 mpk, aC (cs 0) (am 4) 96 mpf, aC (cs 0) (am 5) 96 mpn, aC (cs 0) (am 6) 96 mpr, aC (cs 0) (am 7) 96 mleft, aC (cs 0) (am 8) 96 mright, aC (cs 0) (am 9) 96 mtop, aC (cs 0) (am 10) 96 mbottom, aC (cs 0) (am 11) 96 mat, aC (cs 0) (am 12) 100 mrw, aC (cs 0) (am 13) 100 mrh, aC (cs 0) (am 14) 100 mrp, aC (cs 0) (am 15) 20 mcf, aC (cs 0) (am 16) 20 mcn, aC (cs 0) (am 17) 8 mdry] (fun (z : Int) (u : Unit) => (z = 0 ∨ z = 1) ∧ (z = 1 ↔ 0 ≤ x ∧ x < nS mhigh mborder)) (fun u : Unit => [oM am mwide mhigh mborder mpattern mdoor mpieces mtiles mrests mcrates mmoves manyLaid mgrout mhour mthrown, aC (cs 0) (am 1) 96 mpillar, aC (cs 0) (am 2) 12 mshut, aC (cs 0) (am 3) 96 mpk, aC (cs 0) (am 4) 96 mpf, aC (cs 0) (am 5) 96 mpn, aC (cs 0) (am 6) 96 mpr, aC (cs 0) (am 7) 96 mleft, aC (cs 0) (am 8) 96 mright, aC (cs 0) (am 9) 96 mtop, aC (cs 0) (am 10) 96 mbottom, aC (cs 0) (am 11) 96 mat, aC (cs 0) (am 12) 100 mrw, aC (cs 0) (am 13) 100 mrh, aC (cs 0) (am 14) 100 mrp, aC (cs 0) (am 15) 20 mcf, aC (cs 0) (am 16) 20 mcn, aC (cs 0) (am 17) 8 mdry]) 0 0 := by
  refine Ci_of (cc := cX8_isStrip) (nL := 2) (ret := (some .boolean)) (lv0 := [(0, .ref (am 0)), (1, .int (iI x))]) RX8 "isStrip" (by decide +kernel) rfl (Nat.le_of_ble_eq_true rfl) rfl (fun p9 e9 s9 m9 ar9 be9 me9 c9 A9 Q9 hQ hC => ?_)
  have hn9 := nS_rng hh hb
  refine v_aload_n hC 1 0 dX8_isStrip_0 rfl rfl rfl ?_
  refine v_iload_n hC 2 1 dX8_isStrip_1 rfl rfl rfl ?_
  refine v_iconst hC 3 dX8_isStrip_2 rfl ?_
  refine v_aload_n hC 4 0 dX8_isStrip_3 rfl rfl rfl ?_
  refine v_callVi hC 7 0 [0, 1, 2, 3, 4, 5, 6, 7, 8, 9, 10, 11, 12, 13, 14, 15, 16, 17] [] [] (As := []) (rest := [.int (iI 0), .int (iI x), .ref (am 0)]) (c_X8_stripCount lx D cs am mwide mhigh mborder mpattern mdoor mpieces mtiles mrests mcrates mmoves manyLaid mgrout mhour mthrown mpillar mshut mpk mpf mpn mpr mleft mright mtop mbottom mat mrw mrh mrp mcf mcn mdry (by omega) (by omega)) dX8_isStrip_4 rfl rfl 0 rfl rfl gX8_isStrip_X8_stripCount rfl rfl rfl (by decide +kernel) ⟨by decide, by decide⟩ rfl rfl rfl rfl (by decide) rfl (Nat.le_of_ble_eq_true rfl) ⟨rfl, rfl⟩ ⟨by decide, by decide⟩ (fun z4 u4 h4 => ?_)
  (try dsimp only at h4)
  subst h4
  show V p9 lx e9 ({ frames := 3, cells := 0, slots := 0, locals := 64 }) s9 m9 ar9 be9 me9 c9 Q9 D A9 s9.heap 2 0 0 [oM am mwide mhigh mborder mpattern mdoor mpieces mtiles mrests mcrates mmoves manyLaid mgrout mhour mthrown, aC (cs 0) (am 1) 96 mpillar, aC (cs 0) (am 2) 12 mshut, aC (cs 0) (am 3) 96 mpk, aC (cs 0) (am 4) 96 mpf, aC (cs 0) (am 5) 96 mpn, aC (cs 0) (am 6) 96 mpr, aC (cs 0) (am 7) 96 mleft, aC (cs 0) (am 8) 96 mright, aC (cs 0) (am 9) 96 mtop, aC (cs 0) (am 10) 96 mbottom, aC (cs 0) (am 11) 96 mat, aC (cs 0) (am 12) 100 mrw, aC (cs 0) (am 13) 100 mrh, aC (cs 0) (am 14) 100 mrp, aC (cs 0) (am 15) 20 mcf, aC (cs 0) (am 16) 20 mcn, aC (cs 0) (am 17) 8 mdry] [(0, .ref (am 0)), (1, .int (iI x))] 7 [.int (iI (nS mhigh mborder)), .int (iI 0), .int (iI x), .ref (am 0)]
  refine v_iconst hC 8 dX8_isStrip_7 rfl ?_
  refine v_isub hC 9 (nS mhigh mborder - 1) dX8_isStrip_8 rfl rfl ?_
  refine v_callVi hC 12 3 [0, 1, 2, 3, 4, 5, 6, 7, 8, 9, 10, 11, 12, 13, 14, 15, 16, 17] [] [] (As := [.int (iI x), .int (iI 0), .int (iI (nS mhigh mborder - 1))]) (rest := []) (c_X8_in lx D cs am mwide mhigh mborder mpattern mdoor mpieces mtiles mrests mcrates mmoves manyLaid mgrout mhour mthrown mpillar mshut mpk mpf mpn mpr mleft mright mtop mbottom mat mrw mrh mrp mcf mcn mdry x 0 (nS mhigh mborder - 1) (by omega) (by omega) (by omega)) dX8_isStrip_9 rfl rfl 0 rfl rfl gX8_isStrip_X8_in rfl rfl rfl (by decide +kernel) ⟨by decide, by decide⟩ rfl rfl rfl rfl (by decide) rfl (Nat.le_of_ble_eq_true rfl) ⟨rfl, rfl⟩ ⟨by decide, by decide⟩ (fun z9 u9 h9 => ?_)
  (try dsimp only at h9)
  obtain ⟨h9_1, h9_2⟩ := h9
  show V p9 lx e9 ({ frames := 3, cells := 0, slots := 0, locals := 64 }) s9 m9 ar9 be9 me9 c9 Q9 D A9 s9.heap 2 0 0 [oM am mwide mhigh mborder mpattern mdoor mpieces mtiles mrests mcrates mmoves manyLaid mgrout mhour mthrown, aC (cs 0) (am 1) 96 mpillar, aC (cs 0) (am 2) 12 mshut, aC (cs 0) (am 3) 96 mpk, aC (cs 0) (am 4) 96 mpf, aC (cs 0) (am 5) 96 mpn, aC (cs 0) (am 6) 96 mpr, aC (cs 0) (am 7) 96 mleft, aC (cs 0) (am 8) 96 mright, aC (cs 0) (am 9) 96 mtop, aC (cs 0) (am 10) 96 mbottom, aC (cs 0) (am 11) 96 mat, aC (cs 0) (am 12) 100 mrw, aC (cs 0) (am 13) 100 mrh, aC (cs 0) (am 14) 100 mrp, aC (cs 0) (am 15) 20 mcf, aC (cs 0) (am 16) 20 mcn, aC (cs 0) (am 17) 8 mdry] [(0, .ref (am 0)), (1, .int (iI x))] 12 [.int (iI z9)]
  exact v_zret hC hQ () [0, 1, 2, 3, 4, 5, 6, 7, 8, 9, 10, 11, 12, 13, 14, 15, 16, 17] dX8_isStrip_12 (by omega) rfl rfl ⟨by decide, by decide⟩ ⟨by (try dsimp only); all_goals (omega), by (try dsimp only); all_goals (omega)⟩

set_option maxHeartbeats 4000000 in
set_option maxRecDepth 100000 in
theorem c_X8_isWet (lx : Launch) (D : va_G) (cs : Nat → ClassId) (am : Nat → Nat) (mwide : Int) (mhigh : Int) (mborder : Int) (mpattern : Int) (mdoor : Int) (mpieces : Int) (mtiles : Int) (mrests : Int) (mcrates : Int) (mmoves : Int) (manyLaid : Int) (mgrout : Int) (mhour : Int) (mthrown : Int) (mpillar : Int → Int) (mshut : Int → Int) (mpk : Int → Int) (mpf : Int → Int) (mpn : Int → Int) (mpr : Int → Int) (mleft : Int → Int) (mright : Int → Int) (mtop : Int → Int) (mbottom : Int → Int) (mat : Int → Int) (mrw : Int → Int) (mrh : Int → Int) (mrp : Int → Int) (mcf : Int → Int) (mcn : Int → Int) (mdry : Int → Int) (x : Int) (hx : 0 ≤ x ∧ x < 8) (hdry : Rn mdry (-1) 1000000) (hhr : 0 ≤ mhour ∧ mhour ≤ 1000000) : Ci lx D cs yX8_isWet wsX8_isWet ({ frames := 1, cells := 0, slots := 0, locals := 24 }) [.ref (am 0), .int (iI x)] [oM am mwide mhigh mborder mpattern mdoor mpieces mtiles mrests mcrates mmoves manyLaid mgrout mhour mthrown, aC (cs 0) (am 1) 96 mpillar, aC (cs 0) (am 2) 12 mshut, aC (cs 0) (am 3) 96 mpk, aC (cs 0) (am 4) 96 mpf, aC (cs 0) (am 5) 96 mpn, aC (cs 0) (am 6) 96 mpr, aC (cs 0) (am 7) 96 mleft, aC (cs 0) (am 8) 96 mright, aC (cs 0) (am 9) 96 mtop, aC (cs 0) (am 10) 96 mbottom, aC (cs 0) (am 11) 96 mat, aC (cs 0) (am 12) 100 mrw, aC (cs 0) (am 13) 100 mrh, aC (cs 0) (am 14) 100 mrp, aC (cs 0) (am 15) 20 mcf, aC (cs 0) (am 16) 20 mcn, aC (cs 0) (am 17) 8 mdry] (fun (z : Int) (u : Unit) => (z = 0 ∨ z = 1) ∧ (z = 1 ↔ ∃ j : Int, (0 ≤ j ∧ j < x) ∧ mhour < mdry j)) (fun u : Unit => [oM am mwide mhigh mborder mpattern mdoor mpieces mtiles mrests mcrates mmoves manyLaid mgrout mhour mthrown, aC (cs 0) (am 1) 96 mpillar, aC (cs 0) (am 2) 12 mshut, aC (cs 0) (am 3) 96 mpk, aC (cs 0) (am 4) 96 mpf, aC (cs 0) (am 5) 96 mpn, aC (cs 0) (am 6) 96 mpr, aC (cs 0) (am 7) 96 mleft, aC (cs 0) (am 8) 96 mright, aC (cs 0) (am 9) 96 mtop, aC (cs 0) (am 10) 96 mbottom, aC (cs 0) (am 11) 96 mat, aC (cs 0) (am 12) 100 mrw, aC (cs 0) (am 13) 100 mrh, aC (cs 0) (am 14) 100 mrp, aC (cs 0) (am 15) 20 mcf, aC (cs 0) (am 16) 20 mcn, aC (cs 0) (am 17) 8 mdry]) 0 0 := by
  refine Ci_of (cc := cX8_isWet) (nL := 4) (ret := (some .boolean)) (lv0 := [(0, .ref (am 0)), (1, .int (iI x))]) RX8 "isWet" (by decide +kernel) rfl (Nat.le_of_ble_eq_true rfl) rfl (fun p9 e9 s9 m9 ar9 be9 me9 c9 A9 Q9 hQ hC => ?_)
  have iX8 : ∀ w ∈ wsX80, w ∈ wsX8_isWet := by decide +kernel
  have L0 : Cond.fieldLink RX8 65 "GroutlineModel" "dry" "[I" ∈ wsX8_isWet := by decide +kernel
  have L1 : Cond.fieldLink RX8 148 "GroutlineModel" "hour" "I" ∈ wsX8_isWet := by decide +kernel
  refine v_iconst hC 1 dX8_isWet_0 rfl ?_
  refine v_istore_n hC 2 [(2, .int (iI 0)), (0, .ref (am 0)), (1, .int (iI x))] dX8_isWet_1 rfl rfl (by decide) rfl ?_
  refine v_iconst hC 3 dX8_isWet_2 rfl ?_
  refine v_istore_n hC 4 [(3, .int (iI 0)), (2, .int (iI 0)), (0, .ref (am 0)), (1, .int (iI x))] dX8_isWet_3 rfl rfl (by decide) rfl ?_
  have cut_4 : ∀ (n : Nat) (wet : Int) (k : Int), (0 ≤ k ∧ k ≤ x) → (wet = 0 ∨ wet = 1) → (wet = 1 ↔ ∃ j : Int, (0 ≤ j ∧ j < k) ∧ mhour < mdry j) → (x - k < (n : Int)) → V p9 lx e9 ({ frames := 1, cells := 0, slots := 0, locals := 24 }) s9 m9 ar9 be9 me9 c9 Q9 D A9 s9.heap 4 0 0 [oM am mwide mhigh mborder mpattern mdoor mpieces mtiles mrests mcrates mmoves manyLaid mgrout mhour mthrown, aC (cs 0) (am 1) 96 mpillar, aC (cs 0) (am 2) 12 mshut, aC (cs 0) (am 3) 96 mpk, aC (cs 0) (am 4) 96 mpf, aC (cs 0) (am 5) 96 mpn, aC (cs 0) (am 6) 96 mpr, aC (cs 0) (am 7) 96 mleft, aC (cs 0) (am 8) 96 mright, aC (cs 0) (am 9) 96 mtop, aC (cs 0) (am 10) 96 mbottom, aC (cs 0) (am 11) 96 mat, aC (cs 0) (am 12) 100 mrw, aC (cs 0) (am 13) 100 mrh, aC (cs 0) (am 14) 100 mrp, aC (cs 0) (am 15) 20 mcf, aC (cs 0) (am 16) 20 mcn, aC (cs 0) (am 17) 8 mdry] [(0, .ref (am 0)), (1, .int (iI x)), (2, .int (iI wet)), (3, .int (iI k))] 4 [] := by
    intro n
    induction n with
    | zero =>
      intro wet k hk hw0 hw1 hn
      exfalso; omega
    | succ n ih =>
      intro wet k hk hw0 hw1 hn
      have ih_4 := ih
      clear ih
      refine v_iload_n hC 5 3 dX8_isWet_4 rfl rfl rfl ?_
      refine v_iload_n hC 6 1 dX8_isWet_5 rfl rfl rfl ?_
      refine v_icmp_ge hC 36 9 dX8_isWet_6 (by decide) rfl (by omega) (by omega) (fun c_6 => ?_) (fun c_6 => ?_)
      · skip
        refine v_iload_n hC 37 2 dX8_isWet_36 rfl rfl rfl ?_
        exact v_zret hC hQ () [0, 1, 2, 3, 4, 5, 6, 7, 8, 9, 10, 11, 12, 13, 14, 15, 16, 17] dX8_isWet_37 (by omega) rfl rfl ⟨by decide, by decide⟩ ⟨by (try dsimp only); all_goals (omega), by (try dsimp only); all_goals (rw [show x = k by omega]; exact hw1)⟩
      · skip
        refine v_iload_n hC 10 2 dX8_isWet_9 rfl rfl rfl ?_
        refine v_aload_n hC 11 0 dX8_isWet_10 rfl rfl rfl ?_
        refine v_get hC 14 0 26 (C := RX8) (T := TX8) (N := 31) dX8_isWet_11 rfl iX8 L0 rfl rfl (by decide) rfl ?_
        refine v_iload_n hC 15 3 dX8_isWet_14 rfl rfl rfl ?_
        refine v_iald hC 16 17 dX8_isWet_15 rfl rfl (by decide) (by omega) ?_
        have r_15 := hdry k
        refine v_aload_n hC 17 0 dX8_isWet_16 rfl rfl rfl ?_
        refine v_get hC 20 0 29 (C := RX8) (T := TX8) (N := 31) dX8_isWet_17 rfl iX8 L1 rfl rfl (by decide) rfl ?_
        refine v_icmp_le hC 27 23 dX8_isWet_20 (by decide) rfl (by omega) (by omega) (fun c_20 => ?_) (fun c_20 => ?_)
        · skip
          refine v_iconst hC 28 dX8_isWet_27 rfl ?_
          refine v_ior01 hC 29 dX8_isWet_28 rfl (by omega) (by omega) ?_
          refine v_istore_n hC 30 [(2, .int (iI (max wet 0))), (0, .ref (am 0)), (1, .int (iI x)), (3, .int (iI k))] dX8_isWet_29 rfl rfl (by decide) rfl ?_
          refine v_iinc hC 33 3 [(3, .int (iI (k + 1))), (2, .int (iI (max wet 0))), (0, .ref (am 0)), (1, .int (iI x))] dX8_isWet_30 rfl rfl (by decide) rfl ?_
          refine v_goto hC 4 dX8_isWet_33 (by decide) ?_
          exact v_sub [0, 1, 2, 3, 4, 5, 6, 7, 8, 9, 10, 11, 12, 13, 14, 15, 16, 17] [2, 3, 1, 0] _ _ rfl rfl rfl (ih_4 (max wet 0) (k + 1) (by omega) (by omega) (by exact ⟨fun h => if q : wet = 1 then (hw1.mp q).elim (fun j h9 => ⟨j, ⟨h9.1.1, by omega⟩, h9.2⟩) else ⟨k, ⟨by omega, by omega⟩, by omega⟩, fun ⟨j, h1, h2⟩ => if q : j < k then (by have := hw1.mpr ⟨j, ⟨h1.1, q⟩, h2⟩; omega) else (by have e9 : j = k := (by omega); rw [e9] at h2; omega)⟩) (by omega))
        · skip
          refine v_iconst hC 24 dX8_isWet_23 rfl ?_
          refine v_goto hC 28 dX8_isWet_24 (by decide) ?_
          refine v_ior01 hC 29 dX8_isWet_28 rfl (by omega) (by omega) ?_
          refine v_istore_n hC 30 [(2, .int (iI (max wet 1))), (0, .ref (am 0)), (1, .int (iI x)), (3, .int (iI k))] dX8_isWet_29 rfl rfl (by decide) rfl ?_
          refine v_iinc hC 33 3 [(3, .int (iI (k + 1))), (2, .int (iI (max wet 1))), (0, .ref (am 0)), (1, .int (iI x))] dX8_isWet_30 rfl rfl (by decide) rfl ?_
          refine v_goto hC 4 dX8_isWet_33 (by decide) ?_
          exact v_sub [0, 1, 2, 3, 4, 5, 6, 7, 8, 9, 10, 11, 12, 13, 14, 15, 16, 17] [2, 3, 1, 0] _ _ rfl rfl rfl (ih_4 (max wet 1) (k + 1) (by omega) (by omega) (by exact ⟨fun h => if q : wet = 1 then (hw1.mp q).elim (fun j h9 => ⟨j, ⟨h9.1.1, by omega⟩, h9.2⟩) else ⟨k, ⟨by omega, by omega⟩, by omega⟩, fun ⟨j, h1, h2⟩ => if q : j < k then (by have := hw1.mpr ⟨j, ⟨h1.1, q⟩, h2⟩; omega) else (by have e9 : j = k := (by omega); rw [e9] at h2; omega)⟩) (by omega))
  exact v_sub [0, 1, 2, 3, 4, 5, 6, 7, 8, 9, 10, 11, 12, 13, 14, 15, 16, 17] [2, 3, 1, 0] _ _ rfl rfl rfl (cut_4 (Int.toNat (x - 0) + 1) 0 0 (by omega) (by omega) (by exact ⟨fun h => absurd h (by decide), fun ⟨j, h, _⟩ => absurd h (by omega)⟩) (by omega))

set_option maxHeartbeats 4000000 in
set_option maxRecDepth 100000 in
theorem c_X8_piecesOf (lx : Launch) (D : va_G) (cs : Nat → ClassId) (am : Nat → Nat) (mwide : Int) (mhigh : Int) (mborder : Int) (mpattern : Int) (mdoor : Int) (mpieces : Int) (mtiles : Int) (mrests : Int) (mcrates : Int) (mmoves : Int) (manyLaid : Int) (mgrout : Int) (mhour : Int) (mthrown : Int) (mpillar : Int → Int) (mshut : Int → Int) (mpk : Int → Int) (mpf : Int → Int) (mpn : Int → Int) (mpr : Int → Int) (mleft : Int → Int) (mright : Int → Int) (mtop : Int → Int) (mbottom : Int → Int) (mat : Int → Int) (mrw : Int → Int) (mrh : Int → Int) (mrp : Int → Int) (mcf : Int → Int) (mcn : Int → Int) (mdry : Int → Int) (x : Int) (hh : 1 ≤ mhigh ∧ mhigh ≤ 4) (hb : 0 ≤ mborder ∧ mborder ≤ 2) (hcnt : 0 ≤ mpieces ∧ mpieces ≤ 96) (hpf : ∀ j : Int, 0 ≤ j → j < mpieces → 0 ≤ mpf j ∧ mpf j < 96) (hx : -2147483648 ≤ x ∧ x < 2147483648) : Ci lx D cs yX8_piecesOf wsX8_piecesOf ({ frames := 3, cells := 0, slots := 0, locals := 65 }) [.ref (am 0), .int (iI x)] [oM am mwide mhigh mborder mpattern mdoor mpieces mtiles mrests mcrates mmoves manyLaid mgrout mhour mthrown, aC (cs 0) (am 1) 96 mpillar, aC (cs 0) (am 2) 12 mshut, aC (cs 0) (am 3) 96 mpk, aC (cs 0) (am 4) 96 mpf, aC (cs 0) (am 5) 96 mpn, aC (cs 0) (am 6) 96 mpr, aC (cs 0) (am 7) 96 mleft, aC (cs 0) (am 8) 96 mright, aC (cs 0) (am 9) 96 mtop, aC (cs 0) (am 10) 96 mbottom, aC (cs 0) (am 11) 96 mat, aC (cs 0) (am 12) 100 mrw, aC (cs 0) (am 13) 100 mrh, aC (cs 0) (am 14) 100 mrp, aC (cs 0) (am 15) 20 mcf, aC (cs 0) (am 16) 20 mcn, aC (cs 0) (am 17) 8 mdry] (fun (z : Int) (u : Unit) => (z = pcn mhigh mborder (rowOf mpf) x mpieces.toNat)) (fun u : Unit => [oM am mwide mhigh mborder mpattern mdoor mpieces mtiles mrests mcrates mmoves manyLaid mgrout mhour mthrown, aC (cs 0) (am 1) 96 mpillar, aC (cs 0) (am 2) 12 mshut, aC (cs 0) (am 3) 96 mpk, aC (cs 0) (am 4) 96 mpf, aC (cs 0) (am 5) 96 mpn, aC (cs 0) (am 6) 96 mpr, aC (cs 0) (am 7) 96 mleft, aC (cs 0) (am 8) 96 mright, aC (cs 0) (am 9) 96 mtop, aC (cs 0) (am 10) 96 mbottom, aC (cs 0) (am 11) 96 mat, aC (cs 0) (am 12) 100 mrw, aC (cs 0) (am 13) 100 mrh, aC (cs 0) (am 14) 100 mrp, aC (cs 0) (am 15) 20 mcf, aC (cs 0) (am 16) 20 mcn, aC (cs 0) (am 17) 8 mdry]) 0 0 := by
  refine Ci_of (cc := cX8_piecesOf) (nL := 4) (ret := (some .int)) (lv0 := [(0, .ref (am 0)), (1, .int (iI x))]) RX8 "piecesOf" (by decide +kernel) rfl (Nat.le_of_ble_eq_true rfl) rfl (fun p9 e9 s9 m9 ar9 be9 me9 c9 A9 Q9 hQ hC => ?_)
  have iX8 : ∀ w ∈ wsX80, w ∈ wsX8_piecesOf := by decide +kernel
  have L0 : Cond.fieldLink RX8 94 "GroutlineModel" "pieces" "I" ∈ wsX8_piecesOf := by decide +kernel
  have L1 : Cond.fieldLink RX8 26 "GroutlineModel" "pf" "[I" ∈ wsX8_piecesOf := by decide +kernel
  refine v_iconst hC 1 dX8_piecesOf_0 rfl ?_
  refine v_istore_n hC 2 [(2, .int (iI 0)), (0, .ref (am 0)), (1, .int (iI x))] dX8_piecesOf_1 rfl rfl (by decide) rfl ?_
  refine v_iconst hC 3 dX8_piecesOf_2 rfl ?_
  refine v_istore_n hC 4 [(3, .int (iI 0)), (2, .int (iI 0)), (0, .ref (am 0)), (1, .int (iI x))] dX8_piecesOf_3 rfl rfl (by decide) rfl ?_
  have cut_4 : ∀ (n : Nat) (sum : Int) (i : Int), (0 ≤ i ∧ i ≤ mpieces) → (0 ≤ sum ∧ sum ≤ i) → (sum = pcn mhigh mborder (rowOf mpf) x i.toNat) → (mpieces - i < (n : Int)) → V p9 lx e9 ({ frames := 3, cells := 0, slots := 0, locals := 65 }) s9 m9 ar9 be9 me9 c9 Q9 D A9 s9.heap 4 0 0 [oM am mwide mhigh mborder mpattern mdoor mpieces mtiles mrests mcrates mmoves manyLaid mgrout mhour mthrown, aC (cs 0) (am 1) 96 mpillar, aC (cs 0) (am 2) 12 mshut, aC (cs 0) (am 3) 96 mpk, aC (cs 0) (am 4) 96 mpf, aC (cs 0) (am 5) 96 mpn, aC (cs 0) (am 6) 96 mpr, aC (cs 0) (am 7) 96 mleft, aC (cs 0) (am 8) 96 mright, aC (cs 0) (am 9) 96 mtop, aC (cs 0) (am 10) 96 mbottom, aC (cs 0) (am 11) 96 mat, aC (cs 0) (am 12) 100 mrw, aC (cs 0) (am 13) 100 mrh, aC (cs 0) (am 14) 100 mrp, aC (cs 0) (am 15) 20 mcf, aC (cs 0) (am 16) 20 mcn, aC (cs 0) (am 17) 8 mdry] [(0, .ref (am 0)), (1, .int (iI x)), (2, .int (iI sum)), (3, .int (iI i))] 4 [] := by
    intro n
    induction n with
    | zero =>
      intro sum i hi hf0 hf hn
      exfalso; omega
    | succ n ih =>
      intro sum i hi hf0 hf hn
      have ih_4 := ih
      clear ih
      refine v_iload_n hC 5 3 dX8_piecesOf_4 rfl rfl rfl ?_
      refine v_aload_n hC 6 0 dX8_piecesOf_5 rfl rfl rfl ?_
      refine v_get hC 9 0 16 (C := RX8) (T := TX8) (N := 31) dX8_piecesOf_6 rfl iX8 L0 rfl rfl (by decide) rfl ?_
      refine v_icmp_ge hC 43 12 dX8_piecesOf_9 (by decide) rfl (by omega) (by omega) (fun c_9 => ?_) (fun c_9 => ?_)
      · skip
        refine v_iload_n hC 44 2 dX8_piecesOf_43 rfl rfl rfl ?_
        exact v_iret hC hQ () [0, 1, 2, 3, 4, 5, 6, 7, 8, 9, 10, 11, 12, 13, 14, 15, 16, 17] dX8_piecesOf_44 rfl rfl ⟨by decide, by decide⟩ (by (try dsimp only); all_goals (rw [hf, show i = mpieces by omega]))
      · skip
        refine v_iload_n hC 13 2 dX8_piecesOf_12 rfl rfl rfl ?_
        refine v_aload_n hC 14 0 dX8_piecesOf_13 rfl rfl rfl ?_
        refine v_aload_n hC 15 0 dX8_piecesOf_14 rfl rfl rfl ?_
        refine v_get hC 18 0 8 (C := RX8) (T := TX8) (N := 31) dX8_piecesOf_15 rfl iX8 L1 rfl rfl (by decide) rfl ?_
        refine v_iload_n hC 19 3 dX8_piecesOf_18 rfl rfl rfl ?_
        refine v_iald hC 20 4 dX8_piecesOf_19 rfl rfl (by decide) (by omega) ?_
        refine v_bipush hC 22 dX8_piecesOf_20 rfl rfl ?_
        have hr9 := hpf i (by omega) (by omega)
        have hs9 := sR_rng hh hb (y := mpf i / 12) (by omega)
        have hn9 := nS_rng hh hb
        refine v_idiv hC 23 ((mpf i) / 12) dX8_piecesOf_22 rfl (by omega) (by omega) rfl ?_
        refine v_callVi hC 26 1 [0, 1, 2, 3, 4, 5, 6, 7, 8, 9, 10, 11, 12, 13, 14, 15, 16, 17] [] [] (As := [.int (iI ((mpf i) / 12))]) (rest := [.int (iI sum)]) (c_X8_stripOfRow lx D cs am mwide mhigh mborder mpattern mdoor mpieces mtiles mrests mcrates mmoves manyLaid mgrout mhour mthrown mpillar mshut mpk mpf mpn mpr mleft mright mtop mbottom mat mrw mrh mrp mcf mcn mdry ((mpf i) / 12) (by omega) (by omega) (by omega)) dX8_piecesOf_23 rfl rfl 0 rfl rfl gX8_piecesOf_X8_stripOfRow rfl rfl rfl (by decide +kernel) ⟨by decide, by decide⟩ rfl rfl rfl rfl (by decide) rfl (Nat.le_of_ble_eq_true rfl) ⟨rfl, rfl⟩ ⟨by decide, by decide⟩ (fun z23 u23 h23 => ?_)
        (try dsimp only at h23)
        subst h23
        show V p9 lx e9 ({ frames := 3, cells := 0, slots := 0, locals := 65 }) s9 m9 ar9 be9 me9 c9 Q9 D A9 s9.heap 4 0 0 [oM am mwide mhigh mborder mpattern mdoor mpieces mtiles mrests mcrates mmoves manyLaid mgrout mhour mthrown, aC (cs 0) (am 1) 96 mpillar, aC (cs 0) (am 2) 12 mshut, aC (cs 0) (am 3) 96 mpk, aC (cs 0) (am 4) 96 mpf, aC (cs 0) (am 5) 96 mpn, aC (cs 0) (am 6) 96 mpr, aC (cs 0) (am 7) 96 mleft, aC (cs 0) (am 8) 96 mright, aC (cs 0) (am 9) 96 mtop, aC (cs 0) (am 10) 96 mbottom, aC (cs 0) (am 11) 96 mat, aC (cs 0) (am 12) 100 mrw, aC (cs 0) (am 13) 100 mrh, aC (cs 0) (am 14) 100 mrp, aC (cs 0) (am 15) 20 mcf, aC (cs 0) (am 16) 20 mcn, aC (cs 0) (am 17) 8 mdry] [(0, .ref (am 0)), (1, .int (iI x)), (2, .int (iI sum)), (3, .int (iI i))] 26 [.int (iI (sR mhigh mborder ((mpf i) / 12))), .int (iI sum)]
        refine v_iload_n hC 27 1 dX8_piecesOf_26 rfl rfl rfl ?_
        refine v_icmp_ne hC 34 30 dX8_piecesOf_27 (by decide) rfl (by omega) (by omega) (fun c_27 => ?_) (fun c_27 => ?_)
        · skip
          refine v_iconst hC 35 dX8_piecesOf_34 rfl ?_
          refine v_iadd hC 36 (sum + 0) dX8_piecesOf_35 rfl rfl ?_
          refine v_istore_n hC 37 [(2, .int (iI (sum + 0))), (0, .ref (am 0)), (1, .int (iI x)), (3, .int (iI i))] dX8_piecesOf_36 rfl rfl (by decide) rfl ?_
          refine v_iinc hC 40 3 [(3, .int (iI (i + 1))), (2, .int (iI (sum + 0))), (0, .ref (am 0)), (1, .int (iI x))] dX8_piecesOf_37 rfl rfl (by decide) rfl ?_
          refine v_goto hC 4 dX8_piecesOf_40 (by decide) ?_
          exact v_sub [0, 1, 2, 3, 4, 5, 6, 7, 8, 9, 10, 11, 12, 13, 14, 15, 16, 17] [2, 3, 1, 0] _ _ rfl rfl rfl (ih_4 (sum + 0) (i + 1) (by omega) (by omega) (by rw [pcn_I hi.1, ← hf, show rowOf mpf i = mpf i / 12 from rfl]; first | (rw [if_pos (by omega)]; done) | (rw [if_neg (by omega)]; done)) (by omega))
        · skip
          refine v_iconst hC 31 dX8_piecesOf_30 rfl ?_
          refine v_goto hC 35 dX8_piecesOf_31 (by decide) ?_
          refine v_iadd hC 36 (sum + 1) dX8_piecesOf_35 rfl rfl ?_
          refine v_istore_n hC 37 [(2, .int (iI (sum + 1))), (0, .ref (am 0)), (1, .int (iI x)), (3, .int (iI i))] dX8_piecesOf_36 rfl rfl (by decide) rfl ?_
          refine v_iinc hC 40 3 [(3, .int (iI (i + 1))), (2, .int (iI (sum + 1))), (0, .ref (am 0)), (1, .int (iI x))] dX8_piecesOf_37 rfl rfl (by decide) rfl ?_
          refine v_goto hC 4 dX8_piecesOf_40 (by decide) ?_
          exact v_sub [0, 1, 2, 3, 4, 5, 6, 7, 8, 9, 10, 11, 12, 13, 14, 15, 16, 17] [2, 3, 1, 0] _ _ rfl rfl rfl (ih_4 (sum + 1) (i + 1) (by omega) (by omega) (by rw [pcn_I hi.1, ← hf, show rowOf mpf i = mpf i / 12 from rfl]; first | (rw [if_pos (by omega)]; done) | (rw [if_neg (by omega)]; done)) (by omega))
  exact v_sub [0, 1, 2, 3, 4, 5, 6, 7, 8, 9, 10, 11, 12, 13, 14, 15, 16, 17] [2, 3, 1, 0] _ _ rfl rfl rfl (cut_4 (Int.toNat (mpieces - 0) + 1) 0 0 (by omega) (by omega) (by rfl) (by omega))

set_option maxHeartbeats 4000000 in
set_option maxRecDepth 100000 in
theorem c_X8_bestRest (lx : Launch) (D : va_G) (cs : Nat → ClassId) (am : Nat → Nat) (mwide : Int) (mhigh : Int) (mborder : Int) (mpattern : Int) (mdoor : Int) (mpieces : Int) (mtiles : Int) (mrests : Int) (mcrates : Int) (mmoves : Int) (manyLaid : Int) (mgrout : Int) (mhour : Int) (mthrown : Int) (mpillar : Int → Int) (mshut : Int → Int) (mpk : Int → Int) (mpf : Int → Int) (mpn : Int → Int) (mpr : Int → Int) (mleft : Int → Int) (mright : Int → Int) (mtop : Int → Int) (mbottom : Int → Int) (mat : Int → Int) (mrw : Int → Int) (mrh : Int → Int) (mrp : Int → Int) (mcf : Int → Int) (mcn : Int → Int) (mdry : Int → Int) (w : Int) (h : Int) (hrc : 0 ≤ mrests ∧ mrests ≤ 96) (hrw : Rn mrw 0 4) (hrh : Rn mrh 0 4) (hw9 : -2147483648 ≤ w ∧ w < 2147483648) (hh9 : -2147483648 ≤ h ∧ h < 2147483648) : Ci lx D cs yX8_bestRest wsX8_bestRest ({ frames := 1, cells := 0, slots := 0, locals := 24 }) [.ref (am 0), .int (iI w), .int (iI h)] [oM am mwide mhigh mborder mpattern mdoor mpieces mtiles mrests mcrates mmoves manyLaid mgrout mhour mthrown, aC (cs 0) (am 1) 96 mpillar, aC (cs 0) (am 2) 12 mshut, aC (cs 0) (am 3) 96 mpk, aC (cs 0) (am 4) 96 mpf, aC (cs 0) (am 5) 96 mpn, aC (cs 0) (am 6) 96 mpr, aC (cs 0) (am 7) 96 mleft, aC (cs 0) (am 8) 96 mright, aC (cs 0) (am 9) 96 mtop, aC (cs 0) (am 10) 96 mbottom, aC (cs 0) (am 11) 96 mat, aC (cs 0) (am 12) 100 mrw, aC (cs 0) (am 13) 100 mrh, aC (cs 0) (am 14) 100 mrp, aC (cs 0) (am 15) 20 mcf, aC (cs 0) (am 16) 20 mcn, aC (cs 0) (am 17) 8 mdry] (fun (z : Int) (u : Unit) => (z = br mrw mrh w h mrests.toNat)) (fun u : Unit => [oM am mwide mhigh mborder mpattern mdoor mpieces mtiles mrests mcrates mmoves manyLaid mgrout mhour mthrown, aC (cs 0) (am 1) 96 mpillar, aC (cs 0) (am 2) 12 mshut, aC (cs 0) (am 3) 96 mpk, aC (cs 0) (am 4) 96 mpf, aC (cs 0) (am 5) 96 mpn, aC (cs 0) (am 6) 96 mpr, aC (cs 0) (am 7) 96 mleft, aC (cs 0) (am 8) 96 mright, aC (cs 0) (am 9) 96 mtop, aC (cs 0) (am 10) 96 mbottom, aC (cs 0) (am 11) 96 mat, aC (cs 0) (am 12) 100 mrw, aC (cs 0) (am 13) 100 mrh, aC (cs 0) (am 14) 100 mrp, aC (cs 0) (am 15) 20 mcf, aC (cs 0) (am 16) 20 mcn, aC (cs 0) (am 17) 8 mdry]) 0 0 := by
  refine Ci_of (cc := cX8_bestRest) (nL := 6) (ret := (some .int)) (lv0 := [(0, .ref (am 0)), (1, .int (iI w)), (2, .int (iI h))]) RX8 "bestRest" (by decide +kernel) rfl (Nat.le_of_ble_eq_true rfl) rfl (fun p9 e9 s9 m9 ar9 be9 me9 c9 A9 Q9 hQ hC => ?_)
  have iX8 : ∀ w ∈ wsX80, w ∈ wsX8_bestRest := by decide +kernel
  have L0 : Cond.fieldLink RX8 107 "GroutlineModel" "rests" "I" ∈ wsX8_bestRest := by decide +kernel
  have L1 : Cond.fieldLink RX8 50 "GroutlineModel" "rw" "[I" ∈ wsX8_bestRest := by decide +kernel
  have L2 : Cond.fieldLink RX8 53 "GroutlineModel" "rh" "[I" ∈ wsX8_bestRest := by decide +kernel
  refine v_iconst hC 1 dX8_bestRest_0 rfl ?_
  refine v_istore_n hC 2 [(3, .int (iI (-1))), (0, .ref (am 0)), (1, .int (iI w)), (2, .int (iI h))] dX8_bestRest_1 rfl rfl (by decide) rfl ?_
  refine v_iconst hC 3 dX8_bestRest_2 rfl ?_
  refine v_istore hC 5 [(4, .int (iI 0)), (3, .int (iI (-1))), (0, .ref (am 0)), (1, .int (iI w)), (2, .int (iI h))] dX8_bestRest_3 rfl (by decide) rfl ?_
  have cut_5 : ∀ (n : Nat) (best : Int) (i : Int), (0 ≤ i ∧ i ≤ mrests) → (best = br mrw mrh w h i.toNat) → (-1 ≤ best ∧ best < i) → (mrests - i < (n : Int)) → V p9 lx e9 ({ frames := 1, cells := 0, slots := 0, locals := 24 }) s9 m9 ar9 be9 me9 c9 Q9 D A9 s9.heap 6 0 0 [oM am mwide mhigh mborder mpattern mdoor mpieces mtiles mrests mcrates mmoves manyLaid mgrout mhour mthrown, aC (cs 0) (am 1) 96 mpillar, aC (cs 0) (am 2) 12 mshut, aC (cs 0) (am 3) 96 mpk, aC (cs 0) (am 4) 96 mpf, aC (cs 0) (am 5) 96 mpn, aC (cs 0) (am 6) 96 mpr, aC (cs 0) (am 7) 96 mleft, aC (cs 0) (am 8) 96 mright, aC (cs 0) (am 9) 96 mtop, aC (cs 0) (am 10) 96 mbottom, aC (cs 0) (am 11) 96 mat, aC (cs 0) (am 12) 100 mrw, aC (cs 0) (am 13) 100 mrh, aC (cs 0) (am 14) 100 mrp, aC (cs 0) (am 15) 20 mcf, aC (cs 0) (am 16) 20 mcn, aC (cs 0) (am 17) 8 mdry] [(0, .ref (am 0)), (1, .int (iI w)), (2, .int (iI h)), (3, .int (iI best)), (4, .int (iI i))] 5 [] := by
    intro n
    induction n with
    | zero =>
      intro best i hi hbest hb9 hn
      exfalso; omega
    | succ n ih =>
      intro best i hi hbest hb9 hn
      have ih_5 := ih
      clear ih
      refine v_iload hC 7 4 dX8_bestRest_5 rfl rfl ?_
      refine v_aload_n hC 8 0 dX8_bestRest_7 rfl rfl rfl ?_
      refine v_get hC 11 0 21 (C := RX8) (T := TX8) (N := 31) dX8_bestRest_8 rfl iX8 L0 rfl rfl (by decide) rfl ?_
      refine v_icmp_ge hC 96 14 dX8_bestRest_11 (by decide) rfl (by omega) (by omega) (fun c_11 => ?_) (fun c_11 => ?_)
      · skip
        refine v_iload_n hC 97 3 dX8_bestRest_96 rfl rfl rfl ?_
        exact v_iret hC hQ () [0, 1, 2, 3, 4, 5, 6, 7, 8, 9, 10, 11, 12, 13, 14, 15, 16, 17] dX8_bestRest_97 rfl rfl ⟨by decide, by decide⟩ (by (try dsimp only); all_goals (rw [hbest, show i = mrests by omega]))
      · skip
        refine v_aload_n hC 15 0 dX8_bestRest_14 rfl rfl rfl ?_
        refine v_get hC 18 0 18 (C := RX8) (T := TX8) (N := 31) dX8_bestRest_15 rfl iX8 L1 rfl rfl (by decide) rfl ?_
        refine v_iload hC 20 4 dX8_bestRest_18 rfl rfl ?_
        refine v_iald hC 21 12 dX8_bestRest_20 rfl rfl (by decide) (by omega) ?_
        have r_20 := hrw i
        refine v_iload_n hC 22 1 dX8_bestRest_21 rfl rfl rfl ?_
        refine v_icmp_lt hC 40 25 dX8_bestRest_22 (by decide) rfl (by omega) (by omega) (fun c_22 => ?_) (fun c_22 => ?_)
        · skip
          refine v_iconst hC 41 dX8_bestRest_40 rfl ?_
          refine v_istore hC 43 [(5, .int (iI 0)), (0, .ref (am 0)), (1, .int (iI w)), (2, .int (iI h)), (3, .int (iI best)), (4, .int (iI i))] dX8_bestRest_41 rfl (by decide) rfl ?_
          refine v_iload hC 45 0 dX8_bestRest_43 rfl rfl ?_
          refine v_if_eq hC 88 48 dX8_bestRest_45 (by decide) rfl (by omega) (fun c_45 => ?_) (fun c_45 => ?_)
          · skip
            refine v_iload_n hC 89 4 dX8_bestRest_88 rfl rfl rfl ?_
            refine v_istore_n hC 90 [(3, .int (iI best)), (5, .int (iI 0)), (0, .ref (am 0)), (1, .int (iI w)), (2, .int (iI h)), (4, .int (iI i))] dX8_bestRest_89 rfl rfl (by decide) rfl ?_
            refine v_iinc hC 93 5 [(4, .int (iI (i + 1))), (3, .int (iI best)), (5, .int (iI 0)), (0, .ref (am 0)), (1, .int (iI w)), (2, .int (iI h))] dX8_bestRest_90 rfl rfl (by decide) rfl ?_
            refine v_goto hC 5 dX8_bestRest_93 (by decide) ?_
            exact v_sub [0, 1, 2, 3, 4, 5, 6, 7, 8, 9, 10, 11, 12, 13, 14, 15, 16, 17] [3, 4, 5, 1, 0] _ _ rfl rfl rfl (ih_5 best (i + 1) (by omega) (by rw [br_I hi.1, ← hbest]; first | (rw [if_pos ⟨by omega, by omega⟩]; done) | (rw [if_neg (fun q => by omega)]; done)) (by omega) (by omega))
          · exfalso; exact absurd c_45 (by decide)
        · skip
          refine v_aload_n hC 26 0 dX8_bestRest_25 rfl rfl rfl ?_
          refine v_get hC 29 0 19 (C := RX8) (T := TX8) (N := 31) dX8_bestRest_26 rfl iX8 L2 rfl rfl (by decide) rfl ?_
          refine v_iload hC 31 4 dX8_bestRest_29 rfl rfl ?_
          refine v_iald hC 32 13 dX8_bestRest_31 rfl rfl (by decide) (by omega) ?_
          have r_31 := hrh i
          refine v_iload_n hC 33 2 dX8_bestRest_32 rfl rfl rfl ?_
          refine v_icmp_lt hC 40 36 dX8_bestRest_33 (by decide) rfl (by omega) (by omega) (fun c_33 => ?_) (fun c_33 => ?_)
          · skip
            refine v_iconst hC 41 dX8_bestRest_40 rfl ?_
            refine v_istore hC 43 [(5, .int (iI 0)), (0, .ref (am 0)), (1, .int (iI w)), (2, .int (iI h)), (3, .int (iI best)), (4, .int (iI i))] dX8_bestRest_41 rfl (by decide) rfl ?_
            refine v_iload hC 45 0 dX8_bestRest_43 rfl rfl ?_
            refine v_if_eq hC 88 48 dX8_bestRest_45 (by decide) rfl (by omega) (fun c_45 => ?_) (fun c_45 => ?_)
            · skip
              refine v_iload_n hC 89 4 dX8_bestRest_88 rfl rfl rfl ?_
              refine v_istore_n hC 90 [(3, .int (iI best)), (5, .int (iI 0)), (0, .ref (am 0)), (1, .int (iI w)), (2, .int (iI h)), (4, .int (iI i))] dX8_bestRest_89 rfl rfl (by decide) rfl ?_
              refine v_iinc hC 93 5 [(4, .int (iI (i + 1))), (3, .int (iI best)), (5, .int (iI 0)), (0, .ref (am 0)), (1, .int (iI w)), (2, .int (iI h))] dX8_bestRest_90 rfl rfl (by decide) rfl ?_
              refine v_goto hC 5 dX8_bestRest_93 (by decide) ?_
              exact v_sub [0, 1, 2, 3, 4, 5, 6, 7, 8, 9, 10, 11, 12, 13, 14, 15, 16, 17] [3, 4, 5, 1, 0] _ _ rfl rfl rfl (ih_5 best (i + 1) (by omega) (by rw [br_I hi.1, ← hbest]; first | (rw [if_pos ⟨by omega, by omega⟩]; done) | (rw [if_neg (fun q => by omega)]; done)) (by omega) (by omega))
            · exfalso; exact absurd c_45 (by decide)
          · skip
            refine v_iconst hC 37 dX8_bestRest_36 rfl ?_
            refine v_goto hC 41 dX8_bestRest_37 (by decide) ?_
            refine v_istore hC 43 [(5, .int (iI 1)), (0, .ref (am 0)), (1, .int (iI w)), (2, .int (iI h)), (3, .int (iI best)), (4, .int (iI i))] dX8_bestRest_41 rfl (by decide) rfl ?_
            refine v_iload hC 45 0 dX8_bestRest_43 rfl rfl ?_
            refine v_if_eq hC 88 48 dX8_bestRest_45 (by decide) rfl (by omega) (fun c_45 => ?_) (fun c_45 => ?_)
            · exfalso; exact absurd c_45 (by decide)
            · skip
              refine v_iload_n hC 49 4 dX8_bestRest_48 rfl rfl rfl ?_
              refine v_if_lt hC 83 52 dX8_bestRest_49 (by decide) rfl (by omega) (fun c_49 => ?_) (fun c_49 => ?_)
              · skip
                refine v_iload hC 85 5 dX8_bestRest_83 rfl rfl ?_
                refine v_goto hC 89 dX8_bestRest_85 (by decide) ?_
                refine v_istore_n hC 90 [(3, .int (iI i)), (5, .int (iI 1)), (0, .ref (am 0)), (1, .int (iI w)), (2, .int (iI h)), (4, .int (iI i))] dX8_bestRest_89 rfl rfl (by decide) rfl ?_
                refine v_iinc hC 93 5 [(4, .int (iI (i + 1))), (3, .int (iI i)), (5, .int (iI 1)), (0, .ref (am 0)), (1, .int (iI w)), (2, .int (iI h))] dX8_bestRest_90 rfl rfl (by decide) rfl ?_
                refine v_goto hC 5 dX8_bestRest_93 (by decide) ?_
                exact v_sub [0, 1, 2, 3, 4, 5, 6, 7, 8, 9, 10, 11, 12, 13, 14, 15, 16, 17] [3, 4, 5, 1, 0] _ _ rfl rfl rfl (ih_5 i (i + 1) (by omega) (by rw [br_I hi.1, ← hbest]; first | (rw [if_pos ⟨by omega, by omega⟩]; done) | (rw [if_neg (fun q => by omega)]; done)) (by omega) (by omega))
              · skip
                refine v_aload_n hC 53 1 dX8_bestRest_52 rfl rfl rfl ?_
                refine v_get hC 56 0 18 (C := RX8) (T := TX8) (N := 31) dX8_bestRest_53 rfl iX8 L1 rfl rfl (by decide) rfl ?_
                refine v_iload hC 58 5 dX8_bestRest_56 rfl rfl ?_
                refine v_iald hC 59 12 dX8_bestRest_58 rfl rfl (by decide) (by omega) ?_
                have r_58 := hrw i
                refine v_aload_n hC 60 1 dX8_bestRest_59 rfl rfl rfl ?_
                refine v_get hC 63 0 19 (C := RX8) (T := TX8) (N := 31) dX8_bestRest_60 rfl iX8 L2 rfl rfl (by decide) rfl ?_
                refine v_iload hC 65 5 dX8_bestRest_63 rfl rfl ?_
                refine v_iald hC 66 13 dX8_bestRest_65 rfl rfl (by decide) (by omega) ?_
                have r_65 := hrh i
                refine v_imul hC 67 ((mrw i) * (mrh i)) dX8_bestRest_66 rfl rfl ?_
                refine v_aload_n hC 68 1 dX8_bestRest_67 rfl rfl rfl ?_
                refine v_get hC 71 0 18 (C := RX8) (T := TX8) (N := 31) dX8_bestRest_68 rfl iX8 L1 rfl rfl (by decide) rfl ?_
                refine v_iload_n hC 72 4 dX8_bestRest_71 rfl rfl rfl ?_
                refine v_iald hC 73 12 dX8_bestRest_72 rfl rfl (by decide) (by omega) ?_
                have r_72 := hrw best
                refine v_aload_n hC 74 1 dX8_bestRest_73 rfl rfl rfl ?_
                refine v_get hC 77 0 19 (C := RX8) (T := TX8) (N := 31) dX8_bestRest_74 rfl iX8 L2 rfl rfl (by decide) rfl ?_
                refine v_iload_n hC 78 4 dX8_bestRest_77 rfl rfl rfl ?_
                refine v_iald hC 79 13 dX8_bestRest_78 rfl rfl (by decide) (by omega) ?_
                have r_78 := hrh best
                refine v_imul hC 80 ((mrw best) * (mrh best)) dX8_bestRest_79 rfl rfl ?_
                have hz9 := mul04 (hrw best) (hrh best)
                have hz8 := mul04 (hrw i) (hrh i)
                refine v_icmp_ge hC 88 83 dX8_bestRest_80 (by decide) rfl (by omega) (by omega) (fun c_80 => ?_) (fun c_80 => ?_)
                · skip
                  refine v_iload_n hC 89 4 dX8_bestRest_88 rfl rfl rfl ?_
                  refine v_istore_n hC 90 [(3, .int (iI best)), (5, .int (iI 1)), (0, .ref (am 0)), (1, .int (iI w)), (2, .int (iI h)), (4, .int (iI i))] dX8_bestRest_89 rfl rfl (by decide) rfl ?_
                  refine v_iinc hC 93 5 [(4, .int (iI (i + 1))), (3, .int (iI best)), (5, .int (iI 1)), (0, .ref (am 0)), (1, .int (iI w)), (2, .int (iI h))] dX8_bestRest_90 rfl rfl (by decide) rfl ?_
                  refine v_goto hC 5 dX8_bestRest_93 (by decide) ?_
                  exact v_sub [0, 1, 2, 3, 4, 5, 6, 7, 8, 9, 10, 11, 12, 13, 14, 15, 16, 17] [3, 4, 5, 1, 0] _ _ rfl rfl rfl (ih_5 best (i + 1) (by omega) (by rw [br_I hi.1, ← hbest]; first | (rw [if_pos ⟨by omega, by omega⟩]; done) | (rw [if_neg (fun q => by omega)]; done)) (by omega) (by omega))
                · skip
                  refine v_iload hC 85 5 dX8_bestRest_83 rfl rfl ?_
                  refine v_goto hC 89 dX8_bestRest_85 (by decide) ?_
                  refine v_istore_n hC 90 [(3, .int (iI i)), (5, .int (iI 1)), (0, .ref (am 0)), (1, .int (iI w)), (2, .int (iI h)), (4, .int (iI i))] dX8_bestRest_89 rfl rfl (by decide) rfl ?_
                  refine v_iinc hC 93 5 [(4, .int (iI (i + 1))), (3, .int (iI i)), (5, .int (iI 1)), (0, .ref (am 0)), (1, .int (iI w)), (2, .int (iI h))] dX8_bestRest_90 rfl rfl (by decide) rfl ?_
                  refine v_goto hC 5 dX8_bestRest_93 (by decide) ?_
                  exact v_sub [0, 1, 2, 3, 4, 5, 6, 7, 8, 9, 10, 11, 12, 13, 14, 15, 16, 17] [3, 4, 5, 1, 0] _ _ rfl rfl rfl (ih_5 i (i + 1) (by omega) (by rw [br_I hi.1, ← hbest]; first | (rw [if_pos ⟨by omega, by omega⟩]; done) | (rw [if_neg (fun q => by omega)]; done)) (by omega) (by omega))
  exact v_sub [0, 1, 2, 3, 4, 5, 6, 7, 8, 9, 10, 11, 12, 13, 14, 15, 16, 17] [2, 3, 4, 1, 0] _ _ rfl rfl rfl (cut_5 (Int.toNat (mrests - 0) + 1) (-1) 0 (by omega) (by rfl) (by omega) (by omega))

set_option maxHeartbeats 4000000 in
set_option maxRecDepth 100000 in
theorem c_X8_takeOut (lx : Launch) (D : va_G) (cs : Nat → ClassId) (am : Nat → Nat) (mwide : Int) (mhigh : Int) (mborder : Int) (mpattern : Int) (mdoor : Int) (mpieces : Int) (mtiles : Int) (mrests : Int) (mcrates : Int) (mmoves : Int) (manyLaid : Int) (mgrout : Int) (mhour : Int) (mthrown : Int) (mpillar : Int → Int) (mshut : Int → Int) (mpk : Int → Int) (mpf : Int → Int) (mpn : Int → Int) (mpr : Int → Int) (mleft : Int → Int) (mright : Int → Int) (mtop : Int → Int) (mbottom : Int → Int) (mat : Int → Int) (mrw : Int → Int) (mrh : Int → Int) (mrp : Int → Int) (mcf : Int → Int) (mcn : Int → Int) (mdry : Int → Int) (x : Int) (hrc : 0 ≤ mrests ∧ mrests ≤ 96) (hx : 0 ≤ x ∧ x < mrests) : Cv lx D cs yX8_takeOut wsX8_takeOut ({ frames := 1, cells := 0, slots := 0, locals := 24 }) [.ref (am 0), .int (iI x)] [oM am mwide mhigh mborder mpattern mdoor mpieces mtiles mrests mcrates mmoves manyLaid mgrout mhour mthrown, aC (cs 0) (am 1) 96 mpillar, aC (cs 0) (am 2) 12 mshut, aC (cs 0) (am 3) 96 mpk, aC (cs 0) (am 4) 96 mpf, aC (cs 0) (am 5) 96 mpn, aC (cs 0) (am 6) 96 mpr, aC (cs 0) (am 7) 96 mleft, aC (cs 0) (am 8) 96 mright, aC (cs 0) (am 9) 96 mtop, aC (cs 0) (am 10) 96 mbottom, aC (cs 0) (am 11) 96 mat, aC (cs 0) (am 12) 100 mrw, aC (cs 0) (am 13) 100 mrh, aC (cs 0) (am 14) 100 mrp, aC (cs 0) (am 15) 20 mcf, aC (cs 0) (am 16) 20 mcn, aC (cs 0) (am 17) 8 mdry] (fun (u : Unit) => True) (fun u : Unit => [oM am mwide mhigh mborder mpattern mdoor mpieces mtiles (mrests - 1) mcrates mmoves manyLaid mgrout mhour mthrown, aC (cs 0) (am 1) 96 mpillar, aC (cs 0) (am 2) 12 mshut, aC (cs 0) (am 3) 96 mpk, aC (cs 0) (am 4) 96 mpf, aC (cs 0) (am 5) 96 mpn, aC (cs 0) (am 6) 96 mpr, aC (cs 0) (am 7) 96 mleft, aC (cs 0) (am 8) 96 mright, aC (cs 0) (am 9) 96 mtop, aC (cs 0) (am 10) 96 mbottom, aC (cs 0) (am 11) 96 mat, aC (cs 0) (am 12) 100 (sh mrw x mrests), aC (cs 0) (am 13) 100 (sh mrh x mrests), aC (cs 0) (am 14) 100 (sh mrp x mrests), aC (cs 0) (am 15) 20 mcf, aC (cs 0) (am 16) 20 mcn, aC (cs 0) (am 17) 8 mdry]) 0 0 := by
  refine Cv_of (cc := cX8_takeOut) (nL := 3) (ret := none) (lv0 := [(0, .ref (am 0)), (1, .int (iI x))]) RX8 "takeOut" (by decide +kernel) rfl (Nat.le_of_ble_eq_true rfl) rfl (fun p9 e9 s9 m9 ar9 be9 me9 c9 A9 Q9 hQ hC => ?_)
  have iX8 : ∀ w ∈ wsX80, w ∈ wsX8_takeOut := by decide +kernel
  have L0 : Cond.fieldLink RX8 107 "GroutlineModel" "rests" "I" ∈ wsX8_takeOut := by decide +kernel
  have L1 : Cond.fieldLink RX8 50 "GroutlineModel" "rw" "[I" ∈ wsX8_takeOut := by decide +kernel
  have L2 : Cond.fieldLink RX8 53 "GroutlineModel" "rh" "[I" ∈ wsX8_takeOut := by decide +kernel
  have L3 : Cond.fieldLink RX8 56 "GroutlineModel" "rp" "[I" ∈ wsX8_takeOut := by decide +kernel
  refine v_aload_n hC 1 0 dX8_takeOut_0 rfl rfl rfl ?_
  refine v_dup hC 2 dX8_takeOut_1 rfl rfl ?_
  refine v_get hC 5 0 21 (C := RX8) (T := TX8) (N := 31) dX8_takeOut_2 rfl iX8 L0 rfl rfl (by decide) rfl ?_
  refine v_iconst hC 6 dX8_takeOut_5 rfl ?_
  refine v_isub hC 7 (mrests - 1) dX8_takeOut_6 rfl rfl ?_
  refine v_put hC 10 0 21 [oM am mwide mhigh mborder mpattern mdoor mpieces mtiles (mrests - 1) mcrates mmoves manyLaid mgrout mhour mthrown, aC (cs 0) (am 1) 96 mpillar, aC (cs 0) (am 2) 12 mshut, aC (cs 0) (am 3) 96 mpk, aC (cs 0) (am 4) 96 mpf, aC (cs 0) (am 5) 96 mpn, aC (cs 0) (am 6) 96 mpr, aC (cs 0) (am 7) 96 mleft, aC (cs 0) (am 8) 96 mright, aC (cs 0) (am 9) 96 mtop, aC (cs 0) (am 10) 96 mbottom, aC (cs 0) (am 11) 96 mat, aC (cs 0) (am 12) 100 mrw, aC (cs 0) (am 13) 100 mrh, aC (cs 0) (am 14) 100 mrp, aC (cs 0) (am 15) 20 mcf, aC (cs 0) (am 16) 20 mcn, aC (cs 0) (am 17) 8 mdry] (C := RX8) (T := TX8) (N := 31) dX8_takeOut_7 rfl iX8 tyX8_ok nmX8 L0 rfl rfl (by decide) rfl rfl rfl (Nat.le_of_ble_eq_true rfl) rfl ?_
  refine v_iload_n hC 11 1 dX8_takeOut_10 rfl rfl rfl ?_
  refine v_istore_n hC 12 [(2, .int (iI x)), (0, .ref (am 0)), (1, .int (iI x))] dX8_takeOut_11 rfl rfl (by decide) rfl ?_
  have cut_12 : ∀ (n : Nat) (k : Int) (rw2 : Int → Int) (rh2 : Int → Int) (rp2 : Int → Int), (x ≤ k ∧ k ≤ mrests - 1) → (rw2 = sh mrw x (k + 1)) → (rh2 = sh mrh x (k + 1)) → (rp2 = sh mrp x (k + 1)) → (mrests - k < (n : Int)) → V p9 lx e9 ({ frames := 1, cells := 0, slots := 0, locals := 24 }) s9 m9 ar9 be9 me9 c9 Q9 D A9 s9.heap 3 0 0 [oM am mwide mhigh mborder mpattern mdoor mpieces mtiles (mrests - 1) mcrates mmoves manyLaid mgrout mhour mthrown, aC (cs 0) (am 1) 96 mpillar, aC (cs 0) (am 2) 12 mshut, aC (cs 0) (am 3) 96 mpk, aC (cs 0) (am 4) 96 mpf, aC (cs 0) (am 5) 96 mpn, aC (cs 0) (am 6) 96 mpr, aC (cs 0) (am 7) 96 mleft, aC (cs 0) (am 8) 96 mright, aC (cs 0) (am 9) 96 mtop, aC (cs 0) (am 10) 96 mbottom, aC (cs 0) (am 11) 96 mat, aC (cs 0) (am 12) 100 rw2, aC (cs 0) (am 13) 100 rh2, aC (cs 0) (am 14) 100 rp2, aC (cs 0) (am 15) 20 mcf, aC (cs 0) (am 16) 20 mcn, aC (cs 0) (am 17) 8 mdry] [(0, .ref (am 0)), (1, .int (iI x)), (2, .int (iI k))] 12 [] := by
    intro n
    induction n with
    | zero =>
      intro k rw2 rh2 rp2 hk hrw2 hrh2 hrp2 hn
      exfalso; omega
    | succ n ih =>
      intro k rw2 rh2 rp2 hk hrw2 hrh2 hrp2 hn
      have ih_12 := ih
      clear ih
      refine v_iload_n hC 13 2 dX8_takeOut_12 rfl rfl rfl ?_
      refine v_aload_n hC 14 0 dX8_takeOut_13 rfl rfl rfl ?_
      refine v_get hC 17 0 21 (C := RX8) (T := TX8) (N := 31) dX8_takeOut_14 rfl iX8 L0 rfl rfl (by decide) rfl ?_
      refine v_icmp_ge hC 68 20 dX8_takeOut_17 (by decide) rfl (by omega) (by omega) (fun c_17 => ?_) (fun c_17 => ?_)
      · skip
        obtain rfl : mrests = k + 1 := by omega
        subst hrw2 hrh2 hrp2
        exact v_vret hC hQ () [0, 1, 2, 3, 4, 5, 6, 7, 8, 9, 10, 11, 12, 13, 14, 15, 16, 17] dX8_takeOut_68 rfl rfl ⟨by decide, by decide⟩ trivial
      · skip
        refine v_aload_n hC 21 0 dX8_takeOut_20 rfl rfl rfl ?_
        refine v_get hC 24 0 18 (C := RX8) (T := TX8) (N := 31) dX8_takeOut_21 rfl iX8 L1 rfl rfl (by decide) rfl ?_
        refine v_iload_n hC 25 2 dX8_takeOut_24 rfl rfl rfl ?_
        refine v_aload_n hC 26 0 dX8_takeOut_25 rfl rfl rfl ?_
        refine v_get hC 29 0 18 (C := RX8) (T := TX8) (N := 31) dX8_takeOut_26 rfl iX8 L1 rfl rfl (by decide) rfl ?_
        refine v_iload_n hC 30 2 dX8_takeOut_29 rfl rfl rfl ?_
        refine v_iconst hC 31 dX8_takeOut_30 rfl ?_
        refine v_iadd hC 32 (k + 1) dX8_takeOut_31 rfl rfl ?_
        refine v_iald hC 33 12 dX8_takeOut_32 rfl rfl (by decide) (by omega) ?_
        refine v_iast hC 34 12 [oM am mwide mhigh mborder mpattern mdoor mpieces mtiles (mrests - 1) mcrates mmoves manyLaid mgrout mhour mthrown, aC (cs 0) (am 1) 96 mpillar, aC (cs 0) (am 2) 12 mshut, aC (cs 0) (am 3) 96 mpk, aC (cs 0) (am 4) 96 mpf, aC (cs 0) (am 5) 96 mpn, aC (cs 0) (am 6) 96 mpr, aC (cs 0) (am 7) 96 mleft, aC (cs 0) (am 8) 96 mright, aC (cs 0) (am 9) 96 mtop, aC (cs 0) (am 10) 96 mbottom, aC (cs 0) (am 11) 96 mat, aC (cs 0) (am 12) 100 (uI rw2 k (rw2 (k + 1))), aC (cs 0) (am 13) 100 rh2, aC (cs 0) (am 14) 100 rp2, aC (cs 0) (am 15) 20 mcf, aC (cs 0) (am 16) 20 mcn, aC (cs 0) (am 17) 8 mdry] dX8_takeOut_33 rfl rfl (by decide) (by omega) rfl ?_
        refine v_aload_n hC 35 0 dX8_takeOut_34 rfl rfl rfl ?_
        refine v_get hC 38 0 19 (C := RX8) (T := TX8) (N := 31) dX8_takeOut_35 rfl iX8 L2 rfl rfl (by decide) rfl ?_
        refine v_iload_n hC 39 2 dX8_takeOut_38 rfl rfl rfl ?_
        refine v_aload_n hC 40 0 dX8_takeOut_39 rfl rfl rfl ?_
        refine v_get hC 43 0 19 (C := RX8) (T := TX8) (N := 31) dX8_takeOut_40 rfl iX8 L2 rfl rfl (by decide) rfl ?_
        refine v_iload_n hC 44 2 dX8_takeOut_43 rfl rfl rfl ?_
        refine v_iconst hC 45 dX8_takeOut_44 rfl ?_
        refine v_iadd hC 46 (k + 1) dX8_takeOut_45 rfl rfl ?_
        refine v_iald hC 47 13 dX8_takeOut_46 rfl rfl (by decide) (by omega) ?_
        refine v_iast hC 48 13 [oM am mwide mhigh mborder mpattern mdoor mpieces mtiles (mrests - 1) mcrates mmoves manyLaid mgrout mhour mthrown, aC (cs 0) (am 1) 96 mpillar, aC (cs 0) (am 2) 12 mshut, aC (cs 0) (am 3) 96 mpk, aC (cs 0) (am 4) 96 mpf, aC (cs 0) (am 5) 96 mpn, aC (cs 0) (am 6) 96 mpr, aC (cs 0) (am 7) 96 mleft, aC (cs 0) (am 8) 96 mright, aC (cs 0) (am 9) 96 mtop, aC (cs 0) (am 10) 96 mbottom, aC (cs 0) (am 11) 96 mat, aC (cs 0) (am 12) 100 (uI rw2 k (rw2 (k + 1))), aC (cs 0) (am 13) 100 (uI rh2 k (rh2 (k + 1))), aC (cs 0) (am 14) 100 rp2, aC (cs 0) (am 15) 20 mcf, aC (cs 0) (am 16) 20 mcn, aC (cs 0) (am 17) 8 mdry] dX8_takeOut_47 rfl rfl (by decide) (by omega) rfl ?_
        refine v_aload_n hC 49 0 dX8_takeOut_48 rfl rfl rfl ?_
        refine v_get hC 52 0 20 (C := RX8) (T := TX8) (N := 31) dX8_takeOut_49 rfl iX8 L3 rfl rfl (by decide) rfl ?_
        refine v_iload_n hC 53 2 dX8_takeOut_52 rfl rfl rfl ?_
        refine v_aload_n hC 54 0 dX8_takeOut_53 rfl rfl rfl ?_
        refine v_get hC 57 0 20 (C := RX8) (T := TX8) (N := 31) dX8_takeOut_54 rfl iX8 L3 rfl rfl (by decide) rfl ?_
        refine v_iload_n hC 58 2 dX8_takeOut_57 rfl rfl rfl ?_
        refine v_iconst hC 59 dX8_takeOut_58 rfl ?_
        refine v_iadd hC 60 (k + 1) dX8_takeOut_59 rfl rfl ?_
        refine v_iald hC 61 14 dX8_takeOut_60 rfl rfl (by decide) (by omega) ?_
        refine v_iast hC 62 14 [oM am mwide mhigh mborder mpattern mdoor mpieces mtiles (mrests - 1) mcrates mmoves manyLaid mgrout mhour mthrown, aC (cs 0) (am 1) 96 mpillar, aC (cs 0) (am 2) 12 mshut, aC (cs 0) (am 3) 96 mpk, aC (cs 0) (am 4) 96 mpf, aC (cs 0) (am 5) 96 mpn, aC (cs 0) (am 6) 96 mpr, aC (cs 0) (am 7) 96 mleft, aC (cs 0) (am 8) 96 mright, aC (cs 0) (am 9) 96 mtop, aC (cs 0) (am 10) 96 mbottom, aC (cs 0) (am 11) 96 mat, aC (cs 0) (am 12) 100 (uI rw2 k (rw2 (k + 1))), aC (cs 0) (am 13) 100 (uI rh2 k (rh2 (k + 1))), aC (cs 0) (am 14) 100 (uI rp2 k (rp2 (k + 1))), aC (cs 0) (am 15) 20 mcf, aC (cs 0) (am 16) 20 mcn, aC (cs 0) (am 17) 8 mdry] dX8_takeOut_61 rfl rfl (by decide) (by omega) rfl ?_
        refine v_iinc hC 65 2 [(2, .int (iI (k + 1))), (0, .ref (am 0)), (1, .int (iI x))] dX8_takeOut_62 rfl rfl (by decide) rfl ?_
        refine v_goto hC 12 dX8_takeOut_65 (by decide) ?_
        exact v_sub [0, 1, 2, 3, 4, 5, 6, 7, 8, 9, 10, 11, 12, 13, 14, 15, 16, 17] [1, 2, 0] _ _ rfl rfl rfl (ih_12 (k + 1) (uI rw2 k (rw2 (k + 1))) (uI rh2 k (rh2 (k + 1))) (uI rp2 k (rp2 (k + 1))) (by omega) (by rw [hrw2, show sh mrw x (k + 1) (k + 1) = mrw (k + 1) from sh_at mrw]; exact sh_step' mrw (by omega)) (by rw [hrh2, show sh mrh x (k + 1) (k + 1) = mrh (k + 1) from sh_at mrh]; exact sh_step' mrh (by omega)) (by rw [hrp2, show sh mrp x (k + 1) (k + 1) = mrp (k + 1) from sh_at mrp]; exact sh_step' mrp (by omega)) (by omega))
  exact v_sub [0, 1, 2, 3, 4, 5, 6, 7, 8, 9, 10, 11, 12, 13, 14, 15, 16, 17] [1, 2, 0] _ _ rfl rfl rfl (cut_12 (Int.toNat (mrests - x) + 1) x mrw mrh mrp (by omega) (by exact (sh_0 mrw x).symm) (by exact (sh_0 mrh x).symm) (by exact (sh_0 mrp x).symm) (by omega))

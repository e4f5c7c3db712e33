set_option maxHeartbeats 4000000 in
set_option maxRecDepth 100000 in
theorem c_X8_plan (lx : Launch) (D : va_G) (cs : Nat → ClassId) (am : Nat → Nat) (mwide : Int) (mhigh : Int) (mborder : Int) (mpattern : Int) (mdoor : Int) (mpieces : Int) (mtiles : Int) (mrests : Int) (mcrates : Int) (mmoves : Int) (manyLaid : Int) (mgrout : Int) (mhour : Int) (mthrown : Int) (mpillar : Int → Int) (mshut : Int → Int) (mpk : Int → Int) (mpf : Int → Int) (mpn : Int → Int) (mpr : Int → Int) (mleft : Int → Int) (mright : Int → Int) (mtop : Int → Int) (mbottom : Int → Int) (mat : Int → Int) (mrw : Int → Int) (mrh : Int → Int) (mrp : Int → Int) (mcf : Int → Int) (mcn : Int → Int) (mdry : Int → Int) (w : Int) (h : Int) (b : Int) (q : Int) (r1 : -2147483648 ≤ w ∧ w < 2147483648) (r2 : -2147483648 ≤ h ∧ h < 2147483648) (r3 : -2147483648 ≤ b ∧ b < 2147483648) (r4 : -2147483648 ≤ q ∧ q < 2147483648) (hok : ((1 ≤ w ∧ w ≤ 4) ∧ (1 ≤ h ∧ h ≤ 4) ∧ (0 ≤ b ∧ b ≤ 2) ∧ 0 ≤ q ∧ q ≤ 1)) (hany : manyLaid = 0) (hpl : Rn mpillar 0 1) (hsh : Rn mshut 0 1) (hpk : Rn mpk 0 2) (hR : Rok (mrests, mrw, mrh, mrp) 96) : Ci lx D cs yX8_plan wsX8_plan ({ frames := 4, cells := 0, slots := 0, locals := 100 }) [.ref (am 0), .int (iI w), .int (iI h), .int (iI b), .int (iI q)] [oM am mwide mhigh mborder mpattern mdoor mpieces mtiles mrests mcrates mmoves manyLaid mgrout mhour mthrown, aC (cs 0) (am 1) 96 mpillar, aC (cs 0) (am 2) 12 mshut, aC (cs 0) (am 3) 96 mpk, aC (cs 0) (am 4) 96 mpf, aC (cs 0) (am 5) 96 mpn, aC (cs 0) (am 6) 96 mpr, aC (cs 0) (am 7) 96 mleft, aC (cs 0) (am 8) 96 mright, aC (cs 0) (am 9) 96 mtop, aC (cs 0) (am 10) 96 mbottom, aC (cs 0) (am 11) 96 mat, aC (cs 0) (am 12) 100 mrw, aC (cs 0) (am 13) 100 mrh, aC (cs 0) (am 14) 100 mrp, aC (cs 0) (am 15) 20 mcf, aC (cs 0) (am 16) 20 mcn, aC (cs 0) (am 17) 8 mdry] (fun (z : Int) (u : Int × (Int → Int) × (Int → Int) × (Int → Int) × (Int → Int) × (Int → Int) × (Int → Int) × (Int → Int) × (Int → Int) × Int × Int × (Int → Int) × (Int → Int) × (Int → Int) × (Int → Int)) => (z = u.1) ∧ (MFI w h b q (mbar mpillar mshut) 96 u.1 u.2.1 u.2.2.1 u.2.2.2.1 u.2.2.2.2.1 u.2.2.2.2.2.1 u.2.2.2.2.2.2.1 u.2.2.2.2.2.2.2.1 u.2.2.2.2.2.2.2.2.1) ∧ (Rn u.2.2.1 0 2) ∧ (((u.2.2.2.2.2.2.2.2.2.2.1, u.2.2.2.2.2.2.2.2.2.2.2.1, u.2.2.2.2.2.2.2.2.2.2.2.2.1, u.2.2.2.2.2.2.2.2.2.2.2.2.2.1) : Rs) = ctR w h u.2.2.1 (mbw u.2.2.2.2.2.2.1 u.2.2.2.2.2.1) (mbw u.2.2.2.2.2.2.2.2.1 u.2.2.2.2.2.2.2.1) (mrests, mrw, mrh, mrp) u.1.toNat) ∧ (u.2.2.2.2.2.2.2.2.2.1 = ctT w h u.2.2.1 (mbw u.2.2.2.2.2.2.1 u.2.2.2.2.2.1) (mbw u.2.2.2.2.2.2.2.2.1 u.2.2.2.2.2.2.2.1) (mrests, mrw, mrh, mrp) u.1.toNat) ∧ (∀ j : Int, 0 ≤ j → j < u.1 → u.2.2.2.2.2.2.2.2.2.2.2.2.2.2 j = ctS w h u.2.2.1 (mbw u.2.2.2.2.2.2.1 u.2.2.2.2.2.1) (mbw u.2.2.2.2.2.2.2.2.1 u.2.2.2.2.2.2.2.1) (mrests, mrw, mrh, mrp) j.toNat)) (fun u : Int × (Int → Int) × (Int → Int) × (Int → Int) × (Int → Int) × (Int → Int) × (Int → Int) × (Int → Int) × (Int → Int) × Int × Int × (Int → Int) × (Int → Int) × (Int → Int) × (Int → Int) => [oM am w h b q mdoor u.1 u.2.2.2.2.2.2.2.2.2.1 u.2.2.2.2.2.2.2.2.2.2.1 mcrates mmoves manyLaid mgrout mhour 0, aC (cs 0) (am 1) 96 mpillar, aC (cs 0) (am 2) 12 mshut, aC (cs 0) (am 3) 96 u.2.2.1, aC (cs 0) (am 4) 96 u.2.2.2.1, aC (cs 0) (am 5) 96 u.2.2.2.2.1, aC (cs 0) (am 6) 96 u.2.2.2.2.2.2.2.2.2.2.2.2.2.2, aC (cs 0) (am 7) 96 u.2.2.2.2.2.1, aC (cs 0) (am 8) 96 u.2.2.2.2.2.2.1, aC (cs 0) (am 9) 96 u.2.2.2.2.2.2.2.1, aC (cs 0) (am 10) 96 u.2.2.2.2.2.2.2.2.1, aC (cs 0) (am 11) 96 u.2.1, aC (cs 0) (am 12) 100 u.2.2.2.2.2.2.2.2.2.2.2.1, aC (cs 0) (am 13) 100 u.2.2.2.2.2.2.2.2.2.2.2.2.1, aC (cs 0) (am 14) 100 u.2.2.2.2.2.2.2.2.2.2.2.2.2.1, aC (cs 0) (am 15) 20 mcf, aC (cs 0) (am 16) 20 mcn, aC (cs 0) (am 17) 8 mdry]) 0 0 := by
  refine Ci_of (cc := cX8_plan) (nL := 6) (ret := (some .int)) (lv0 := [(0, .ref (am 0)), (1, .int (iI w)), (2, .int (iI h)), (3, .int (iI b)), (4, .int (iI q))]) RX8 "plan" (by decide +kernel) rfl (Nat.le_of_ble_eq_true rfl) rfl (fun p9 e9 s9 m9 ar9 be9 me9 c9 A9 Q9 hQ hC => ?_)
  have iX8 : ∀ w ∈ wsX80, w ∈ wsX8_plan := by decide +kernel
  have L0 : Cond.fieldLink RX8 129 "GroutlineModel" "anyLaid" "Z" ∈ wsX8_plan := by decide +kernel
  have L1 : Cond.fieldLink RX8 7 "GroutlineModel" "wide" "I" ∈ wsX8_plan := by decide +kernel
  have L2 : Cond.fieldLink RX8 13 "GroutlineModel" "high" "I" ∈ wsX8_plan := by decide +kernel
  have L3 : Cond.fieldLink RX8 80 "GroutlineModel" "border" "I" ∈ wsX8_plan := by decide +kernel
  have L4 : Cond.fieldLink RX8 83 "GroutlineModel" "pattern" "I" ∈ wsX8_plan := by decide +kernel
  have L5 : Cond.fieldLink RX8 94 "GroutlineModel" "pieces" "I" ∈ wsX8_plan := by decide +kernel
  refine v_aload_n hC 1 0 dX8_plan_0 rfl rfl rfl ?_
  refine v_iload_n hC 2 1 dX8_plan_1 rfl rfl rfl ?_
  refine v_iconst hC 3 dX8_plan_2 rfl ?_
  refine v_iconst hC 4 dX8_plan_3 rfl ?_
  refine v_callVi hC 7 3 [0, 1, 2, 3, 4, 5, 6, 7, 8, 9, 10, 11, 12, 13, 14, 15, 16, 17] [] [] (As := [.int (iI w), .int (iI 1), .int (iI 4)]) (rest := []) (c_X8_in lx D cs am mwide mhigh mborder mpattern mdoor mpieces mtiles mrests mcrates mmoves manyLaid mgrout mhour mthrown mpillar mshut mpk mpf mpn mpr mleft mright mtop mbottom mat mrw mrh mrp mcf mcn mdry w 1 4 (by omega) (by omega) (by omega)) dX8_plan_4 rfl rfl 0 rfl rfl gX8_plan_X8_in rfl rfl rfl (by decide +kernel) ⟨by decide, by decide⟩ rfl rfl rfl rfl (by decide) rfl (Nat.le_of_ble_eq_true rfl) ⟨rfl, rfl⟩ ⟨by decide, by decide⟩ (fun z4 u4 h4 => ?_)
  (try dsimp only at h4)
  obtain ⟨h4_1, h4_2⟩ := h4
  show V p9 lx e9 ({ frames := 4, cells := 0, slots := 0, locals := 100 }) s9 m9 ar9 be9 me9 c9 Q9 D A9 s9.heap 6 0 0 [oM am mwide mhigh mborder mpattern mdoor mpieces mtiles mrests mcrates mmoves manyLaid mgrout mhour mthrown, aC (cs 0) (am 1) 96 mpillar, aC (cs 0) (am 2) 12 mshut, aC (cs 0) (am 3) 96 mpk, aC (cs 0) (am 4) 96 mpf, aC (cs 0) (am 5) 96 mpn, aC (cs 0) (am 6) 96 mpr, aC (cs 0) (am 7) 96 mleft, aC (cs 0) (am 8) 96 mright, aC (cs 0) (am 9) 96 mtop, aC (cs 0) (am 10) 96 mbottom, aC (cs 0) (am 11) 96 mat, aC (cs 0) (am 12) 100 mrw, aC (cs 0) (am 13) 100 mrh, aC (cs 0) (am 14) 100 mrp, aC (cs 0) (am 15) 20 mcf, aC (cs 0) (am 16) 20 mcn, aC (cs 0) (am 17) 8 mdry] [(0, .ref (am 0)), (1, .int (iI w)), (2, .int (iI h)), (3, .int (iI b)), (4, .int (iI q))] 7 [.int (iI z4)]
  refine v_if_eq hC 45 10 dX8_plan_7 (by decide) rfl (by omega) (fun c_7 => ?_) (fun c_7 => ?_)
  · exfalso; omega
  · skip
    refine v_aload_n hC 11 0 dX8_plan_10 rfl rfl rfl ?_
    refine v_iload_n hC 12 2 dX8_plan_11 rfl rfl rfl ?_
    refine v_iconst hC 13 dX8_plan_12 rfl ?_
    refine v_iconst hC 14 dX8_plan_13 rfl ?_
    refine v_callVi hC 17 3 [0, 1, 2, 3, 4, 5, 6, 7, 8, 9, 10, 11, 12, 13, 14, 15, 16, 17] [] [] (As := [.int (iI h), .int (iI 1), .int (iI 4)]) (rest := []) (c_X8_in lx D cs am mwide mhigh mborder mpattern mdoor mpieces mtiles mrests mcrates mmoves manyLaid mgrout mhour mthrown mpillar mshut mpk mpf mpn mpr mleft mright mtop mbottom mat mrw mrh mrp mcf mcn mdry h 1 4 (by omega) (by omega) (by omega)) dX8_plan_14 rfl rfl 0 rfl rfl gX8_plan_X8_in rfl rfl rfl (by decide +kernel) ⟨by decide, by decide⟩ rfl rfl rfl rfl (by decide) rfl (Nat.le_of_ble_eq_true rfl) ⟨rfl, rfl⟩ ⟨by decide, by decide⟩ (fun z14 u14 h14 => ?_)
    (try dsimp only at h14)
    obtain ⟨h14_1, h14_2⟩ := h14
    show V p9 lx e9 ({ frames := 4, cells := 0, slots := 0, locals := 100 }) s9 m9 ar9 be9 me9 c9 Q9 D A9 s9.heap 6 0 0 [oM am mwide mhigh mborder mpattern mdoor mpieces mtiles mrests mcrates mmoves manyLaid mgrout mhour mthrown, aC (cs 0) (am 1) 96 mpillar, aC (cs 0) (am 2) 12 mshut, aC (cs 0) (am 3) 96 mpk, aC (cs 0) (am 4) 96 mpf, aC (cs 0) (am 5) 96 mpn, aC (cs 0) (am 6) 96 mpr, aC (cs 0) (am 7) 96 mleft, aC (cs 0) (am 8) 96 mright, aC (cs 0) (am 9) 96 mtop, aC (cs 0) (am 10) 96 mbottom, aC (cs 0) (am 11) 96 mat, aC (cs 0) (am 12) 100 mrw, aC (cs 0) (am 13) 100 mrh, aC (cs 0) (am 14) 100 mrp, aC (cs 0) (am 15) 20 mcf, aC (cs 0) (am 16) 20 mcn, aC (cs 0) (am 17) 8 mdry] [(0, .ref (am 0)), (1, .int (iI w)), (2, .int (iI h)), (3, .int (iI b)), (4, .int (iI q))] 17 [.int (iI z14)]
    refine v_if_eq hC 45 20 dX8_plan_17 (by decide) rfl (by omega) (fun c_17 => ?_) (fun c_17 => ?_)
    · exfalso; omega
    · skip
      refine v_aload_n hC 21 0 dX8_plan_20 rfl rfl rfl ?_
      refine v_iload_n hC 22 3 dX8_plan_21 rfl rfl rfl ?_
      refine v_iconst hC 23 dX8_plan_22 rfl ?_
      refine v_iconst hC 24 dX8_plan_23 rfl ?_
      refine v_callVi hC 27 3 [0, 1, 2, 3, 4, 5, 6, 7, 8, 9, 10, 11, 12, 13, 14, 15, 16, 17] [] [] (As := [.int (iI b), .int (iI 0), .int (iI 2)]) (rest := []) (c_X8_in lx D cs am mwide mhigh mborder mpattern mdoor mpieces mtiles mrests mcrates mmoves manyLaid mgrout mhour mthrown mpillar mshut mpk mpf mpn mpr mleft mright mtop mbottom mat mrw mrh mrp mcf mcn mdry b 0 2 (by omega) (by omega) (by omega)) dX8_plan_24 rfl rfl 0 rfl rfl gX8_plan_X8_in rfl rfl rfl (by decide +kernel) ⟨by decide, by decide⟩ rfl rfl rfl rfl (by decide) rfl (Nat.le_of_ble_eq_true rfl) ⟨rfl, rfl⟩ ⟨by decide, by decide⟩ (fun z24 u24 h24 => ?_)
      (try dsimp only at h24)
      obtain ⟨h24_1, h24_2⟩ := h24
      show V p9 lx e9 ({ frames := 4, cells := 0, slots := 0, locals := 100 }) s9 m9 ar9 be9 me9 c9 Q9 D A9 s9.heap 6 0 0 [oM am mwide mhigh mborder mpattern mdoor mpieces mtiles mrests mcrates mmoves manyLaid mgrout mhour mthrown, aC (cs 0) (am 1) 96 mpillar, aC (cs 0) (am 2) 12 mshut, aC (cs 0) (am 3) 96 mpk, aC (cs 0) (am 4) 96 mpf, aC (cs 0) (am 5) 96 mpn, aC (cs 0) (am 6) 96 mpr, aC (cs 0) (am 7) 96 mleft, aC (cs 0) (am 8) 96 mright, aC (cs 0) (am 9) 96 mtop, aC (cs 0) (am 10) 96 mbottom, aC (cs 0) (am 11) 96 mat, aC (cs 0) (am 12) 100 mrw, aC (cs 0) (am 13) 100 mrh, aC (cs 0) (am 14) 100 mrp, aC (cs 0) (am 15) 20 mcf, aC (cs 0) (am 16) 20 mcn, aC (cs 0) (am 17) 8 mdry] [(0, .ref (am 0)), (1, .int (iI w)), (2, .int (iI h)), (3, .int (iI b)), (4, .int (iI q))] 27 [.int (iI z24)]
      refine v_if_eq hC 45 30 dX8_plan_27 (by decide) rfl (by omega) (fun c_27 => ?_) (fun c_27 => ?_)
      · exfalso; omega
      · skip
        refine v_aload_n hC 31 0 dX8_plan_30 rfl rfl rfl ?_
        refine v_iload hC 33 4 dX8_plan_31 rfl rfl ?_
        refine v_iconst hC 34 dX8_plan_33 rfl ?_
        refine v_iconst hC 35 dX8_plan_34 rfl ?_
        refine v_callVi hC 38 3 [0, 1, 2, 3, 4, 5, 6, 7, 8, 9, 10, 11, 12, 13, 14, 15, 16, 17] [] [] (As := [.int (iI q), .int (iI 0), .int (iI 1)]) (rest := []) (c_X8_in lx D cs am mwide mhigh mborder mpattern mdoor mpieces mtiles mrests mcrates mmoves manyLaid mgrout mhour mthrown mpillar mshut mpk mpf mpn mpr mleft mright mtop mbottom mat mrw mrh mrp mcf mcn mdry q 0 1 (by omega) (by omega) (by omega)) dX8_plan_35 rfl rfl 0 rfl rfl gX8_plan_X8_in rfl rfl rfl (by decide +kernel) ⟨by decide, by decide⟩ rfl rfl rfl rfl (by decide) rfl (Nat.le_of_ble_eq_true rfl) ⟨rfl, rfl⟩ ⟨by decide, by decide⟩ (fun z35 u35 h35 => ?_)
        (try dsimp only at h35)
        obtain ⟨h35_1, h35_2⟩ := h35
        show V p9 lx e9 ({ frames := 4, cells := 0, slots := 0, locals := 100 }) s9 m9 ar9 be9 me9 c9 Q9 D A9 s9.heap 6 0 0 [oM am mwide mhigh mborder mpattern mdoor mpieces mtiles mrests mcrates mmoves manyLaid mgrout mhour mthrown, aC (cs 0) (am 1) 96 mpillar, aC (cs 0) (am 2) 12 mshut, aC (cs 0) (am 3) 96 mpk, aC (cs 0) (am 4) 96 mpf, aC (cs 0) (am 5) 96 mpn, aC (cs 0) (am 6) 96 mpr, aC (cs 0) (am 7) 96 mleft, aC (cs 0) (am 8) 96 mright, aC (cs 0) (am 9) 96 mtop, aC (cs 0) (am 10) 96 mbottom, aC (cs 0) (am 11) 96 mat, aC (cs 0) (am 12) 100 mrw, aC (cs 0) (am 13) 100 mrh, aC (cs 0) (am 14) 100 mrp, aC (cs 0) (am 15) 20 mcf, aC (cs 0) (am 16) 20 mcn, aC (cs 0) (am 17) 8 mdry] [(0, .ref (am 0)), (1, .int (iI w)), (2, .int (iI h)), (3, .int (iI b)), (4, .int (iI q))] 38 [.int (iI z35)]
        refine v_if_eq hC 45 41 dX8_plan_38 (by decide) rfl (by omega) (fun c_38 => ?_) (fun c_38 => ?_)
        · exfalso; omega
        · skip
          refine v_iconst hC 42 dX8_plan_41 rfl ?_
          refine v_goto hC 46 dX8_plan_42 (by decide) ?_
          refine v_istore hC 48 [(5, .int (iI 1)), (0, .ref (am 0)), (1, .int (iI w)), (2, .int (iI h)), (3, .int (iI b)), (4, .int (iI q))] dX8_plan_46 rfl (by decide) rfl ?_
          refine v_aload_n hC 49 1 dX8_plan_48 rfl rfl rfl ?_
          refine v_iload hC 51 0 dX8_plan_49 rfl rfl ?_
          refine v_if_ne hC 58 54 dX8_plan_51 (by decide) rfl (by omega) (fun c_51 => ?_) (fun c_51 => ?_)
          · skip
            refine v_aload_n hC 59 1 dX8_plan_58 rfl rfl rfl ?_
            refine v_get hC 62 0 27 (C := RX8) (T := TX8) (N := 31) dX8_plan_59 rfl iX8 L0 rfl rfl (by decide) rfl ?_
            refine v_if_eq hC 69 65 dX8_plan_62 (by decide) rfl (by omega) (fun c_62 => ?_) (fun c_62 => ?_)
            · skip
              refine v_iconst hC 70 dX8_plan_69 rfl ?_
              refine v_callVi hC 73 1 [0, 1, 2, 3, 4, 5, 6, 7, 8, 9, 10, 11, 12, 13, 14, 15, 16, 17] [] [] (As := [.int (iI 0)]) (rest := []) (c_X8_holds lx D cs am mwide mhigh mborder mpattern mdoor mpieces mtiles mrests mcrates mmoves manyLaid mgrout mhour mthrown mpillar mshut mpk mpf mpn mpr mleft mright mtop mbottom mat mrw mrh mrp mcf mcn mdry 0 (by omega)) dX8_plan_70 rfl rfl 0 rfl rfl gX8_plan_X8_holds rfl rfl rfl (by decide +kernel) ⟨by decide, by decide⟩ rfl rfl rfl rfl (by decide) rfl (Nat.le_of_ble_eq_true rfl) ⟨rfl, rfl⟩ ⟨by decide, by decide⟩ (fun z70 u70 h70 => ?_)
              (try dsimp only at h70)
              obtain ⟨h70_1, h70_2⟩ := h70
              show V p9 lx e9 ({ frames := 4, cells := 0, slots := 0, locals := 100 }) s9 m9 ar9 be9 me9 c9 Q9 D A9 s9.heap 6 0 0 [oM am mwide mhigh mborder mpattern mdoor mpieces mtiles mrests mcrates mmoves manyLaid mgrout mhour 0, aC (cs 0) (am 1) 96 mpillar, aC (cs 0) (am 2) 12 mshut, aC (cs 0) (am 3) 96 mpk, aC (cs 0) (am 4) 96 mpf, aC (cs 0) (am 5) 96 mpn, aC (cs 0) (am 6) 96 mpr, aC (cs 0) (am 7) 96 mleft, aC (cs 0) (am 8) 96 mright, aC (cs 0) (am 9) 96 mtop, aC (cs 0) (am 10) 96 mbottom, aC (cs 0) (am 11) 96 mat, aC (cs 0) (am 12) 100 mrw, aC (cs 0) (am 13) 100 mrh, aC (cs 0) (am 14) 100 mrp, aC (cs 0) (am 15) 20 mcf, aC (cs 0) (am 16) 20 mcn, aC (cs 0) (am 17) 8 mdry] [(5, .int (iI 1)), (0, .ref (am 0)), (1, .int (iI w)), (2, .int (iI h)), (3, .int (iI b)), (4, .int (iI q))] 73 [.int (iI z70)]
              refine v_if_eq hC 78 76 dX8_plan_73 (by decide) rfl (by omega) (fun c_73 => ?_) (fun c_73 => ?_)
              · skip
                refine v_aload_n hC 79 1 dX8_plan_78 rfl rfl rfl ?_
                refine v_iload_n hC 80 2 dX8_plan_79 rfl rfl rfl ?_
                refine v_put hC 83 0 0 [oM am w mhigh mborder mpattern mdoor mpieces mtiles mrests mcrates mmoves manyLaid mgrout mhour 0, aC (cs 0) (am 1) 96 mpillar, aC (cs 0) (am 2) 12 mshut, aC (cs 0) (am 3) 96 mpk, aC (cs 0) (am 4) 96 mpf, aC (cs 0) (am 5) 96 mpn, aC (cs 0) (am 6) 96 mpr, aC (cs 0) (am 7) 96 mleft, aC (cs 0) (am 8) 96 mright, aC (cs 0) (am 9) 96 mtop, aC (cs 0) (am 10) 96 mbottom, aC (cs 0) (am 11) 96 mat, aC (cs 0) (am 12) 100 mrw, aC (cs 0) (am 13) 100 mrh, aC (cs 0) (am 14) 100 mrp, aC (cs 0) (am 15) 20 mcf, aC (cs 0) (am 16) 20 mcn, aC (cs 0) (am 17) 8 mdry] (C := RX8) (T := TX8) (N := 31) dX8_plan_80 rfl iX8 tyX8_ok nmX8 L1 rfl rfl (by decide) rfl rfl rfl (Nat.le_of_ble_eq_true rfl) rfl ?_
                refine v_aload_n hC 84 1 dX8_plan_83 rfl rfl rfl ?_
                refine v_iload_n hC 85 3 dX8_plan_84 rfl rfl rfl ?_
                refine v_put hC 88 0 1 [oM am w h mborder mpattern mdoor mpieces mtiles mrests mcrates mmoves manyLaid mgrout mhour 0, aC (cs 0) (am 1) 96 mpillar, aC (cs 0) (am 2) 12 mshut, aC (cs 0) (am 3) 96 mpk, aC (cs 0) (am 4) 96 mpf, aC (cs 0) (am 5) 96 mpn, aC (cs 0) (am 6) 96 mpr, aC (cs 0) (am 7) 96 mleft, aC (cs 0) (am 8) 96 mright, aC (cs 0) (am 9) 96 mtop, aC (cs 0) (am 10) 96 mbottom, aC (cs 0) (am 11) 96 mat, aC (cs 0) (am 12) 100 mrw, aC (cs 0) (am 13) 100 mrh, aC (cs 0) (am 14) 100 mrp, aC (cs 0) (am 15) 20 mcf, aC (cs 0) (am 16) 20 mcn, aC (cs 0) (am 17) 8 mdry] (C := RX8) (T := TX8) (N := 31) dX8_plan_85 rfl iX8 tyX8_ok nmX8 L2 rfl rfl (by decide) rfl rfl rfl (Nat.le_of_ble_eq_true rfl) rfl ?_
                refine v_aload_n hC 89 1 dX8_plan_88 rfl rfl rfl ?_
                refine v_iload_n hC 90 4 dX8_plan_89 rfl rfl rfl ?_
                refine v_put hC 93 0 2 [oM am w h b mpattern mdoor mpieces mtiles mrests mcrates mmoves manyLaid mgrout mhour 0, aC (cs 0) (am 1) 96 mpillar, aC (cs 0) (am 2) 12 mshut, aC (cs 0) (am 3) 96 mpk, aC (cs 0) (am 4) 96 mpf, aC (cs 0) (am 5) 96 mpn, aC (cs 0) (am 6) 96 mpr, aC (cs 0) (am 7) 96 mleft, aC (cs 0) (am 8) 96 mright, aC (cs 0) (am 9) 96 mtop, aC (cs 0) (am 10) 96 mbottom, aC (cs 0) (am 11) 96 mat, aC (cs 0) (am 12) 100 mrw, aC (cs 0) (am 13) 100 mrh, aC (cs 0) (am 14) 100 mrp, aC (cs 0) (am 15) 20 mcf, aC (cs 0) (am 16) 20 mcn, aC (cs 0) (am 17) 8 mdry] (C := RX8) (T := TX8) (N := 31) dX8_plan_90 rfl iX8 tyX8_ok nmX8 L3 rfl rfl (by decide) rfl rfl rfl (Nat.le_of_ble_eq_true rfl) rfl ?_
                refine v_aload_n hC 94 1 dX8_plan_93 rfl rfl rfl ?_
                refine v_iload hC 96 5 dX8_plan_94 rfl rfl ?_
                refine v_put hC 99 0 3 [oM am w h b q mdoor mpieces mtiles mrests mcrates mmoves manyLaid mgrout mhour 0, aC (cs 0) (am 1) 96 mpillar, aC (cs 0) (am 2) 12 mshut, aC (cs 0) (am 3) 96 mpk, aC (cs 0) (am 4) 96 mpf, aC (cs 0) (am 5) 96 mpn, aC (cs 0) (am 6) 96 mpr, aC (cs 0) (am 7) 96 mleft, aC (cs 0) (am 8) 96 mright, aC (cs 0) (am 9) 96 mtop, aC (cs 0) (am 10) 96 mbottom, aC (cs 0) (am 11) 96 mat, aC (cs 0) (am 12) 100 mrw, aC (cs 0) (am 13) 100 mrh, aC (cs 0) (am 14) 100 mrp, aC (cs 0) (am 15) 20 mcf, aC (cs 0) (am 16) 20 mcn, aC (cs 0) (am 17) 8 mdry] (C := RX8) (T := TX8) (N := 31) dX8_plan_96 rfl iX8 tyX8_ok nmX8 L4 rfl rfl (by decide) rfl rfl rfl (Nat.le_of_ble_eq_true rfl) rfl ?_
                refine v_aload_n hC 100 1 dX8_plan_99 rfl rfl rfl ?_
                refine v_callVv hC 103 0 [0, 1, 2, 3, 4, 5, 6, 7, 8, 9, 10, 11, 12, 13, 14, 15, 16, 17] [] [] (As := []) (rest := []) (c_X8_plans lx D cs am w h b q mdoor mpieces mtiles mrests mcrates mmoves manyLaid mgrout mhour 0 mpillar mshut mpk mpf mpn mpr mleft mright mtop mbottom mat mrw mrh mrp mcf mcn mdry (by omega) (by omega) (by omega) (by omega) (by assumption) (by assumption) (by assumption) (by assumption)) dX8_plan_100 rfl rfl 0 rfl rfl gX8_plan_X8_plans rfl rfl rfl (by decide +kernel) ⟨by decide, by decide⟩ rfl rfl rfl rfl (by decide) rfl (Nat.le_of_ble_eq_true rfl) ⟨rfl, rfl⟩ ⟨by decide, by decide⟩ (fun u100 h100 => ?_)
                obtain ⟨mpieces1_100, mat1_100, mpk1_100, mpf1_100, mpn1_100, mleft1_100, mright1_100, mtop1_100, mbottom1_100, mtiles1_100, mrests1_100, mrw1_100, mrh1_100, mrp1_100, mpr1_100⟩ := u100
                (try dsimp only at h100)
                obtain ⟨h100_1, h100_2, h100_3, h100_4, h100_5⟩ := h100
                show V p9 lx e9 ({ frames := 4, cells := 0, slots := 0, locals := 100 }) s9 m9 ar9 be9 me9 c9 Q9 D A9 s9.heap 6 0 0 [oM am w h b q mdoor mpieces1_100 mtiles1_100 mrests1_100 mcrates mmoves manyLaid mgrout mhour 0, aC (cs 0) (am 1) 96 mpillar, aC (cs 0) (am 2) 12 mshut, aC (cs 0) (am 3) 96 mpk1_100, aC (cs 0) (am 4) 96 mpf1_100, aC (cs 0) (am 5) 96 mpn1_100, aC (cs 0) (am 6) 96 mpr1_100, aC (cs 0) (am 7) 96 mleft1_100, aC (cs 0) (am 8) 96 mright1_100, aC (cs 0) (am 9) 96 mtop1_100, aC (cs 0) (am 10) 96 mbottom1_100, aC (cs 0) (am 11) 96 mat1_100, aC (cs 0) (am 12) 100 mrw1_100, aC (cs 0) (am 13) 100 mrh1_100, aC (cs 0) (am 14) 100 mrp1_100, aC (cs 0) (am 15) 20 mcf, aC (cs 0) (am 16) 20 mcn, aC (cs 0) (am 17) 8 mdry] [(5, .int (iI 1)), (0, .ref (am 0)), (1, .int (iI w)), (2, .int (iI h)), (3, .int (iI b)), (4, .int (iI q))] 103 []
                refine v_aload_n hC 104 1 dX8_plan_103 rfl rfl rfl ?_
                refine v_get hC 107 0 16 (C := RX8) (T := TX8) (N := 31) dX8_plan_104 rfl iX8 L5 rfl rfl (by decide) rfl ?_
                exact v_iret hC hQ (mpieces1_100, mat1_100, mpk1_100, mpf1_100, mpn1_100, mleft1_100, mright1_100, mtop1_100, mbottom1_100, mtiles1_100, mrests1_100, mrw1_100, mrh1_100, mrp1_100, mpr1_100) [0, 1, 2, 3, 4, 5, 6, 7, 8, 9, 10, 11, 12, 13, 14, 15, 16, 17] dX8_plan_107 rfl rfl ⟨by decide, by decide⟩ ⟨by (try dsimp only); all_goals (first | rfl | omega), by (try dsimp only); all_goals (exact h100_1), by (try dsimp only); all_goals (exact h100_2), by (try dsimp only); all_goals (exact h100_3), by (try dsimp only); all_goals (exact h100_4), by (try dsimp only); all_goals (exact h100_5)⟩
              · exfalso; omega
            · exfalso; omega
          · exfalso; exact absurd c_51 (by decide)

set_option maxHeartbeats 4000000 in
set_option maxRecDepth 100000 in
theorem n_X8_plan (lx : Launch) (D : va_G) (cs : Nat → ClassId) (am : Nat → Nat) (mwide : Int) (mhigh : Int) (mborder : Int) (mpattern : Int) (mdoor : Int) (mpieces : Int) (mtiles : Int) (mrests : Int) (mcrates : Int) (mmoves : Int) (manyLaid : Int) (mgrout : Int) (mhour : Int) (mthrown : Int) (mpillar : Int → Int) (mshut : Int → Int) (mpk : Int → Int) (mpf : Int → Int) (mpn : Int → Int) (mpr : Int → Int) (mleft : Int → Int) (mright : Int → Int) (mtop : Int → Int) (mbottom : Int → Int) (mat : Int → Int) (mrw : Int → Int) (mrh : Int → Int) (mrp : Int → Int) (mcf : Int → Int) (mcn : Int → Int) (mdry : Int → Int) (w : Int) (h : Int) (b : Int) (q : Int) (k : Int) (r1 : -2147483648 ≤ w ∧ w < 2147483648) (r2 : -2147483648 ≤ h ∧ h < 2147483648) (r3 : -2147483648 ≤ b ∧ b < 2147483648) (r4 : -2147483648 ≤ q ∧ q < 2147483648) (hany : manyLaid = 0 ∨ manyLaid = 1) (hno : (¬ ((1 ≤ w ∧ w ≤ 4) ∧ (1 ≤ h ∧ h ≤ 4) ∧ (0 ≤ b ∧ b ≤ 2) ∧ 0 ≤ q ∧ q ≤ 1) ∧ k = 1) ∨ (((1 ≤ w ∧ w ≤ 4) ∧ (1 ≤ h ∧ h ≤ 4) ∧ (0 ≤ b ∧ b ≤ 2) ∧ 0 ≤ q ∧ q ≤ 1) ∧ manyLaid = 1 ∧ k = 2)) : Ci lx D cs yX8_plan wsX8_plan ({ frames := 4, cells := 0, slots := 0, locals := 100 }) [.ref (am 0), .int (iI w), .int (iI h), .int (iI b), .int (iI q)] [oM am mwide mhigh mborder mpattern mdoor mpieces mtiles mrests mcrates mmoves manyLaid mgrout mhour mthrown, aC (cs 0) (am 1) 96 mpillar, aC (cs 0) (am 2) 12 mshut, aC (cs 0) (am 3) 96 mpk, aC (cs 0) (am 4) 96 mpf, aC (cs 0) (am 5) 96 mpn, aC (cs 0) (am 6) 96 mpr, aC (cs 0) (am 7) 96 mleft, aC (cs 0) (am 8) 96 mright, aC (cs 0) (am 9) 96 mtop, aC (cs 0) (am 10) 96 mbottom, aC (cs 0) (am 11) 96 mat, aC (cs 0) (am 12) 100 mrw, aC (cs 0) (am 13) 100 mrh, aC (cs 0) (am 14) 100 mrp, aC (cs 0) (am 15) 20 mcf, aC (cs 0) (am 16) 20 mcn, aC (cs 0) (am 17) 8 mdry] (fun (z : Int) (u : Unit) => True) (fun u : Unit => [oM am mwide mhigh mborder mpattern mdoor mpieces mtiles mrests mcrates mmoves manyLaid mgrout mhour k, aC (cs 0) (am 1) 96 mpillar, aC (cs 0) (am 2) 12 mshut, aC (cs 0) (am 3) 96 mpk, aC (cs 0) (am 4) 96 mpf, aC (cs 0) (am 5) 96 mpn, aC (cs 0) (am 6) 96 mpr, aC (cs 0) (am 7) 96 mleft, aC (cs 0) (am 8) 96 mright, aC (cs 0) (am 9) 96 mtop, aC (cs 0) (am 10) 96 mbottom, aC (cs 0) (am 11) 96 mat, aC (cs 0) (am 12) 100 mrw, aC (cs 0) (am 13) 100 mrh, aC (cs 0) (am 14) 100 mrp, aC (cs 0) (am 15) 20 mcf, aC (cs 0) (am 16) 20 mcn, aC (cs 0) (am 17) 8 mdry]) 0 0 := by
  refine Ci_of (cc := cX8_plan) (nL := 6) (ret := (some .int)) (lv0 := [(0, .ref (am 0)), (1, .int (iI w)), (2, .int (iI h)), (3, .int (iI b)), (4, .int (iI q))]) RX8 "plan" (by decide +kernel) rfl (Nat.le_of_ble_eq_true rfl) rfl (fun p9 e9 s9 m9 ar9 be9 me9 c9 A9 Q9 hQ hC => ?_)
  have iX8 : ∀ w ∈ wsX80, w ∈ wsX8_plan := by decide +kernel
  have L0 : Cond.fieldLink RX8 129 "GroutlineModel" "anyLaid" "Z" ∈ wsX8_plan := by decide +kernel
  refine v_aload_n hC 1 0 dX8_plan_0 rfl rfl rfl ?_
  refine v_iload_n hC 2 1 dX8_plan_1 rfl rfl rfl ?_
  refine v_iconst hC 3 dX8_plan_2 rfl ?_
  refine v_iconst hC 4 dX8_plan_3 rfl ?_
  refine v_callVi hC 7 3 [0, 1, 2, 3, 4, 5, 6, 7, 8, 9, 10, 11, 12, 13, 14, 15, 16, 17] [] [] (As := [.int (iI w), .int (iI 1), .int (iI 4)]) (rest := []) (c_X8_in lx D cs am mwide mhigh mborder mpattern mdoor mpieces mtiles mrests mcrates mmoves manyLaid mgrout mhour mthrown mpillar mshut mpk mpf mpn mpr mleft mright mtop mbottom mat mrw mrh mrp mcf mcn mdry w 1 4 (by omega) (by omega) (by omega)) dX8_plan_4 rfl rfl 0 rfl rfl gX8_plan_X8_in rfl rfl rfl (by decide +kernel) ⟨by decide, by decide⟩ rfl rfl rfl rfl (by decide) rfl (Nat.le_of_ble_eq_true rfl) ⟨rfl, rfl⟩ ⟨by decide, by decide⟩ (fun z4 u4 h4 => ?_)
  (try dsimp only at h4)
  obtain ⟨h4_1, h4_2⟩ := h4
  show V p9 lx e9 ({ frames := 4, cells := 0, slots := 0, locals := 100 }) s9 m9 ar9 be9 me9 c9 Q9 D A9 s9.heap 6 0 0 [oM am mwide mhigh mborder mpattern mdoor mpieces mtiles mrests mcrates mmoves manyLaid mgrout mhour mthrown, aC (cs 0) (am 1) 96 mpillar, aC (cs 0) (am 2) 12 mshut, aC (cs 0) (am 3) 96 mpk, aC (cs 0) (am 4) 96 mpf, aC (cs 0) (am 5) 96 mpn, aC (cs 0) (am 6) 96 mpr, aC (cs 0) (am 7) 96 mleft, aC (cs 0) (am 8) 96 mright, aC (cs 0) (am 9) 96 mtop, aC (cs 0) (am 10) 96 mbottom, aC (cs 0) (am 11) 96 mat, aC (cs 0) (am 12) 100 mrw, aC (cs 0) (am 13) 100 mrh, aC (cs 0) (am 14) 100 mrp, aC (cs 0) (am 15) 20 mcf, aC (cs 0) (am 16) 20 mcn, aC (cs 0) (am 17) 8 mdry] [(0, .ref (am 0)), (1, .int (iI w)), (2, .int (iI h)), (3, .int (iI b)), (4, .int (iI q))] 7 [.int (iI z4)]
  refine v_if_eq hC 45 10 dX8_plan_7 (by decide) rfl (by omega) (fun c_7 => ?_) (fun c_7 => ?_)
  · skip
    refine v_iconst hC 46 dX8_plan_45 rfl ?_
    refine v_istore hC 48 [(5, .int (iI 0)), (0, .ref (am 0)), (1, .int (iI w)), (2, .int (iI h)), (3, .int (iI b)), (4, .int (iI q))] dX8_plan_46 rfl (by decide) rfl ?_
    refine v_aload_n hC 49 1 dX8_plan_48 rfl rfl rfl ?_
    refine v_iload hC 51 0 dX8_plan_49 rfl rfl ?_
    refine v_if_ne hC 58 54 dX8_plan_51 (by decide) rfl (by omega) (fun c_51 => ?_) (fun c_51 => ?_)
    · exfalso; exact absurd c_51 (by decide)
    · skip
      refine v_iconst hC 55 dX8_plan_54 rfl ?_
      refine v_goto hC 70 dX8_plan_55 (by decide) ?_
      refine v_callVi hC 73 1 [0, 1, 2, 3, 4, 5, 6, 7, 8, 9, 10, 11, 12, 13, 14, 15, 16, 17] [] [] (As := [.int (iI 1)]) (rest := []) (c_X8_holds lx D cs am mwide mhigh mborder mpattern mdoor mpieces mtiles mrests mcrates mmoves manyLaid mgrout mhour mthrown mpillar mshut mpk mpf mpn mpr mleft mright mtop mbottom mat mrw mrh mrp mcf mcn mdry 1 (by omega)) dX8_plan_70 rfl rfl 0 rfl rfl gX8_plan_X8_holds rfl rfl rfl (by decide +kernel) ⟨by decide, by decide⟩ rfl rfl rfl rfl (by decide) rfl (Nat.le_of_ble_eq_true rfl) ⟨rfl, rfl⟩ ⟨by decide, by decide⟩ (fun z70 u70 h70 => ?_)
      (try dsimp only at h70)
      obtain ⟨h70_1, h70_2⟩ := h70
      show V p9 lx e9 ({ frames := 4, cells := 0, slots := 0, locals := 100 }) s9 m9 ar9 be9 me9 c9 Q9 D A9 s9.heap 6 0 0 [oM am mwide mhigh mborder mpattern mdoor mpieces mtiles mrests mcrates mmoves manyLaid mgrout mhour 1, aC (cs 0) (am 1) 96 mpillar, aC (cs 0) (am 2) 12 mshut, aC (cs 0) (am 3) 96 mpk, aC (cs 0) (am 4) 96 mpf, aC (cs 0) (am 5) 96 mpn, aC (cs 0) (am 6) 96 mpr, aC (cs 0) (am 7) 96 mleft, aC (cs 0) (am 8) 96 mright, aC (cs 0) (am 9) 96 mtop, aC (cs 0) (am 10) 96 mbottom, aC (cs 0) (am 11) 96 mat, aC (cs 0) (am 12) 100 mrw, aC (cs 0) (am 13) 100 mrh, aC (cs 0) (am 14) 100 mrp, aC (cs 0) (am 15) 20 mcf, aC (cs 0) (am 16) 20 mcn, aC (cs 0) (am 17) 8 mdry] [(5, .int (iI 0)), (0, .ref (am 0)), (1, .int (iI w)), (2, .int (iI h)), (3, .int (iI b)), (4, .int (iI q))] 73 [.int (iI z70)]
      refine v_if_eq hC 78 76 dX8_plan_73 (by decide) rfl (by omega) (fun c_73 => ?_) (fun c_73 => ?_)
      · exfalso; omega
      · skip
        refine v_iconst hC 77 dX8_plan_76 rfl ?_
        obtain rfl : k = 1 := by omega
        exact v_iret hC hQ () [0, 1, 2, 3, 4, 5, 6, 7, 8, 9, 10, 11, 12, 13, 14, 15, 16, 17] dX8_plan_77 rfl rfl ⟨by decide, by decide⟩ trivial
  · skip
    refine v_aload_n hC 11 0 dX8_plan_10 rfl rfl rfl ?_
    refine v_iload_n hC 12 2 dX8_plan_11 rfl rfl rfl ?_
    refine v_iconst hC 13 dX8_plan_12 rfl ?_
    refine v_iconst hC 14 dX8_plan_13 rfl ?_
    refine v_callVi hC 17 3 [0, 1, 2, 3, 4, 5, 6, 7, 8, 9, 10, 11, 12, 13, 14, 15, 16, 17] [] [] (As := [.int (iI h), .int (iI 1), .int (iI 4)]) (rest := []) (c_X8_in lx D cs am mwide mhigh mborder mpattern mdoor mpieces mtiles mrests mcrates mmoves manyLaid mgrout mhour mthrown mpillar mshut mpk mpf mpn mpr mleft mright mtop mbottom mat mrw mrh mrp mcf mcn mdry h 1 4 (by omega) (by omega) (by omega)) dX8_plan_14 rfl rfl 0 rfl rfl gX8_plan_X8_in rfl rfl rfl (by decide +kernel) ⟨by decide, by decide⟩ rfl rfl rfl rfl (by decide) rfl (Nat.le_of_ble_eq_true rfl) ⟨rfl, rfl⟩ ⟨by decide, by decide⟩ (fun z14 u14 h14 => ?_)
    (try dsimp only at h14)
    obtain ⟨h14_1, h14_2⟩ := h14
    show V p9 lx e9 ({ frames := 4, cells := 0, slots := 0, locals := 100 }) s9 m9 ar9 be9 me9 c9 Q9 D A9 s9.heap 6 0 0 [oM am mwide mhigh mborder mpattern mdoor mpieces mtiles mrests mcrates mmoves manyLaid mgrout mhour mthrown, aC (cs 0) (am 1) 96 mpillar, aC (cs 0) (am 2) 12 mshut, aC (cs 0) (am 3) 96 mpk, aC (cs 0) (am 4) 96 mpf, aC (cs 0) (am 5) 96 mpn, aC (cs 0) (am 6) 96 mpr, aC (cs 0) (am 7) 96 mleft, aC (cs 0) (am 8) 96 mright, aC (cs 0) (am 9) 96 mtop, aC (cs 0) (am 10) 96 mbottom, aC (cs 0) (am 11) 96 mat, aC (cs 0) (am 12) 100 mrw, aC (cs 0) (am 13) 100 mrh, aC (cs 0) (am 14) 100 mrp, aC (cs 0) (am 15) 20 mcf, aC (cs 0) (am 16) 20 mcn, aC (cs 0) (am 17) 8 mdry] [(0, .ref (am 0)), (1, .int (iI w)), (2, .int (iI h)), (3, .int (iI b)), (4, .int (iI q))] 17 [.int (iI z14)]
    refine v_if_eq hC 45 20 dX8_plan_17 (by decide) rfl (by omega) (fun c_17 => ?_) (fun c_17 => ?_)
    · skip
      refine v_iconst hC 46 dX8_plan_45 rfl ?_
      refine v_istore hC 48 [(5, .int (iI 0)), (0, .ref (am 0)), (1, .int (iI w)), (2, .int (iI h)), (3, .int (iI b)), (4, .int (iI q))] dX8_plan_46 rfl (by decide) rfl ?_
      refine v_aload_n hC 49 1 dX8_plan_48 rfl rfl rfl ?_
      refine v_iload hC 51 0 dX8_plan_49 rfl rfl ?_
      refine v_if_ne hC 58 54 dX8_plan_51 (by decide) rfl (by omega) (fun c_51 => ?_) (fun c_51 => ?_)
      · exfalso; exact absurd c_51 (by decide)
      · skip
        refine v_iconst hC 55 dX8_plan_54 rfl ?_
        refine v_goto hC 70 dX8_plan_55 (by decide) ?_
        refine v_callVi hC 73 1 [0, 1, 2, 3, 4, 5, 6, 7, 8, 9, 10, 11, 12, 13, 14, 15, 16, 17] [] [] (As := [.int (iI 1)]) (rest := []) (c_X8_holds lx D cs am mwide mhigh mborder mpattern mdoor mpieces mtiles mrests mcrates mmoves manyLaid mgrout mhour mthrown mpillar mshut mpk mpf mpn mpr mleft mright mtop mbottom mat mrw mrh mrp mcf mcn mdry 1 (by omega)) dX8_plan_70 rfl rfl 0 rfl rfl gX8_plan_X8_holds rfl rfl rfl (by decide +kernel) ⟨by decide, by decide⟩ rfl rfl rfl rfl (by decide) rfl (Nat.le_of_ble_eq_true rfl) ⟨rfl, rfl⟩ ⟨by decide, by decide⟩ (fun z70 u70 h70 => ?_)
        (try dsimp only at h70)
        obtain ⟨h70_1, h70_2⟩ := h70
        show V p9 lx e9 ({ frames := 4, cells := 0, slots := 0, locals := 100 }) s9 m9 ar9 be9 me9 c9 Q9 D A9 s9.heap 6 0 0 [oM am mwide mhigh mborder mpattern mdoor mpieces mtiles mrests mcrates mmoves manyLaid mgrout mhour 1, aC (cs 0) (am 1) 96 mpillar, aC (cs 0) (am 2) 12 mshut, aC (cs 0) (am 3) 96 mpk, aC (cs 0) (am 4) 96 mpf, aC (cs 0) (am 5) 96 mpn, aC (cs 0) (am 6) 96 mpr, aC (cs 0) (am 7) 96 mleft, aC (cs 0) (am 8) 96 mright, aC (cs 0) (am 9) 96 mtop, aC (cs 0) (am 10) 96 mbottom, aC (cs 0) (am 11) 96 mat, aC (cs 0) (am 12) 100 mrw, aC (cs 0) (am 13) 100 mrh, aC (cs 0) (am 14) 100 mrp, aC (cs 0) (am 15) 20 mcf, aC (cs 0) (am 16) 20 mcn, aC (cs 0) (am 17) 8 mdry] [(5, .int (iI 0)), (0, .ref (am 0)), (1, .int (iI w)), (2, .int (iI h)), (3, .int (iI b)), (4, .int (iI q))] 73 [.int (iI z70)]
        refine v_if_eq hC 78 76 dX8_plan_73 (by decide) rfl (by omega) (fun c_73 => ?_) (fun c_73 => ?_)
        · exfalso; omega
        · skip
          refine v_iconst hC 77 dX8_plan_76 rfl ?_
          obtain rfl : k = 1 := by omega
          exact v_iret hC hQ () [0, 1, 2, 3, 4, 5, 6, 7, 8, 9, 10, 11, 12, 13, 14, 15, 16, 17] dX8_plan_77 rfl rfl ⟨by decide, by decide⟩ trivial
    · skip
      refine v_aload_n hC 21 0 dX8_plan_20 rfl rfl rfl ?_
      refine v_iload_n hC 22 3 dX8_plan_21 rfl rfl rfl ?_
      refine v_iconst hC 23 dX8_plan_22 rfl ?_
      refine v_iconst hC 24 dX8_plan_23 rfl ?_
      refine v_callVi hC 27 3 [0, 1, 2, 3, 4, 5, 6, 7, 8, 9, 10, 11, 12, 13, 14, 15, 16, 17] [] [] (As := [.int (iI b), .int (iI 0), .int (iI 2)]) (rest := []) (c_X8_in lx D cs am mwide mhigh mborder mpattern mdoor mpieces mtiles mrests mcrates mmoves manyLaid mgrout mhour mthrown mpillar mshut mpk mpf mpn mpr mleft mright mtop mbottom mat mrw mrh mrp mcf mcn mdry b 0 2 (by omega) (by omega) (by omega)) dX8_plan_24 rfl rfl 0 rfl rfl gX8_plan_X8_in rfl rfl rfl (by decide +kernel) ⟨by decide, by decide⟩ rfl rfl rfl rfl (by decide) rfl (Nat.le_of_ble_eq_true rfl) ⟨rfl, rfl⟩ ⟨by decide, by decide⟩ (fun z24 u24 h24 => ?_)
      (try dsimp only at h24)
      obtain ⟨h24_1, h24_2⟩ := h24
      show V p9 lx e9 ({ frames := 4, cells := 0, slots := 0, locals := 100 }) s9 m9 ar9 be9 me9 c9 Q9 D A9 s9.heap 6 0 0 [oM am mwide mhigh mborder mpattern mdoor mpieces mtiles mrests mcrates mmoves manyLaid mgrout mhour mthrown, aC (cs 0) (am 1) 96 mpillar, aC (cs 0) (am 2) 12 mshut, aC (cs 0) (am 3) 96 mpk, aC (cs 0) (am 4) 96 mpf, aC (cs 0) (am 5) 96 mpn, aC (cs 0) (am 6) 96 mpr, aC (cs 0) (am 7) 96 mleft, aC (cs 0) (am 8) 96 mright, aC (cs 0) (am 9) 96 mtop, aC (cs 0) (am 10) 96 mbottom, aC (cs 0) (am 11) 96 mat, aC (cs 0) (am 12) 100 mrw, aC (cs 0) (am 13) 100 mrh, aC (cs 0) (am 14) 100 mrp, aC (cs 0) (am 15) 20 mcf, aC (cs 0) (am 16) 20 mcn, aC (cs 0) (am 17) 8 mdry] [(0, .ref (am 0)), (1, .int (iI w)), (2, .int (iI h)), (3, .int (iI b)), (4, .int (iI q))] 27 [.int (iI z24)]
      refine v_if_eq hC 45 30 dX8_plan_27 (by decide) rfl (by omega) (fun c_27 => ?_) (fun c_27 => ?_)
      · skip
        refine v_iconst hC 46 dX8_plan_45 rfl ?_
        refine v_istore hC 48 [(5, .int (iI 0)), (0, .ref (am 0)), (1, .int (iI w)), (2, .int (iI h)), (3, .int (iI b)), (4, .int (iI q))] dX8_plan_46 rfl (by decide) rfl ?_
        refine v_aload_n hC 49 1 dX8_plan_48 rfl rfl rfl ?_
        refine v_iload hC 51 0 dX8_plan_49 rfl rfl ?_
        refine v_if_ne hC 58 54 dX8_plan_51 (by decide) rfl (by omega) (fun c_51 => ?_) (fun c_51 => ?_)
        · exfalso; exact absurd c_51 (by decide)
        · skip
          refine v_iconst hC 55 dX8_plan_54 rfl ?_
          refine v_goto hC 70 dX8_plan_55 (by decide) ?_
          refine v_callVi hC 73 1 [0, 1, 2, 3, 4, 5, 6, 7, 8, 9, 10, 11, 12, 13, 14, 15, 16, 17] [] [] (As := [.int (iI 1)]) (rest := []) (c_X8_holds lx D cs am mwide mhigh mborder mpattern mdoor mpieces mtiles mrests mcrates mmoves manyLaid mgrout mhour mthrown mpillar mshut mpk mpf mpn mpr mleft mright mtop mbottom mat mrw mrh mrp mcf mcn mdry 1 (by omega)) dX8_plan_70 rfl rfl 0 rfl rfl gX8_plan_X8_holds rfl rfl rfl (by decide +kernel) ⟨by decide, by decide⟩ rfl rfl rfl rfl (by decide) rfl (Nat.le_of_ble_eq_true rfl) ⟨rfl, rfl⟩ ⟨by decide, by decide⟩ (fun z70 u70 h70 => ?_)
          (try dsimp only at h70)
          obtain ⟨h70_1, h70_2⟩ := h70
          show V p9 lx e9 ({ frames := 4, cells := 0, slots := 0, locals := 100 }) s9 m9 ar9 be9 me9 c9 Q9 D A9 s9.heap 6 0 0 [oM am mwide mhigh mborder mpattern mdoor mpieces mtiles mrests mcrates mmoves manyLaid mgrout mhour 1, aC (cs 0) (am 1) 96 mpillar, aC (cs 0) (am 2) 12 mshut, aC (cs 0) (am 3) 96 mpk, aC (cs 0) (am 4) 96 mpf, aC (cs 0) (am 5) 96 mpn, aC (cs 0) (am 6) 96 mpr, aC (cs 0) (am 7) 96 mleft, aC (cs 0) (am 8) 96 mright, aC (cs 0) (am 9) 96 mtop, aC (cs 0) (am 10) 96 mbottom, aC (cs 0) (am 11) 96 mat, aC (cs 0) (am 12) 100 mrw, aC (cs 0) (am 13) 100 mrh, aC (cs 0) (am 14) 100 mrp, aC (cs 0) (am 15) 20 mcf, aC (cs 0) (am 16) 20 mcn, aC (cs 0) (am 17) 8 mdry] [(5, .int (iI 0)), (0, .ref (am 0)), (1, .int (iI w)), (2, .int (iI h)), (3, .int (iI b)), (4, .int (iI q))] 73 [.int (iI z70)]
          refine v_if_eq hC 78 76 dX8_plan_73 (by decide) rfl (by omega) (fun c_73 => ?_) (fun c_73 => ?_)
          · exfalso; omega
          · skip
            refine v_iconst hC 77 dX8_plan_76 rfl ?_
            obtain rfl : k = 1 := by omega
            exact v_iret hC hQ () [0, 1, 2, 3, 4, 5, 6, 7, 8, 9, 10, 11, 12, 13, 14, 15, 16, 17] dX8_plan_77 rfl rfl ⟨by decide, by decide⟩ trivial
      · skip
        refine v_aload_n hC 31 0 dX8_plan_30 rfl rfl rfl ?_
        refine v_iload hC 33 4 dX8_plan_31 rfl rfl ?_
        refine v_iconst hC 34 dX8_plan_33 rfl ?_
        refine v_iconst hC 35 dX8_plan_34 rfl ?_
        refine v_callVi hC 38 3 [0, 1, 2, 3, 4, 5, 6, 7, 8, 9, 10, 11, 12, 13, 14, 15, 16, 17] [] [] (As := [.int (iI q), .int (iI 0), .int (iI 1)]) (rest := []) (c_X8_in lx D cs am mwide mhigh mborder mpattern mdoor mpieces mtiles mrests mcrates mmoves manyLaid mgrout mhour mthrown mpillar mshut mpk mpf mpn mpr mleft mright mtop mbottom mat mrw mrh mrp mcf mcn mdry q 0 1 (by omega) (by omega) (by omega)) dX8_plan_35 rfl rfl 0 rfl rfl gX8_plan_X8_in rfl rfl rfl (by decide +kernel) ⟨by decide, by decide⟩ rfl rfl rfl rfl (by decide) rfl (Nat.le_of_ble_eq_true rfl) ⟨rfl, rfl⟩ ⟨by decide, by decide⟩ (fun z35 u35 h35 => ?_)
        (try dsimp only at h35)
        obtain ⟨h35_1, h35_2⟩ := h35
        show V p9 lx e9 ({ frames := 4, cells := 0, slots := 0, locals := 100 }) s9 m9 ar9 be9 me9 c9 Q9 D A9 s9.heap 6 0 0 [oM am mwide mhigh mborder mpattern mdoor mpieces mtiles mrests mcrates mmoves manyLaid mgrout mhour mthrown, aC (cs 0) (am 1) 96 mpillar, aC (cs 0) (am 2) 12 mshut, aC (cs 0) (am 3) 96 mpk, aC (cs 0) (am 4) 96 mpf, aC (cs 0) (am 5) 96 mpn, aC (cs 0) (am 6) 96 mpr, aC (cs 0) (am 7) 96 mleft, aC (cs 0) (am 8) 96 mright, aC (cs 0) (am 9) 96 mtop, aC (cs 0) (am 10) 96 mbottom, aC (cs 0) (am 11) 96 mat, aC (cs 0) (am 12) 100 mrw, aC (cs 0) (am 13) 100 mrh, aC (cs 0) (am 14) 100 mrp, aC (cs 0) (am 15) 20 mcf, aC (cs 0) (am 16) 20 mcn, aC (cs 0) (am 17) 8 mdry] [(0, .ref (am 0)), (1, .int (iI w)), (2, .int (iI h)), (3, .int (iI b)), (4, .int (iI q))] 38 [.int (iI z35)]
        refine v_if_eq hC 45 41 dX8_plan_38 (by decide) rfl (by omega) (fun c_38 => ?_) (fun c_38 => ?_)
        · skip
          refine v_iconst hC 46 dX8_plan_45 rfl ?_
          refine v_istore hC 48 [(5, .int (iI 0)), (0, .ref (am 0)), (1, .int (iI w)), (2, .int (iI h)), (3, .int (iI b)), (4, .int (iI q))] dX8_plan_46 rfl (by decide) rfl ?_
          refine v_aload_n hC 49 1 dX8_plan_48 rfl rfl rfl ?_
          refine v_iload hC 51 0 dX8_plan_49 rfl rfl ?_
          refine v_if_ne hC 58 54 dX8_plan_51 (by decide) rfl (by omega) (fun c_51 => ?_) (fun c_51 => ?_)
          · exfalso; exact absurd c_51 (by decide)
          · skip
            refine v_iconst hC 55 dX8_plan_54 rfl ?_
            refine v_goto hC 70 dX8_plan_55 (by decide) ?_
            refine v_callVi hC 73 1 [0, 1, 2, 3, 4, 5, 6, 7, 8, 9, 10, 11, 12, 13, 14, 15, 16, 17] [] [] (As := [.int (iI 1)]) (rest := []) (c_X8_holds lx D cs am mwide mhigh mborder mpattern mdoor mpieces mtiles mrests mcrates mmoves manyLaid mgrout mhour mthrown mpillar mshut mpk mpf mpn mpr mleft mright mtop mbottom mat mrw mrh mrp mcf mcn mdry 1 (by omega)) dX8_plan_70 rfl rfl 0 rfl rfl gX8_plan_X8_holds rfl rfl rfl (by decide +kernel) ⟨by decide, by decide⟩ rfl rfl rfl rfl (by decide) rfl (Nat.le_of_ble_eq_true rfl) ⟨rfl, rfl⟩ ⟨by decide, by decide⟩ (fun z70 u70 h70 => ?_)
            (try dsimp only at h70)
            obtain ⟨h70_1, h70_2⟩ := h70
            show V p9 lx e9 ({ frames := 4, cells := 0, slots := 0, locals := 100 }) s9 m9 ar9 be9 me9 c9 Q9 D A9 s9.heap 6 0 0 [oM am mwide mhigh mborder mpattern mdoor mpieces mtiles mrests mcrates mmoves manyLaid mgrout mhour 1, aC (cs 0) (am 1) 96 mpillar, aC (cs 0) (am 2) 12 mshut, aC (cs 0) (am 3) 96 mpk, aC (cs 0) (am 4) 96 mpf, aC (cs 0) (am 5) 96 mpn, aC (cs 0) (am 6) 96 mpr, aC (cs 0) (am 7) 96 mleft, aC (cs 0) (am 8) 96 mright, aC (cs 0) (am 9) 96 mtop, aC (cs 0) (am 10) 96 mbottom, aC (cs 0) (am 11) 96 mat, aC (cs 0) (am 12) 100 mrw, aC (cs 0) (am 13) 100 mrh, aC (cs 0) (am 14) 100 mrp, aC (cs 0) (am 15) 20 mcf, aC (cs 0) (am 16) 20 mcn, aC (cs 0) (am 17) 8 mdry] [(5, .int (iI 0)), (0, .ref (am 0)), (1, .int (iI w)), (2, .int (iI h)), (3, .int (iI b)), (4, .int (iI q))] 73 [.int (iI z70)]
            refine v_if_eq hC 78 76 dX8_plan_73 (by decide) rfl (by omega) (fun c_73 => ?_) (fun c_73 => ?_)
            · exfalso; omega
            · skip
              refine v_iconst hC 77 dX8_plan_76 rfl ?_
              obtain rfl : k = 1 := by omega
              exact v_iret hC hQ () [0, 1, 2, 3, 4, 5, 6, 7, 8, 9, 10, 11, 12, 13, 14, 15, 16, 17] dX8_plan_77 rfl rfl ⟨by decide, by decide⟩ trivial
        · skip
          refine v_iconst hC 42 dX8_plan_41 rfl ?_
          refine v_goto hC 46 dX8_plan_42 (by decide) ?_
          refine v_istore hC 48 [(5, .int (iI 1)), (0, .ref (am 0)), (1, .int (iI w)), (2, .int (iI h)), (3, .int (iI b)), (4, .int (iI q))] dX8_plan_46 rfl (by decide) rfl ?_
          refine v_aload_n hC 49 1 dX8_plan_48 rfl rfl rfl ?_
          refine v_iload hC 51 0 dX8_plan_49 rfl rfl ?_
          refine v_if_ne hC 58 54 dX8_plan_51 (by decide) rfl (by omega) (fun c_51 => ?_) (fun c_51 => ?_)
          · skip
            refine v_aload_n hC 59 1 dX8_plan_58 rfl rfl rfl ?_
            refine v_get hC 62 0 27 (C := RX8) (T := TX8) (N := 31) dX8_plan_59 rfl iX8 L0 rfl rfl (by decide) rfl ?_
            refine v_if_eq hC 69 65 dX8_plan_62 (by decide) rfl (by omega) (fun c_62 => ?_) (fun c_62 => ?_)
            · exfalso; omega
            · skip
              refine v_iconst hC 66 dX8_plan_65 rfl ?_
              refine v_goto hC 70 dX8_plan_66 (by decide) ?_
              refine v_callVi hC 73 1 [0, 1, 2, 3, 4, 5, 6, 7, 8, 9, 10, 11, 12, 13, 14, 15, 16, 17] [] [] (As := [.int (iI 2)]) (rest := []) (c_X8_holds lx D cs am mwide mhigh mborder mpattern mdoor mpieces mtiles mrests mcrates mmoves manyLaid mgrout mhour mthrown mpillar mshut mpk mpf mpn mpr mleft mright mtop mbottom mat mrw mrh mrp mcf mcn mdry 2 (by omega)) dX8_plan_70 rfl rfl 0 rfl rfl gX8_plan_X8_holds rfl rfl rfl (by decide +kernel) ⟨by decide, by decide⟩ rfl rfl rfl rfl (by decide) rfl (Nat.le_of_ble_eq_true rfl) ⟨rfl, rfl⟩ ⟨by decide, by decide⟩ (fun z70 u70 h70 => ?_)
              (try dsimp only at h70)
              obtain ⟨h70_1, h70_2⟩ := h70
              show V p9 lx e9 ({ frames := 4, cells := 0, slots := 0, locals := 100 }) s9 m9 ar9 be9 me9 c9 Q9 D A9 s9.heap 6 0 0 [oM am mwide mhigh mborder mpattern mdoor mpieces mtiles mrests mcrates mmoves manyLaid mgrout mhour 2, aC (cs 0) (am 1) 96 mpillar, aC (cs 0) (am 2) 12 mshut, aC (cs 0) (am 3) 96 mpk, aC (cs 0) (am 4) 96 mpf, aC (cs 0) (am 5) 96 mpn, aC (cs 0) (am 6) 96 mpr, aC (cs 0) (am 7) 96 mleft, aC (cs 0) (am 8) 96 mright, aC (cs 0) (am 9) 96 mtop, aC (cs 0) (am 10) 96 mbottom, aC (cs 0) (am 11) 96 mat, aC (cs 0) (am 12) 100 mrw, aC (cs 0) (am 13) 100 mrh, aC (cs 0) (am 14) 100 mrp, aC (cs 0) (am 15) 20 mcf, aC (cs 0) (am 16) 20 mcn, aC (cs 0) (am 17) 8 mdry] [(5, .int (iI 1)), (0, .ref (am 0)), (1, .int (iI w)), (2, .int (iI h)), (3, .int (iI b)), (4, .int (iI q))] 73 [.int (iI z70)]
              refine v_if_eq hC 78 76 dX8_plan_73 (by decide) rfl (by omega) (fun c_73 => ?_) (fun c_73 => ?_)
              · exfalso; omega
              · skip
                refine v_iconst hC 77 dX8_plan_76 rfl ?_
                obtain rfl : k = 2 := by omega
                exact v_iret hC hQ () [0, 1, 2, 3, 4, 5, 6, 7, 8, 9, 10, 11, 12, 13, 14, 15, 16, 17] dX8_plan_77 rfl rfl ⟨by decide, by decide⟩ trivial
          · exfalso; exact absurd c_51 (by decide)

set_option maxHeartbeats 4000000 in
set_option maxRecDepth 100000 in
theorem c_X8_pillar (lx : Launch) (D : va_G) (cs : Nat → ClassId) (am : Nat → Nat) (mwide : Int) (mhigh : Int) (mborder : Int) (mpattern : Int) (mdoor : Int) (mpieces : Int) (mtiles : Int) (mrests : Int) (mcrates : Int) (mmoves : Int) (manyLaid : Int) (mgrout : Int) (mhour : Int) (mthrown : Int) (mpillar : Int → Int) (mshut : Int → Int) (mpk : Int → Int) (mpf : Int → Int) (mpn : Int → Int) (mpr : Int → Int) (mleft : Int → Int) (mright : Int → Int) (mtop : Int → Int) (mbottom : Int → Int) (mat : Int → Int) (mrw : Int → Int) (mrh : Int → Int) (mrp : Int → Int) (mcf : Int → Int) (mcn : Int → Int) (mdry : Int → Int) (x : Int) (y : Int) (v : Int) (r1 : -2147483648 ≤ x ∧ x < 2147483648) (r2 : -2147483648 ≤ y ∧ y < 2147483648) (hv : v = 0 ∨ v = 1) (hok : ((0 ≤ x ∧ x < 12) ∧ 0 ≤ y ∧ y < 8)) (hany : manyLaid = 0) (hw : 1 ≤ mwide ∧ mwide ≤ 4) (hh : 1 ≤ mhigh ∧ mhigh ≤ 4) (hb : 0 ≤ mborder ∧ mborder ≤ 2) (hp : 0 ≤ mpattern ∧ mpattern ≤ 1) (hpl : Rn mpillar 0 1) (hsh : Rn mshut 0 1) (hpk : Rn mpk 0 2) (hR : Rok (mrests, mrw, mrh, mrp) 96) : Ci lx D cs yX8_pillar wsX8_pillar ({ frames := 4, cells := 0, slots := 0, locals := 100 }) [.ref (am 0), .int (iI x), .int (iI y), .int (iI v)] [oM am mwide mhigh mborder mpattern mdoor mpieces mtiles mrests mcrates mmoves manyLaid mgrout mhour mthrown, aC (cs 0) (am 1) 96 mpillar, aC (cs 0) (am 2) 12 mshut, aC (cs 0) (am 3) 96 mpk, aC (cs 0) (am 4) 96 mpf, aC (cs 0) (am 5) 96 mpn, aC (cs 0) (am 6) 96 mpr, aC (cs 0) (am 7) 96 mleft, aC (cs 0) (am 8) 96 mright, aC (cs 0) (am 9) 96 mtop, aC (cs 0) (am 10) 96 mbottom, aC (cs 0) (am 11) 96 mat, aC (cs 0) (am 12) 100 mrw, aC (cs 0) (am 13) 100 mrh, aC (cs 0) (am 14) 100 mrp, aC (cs 0) (am 15) 20 mcf, aC (cs 0) (am 16) 20 mcn, aC (cs 0) (am 17) 8 mdry] (fun (z : Int) (u : Int × (Int → Int) × (Int → Int) × (Int → Int) × (Int → Int) × (Int → Int) × (Int → Int) × (Int → Int) × (Int → Int) × Int × Int × (Int → Int) × (Int → Int) × (Int → Int) × (Int → Int)) => (z = mpillar (12 * y + x)) ∧ (MFI mwide mhigh mborder mpattern (mbar (uI mpillar (12 * y + x) v) mshut) 96 u.1 u.2.1 u.2.2.1 u.2.2.2.1 u.2.2.2.2.1 u.2.2.2.2.2.1 u.2.2.2.2.2.2.1 u.2.2.2.2.2.2.2.1 u.2.2.2.2.2.2.2.2.1) ∧ (Rn u.2.2.1 0 2) ∧ (((u.2.2.2.2.2.2.2.2.2.2.1, u.2.2.2.2.2.2.2.2.2.2.2.1, u.2.2.2.2.2.2.2.2.2.2.2.2.1, u.2.2.2.2.2.2.2.2.2.2.2.2.2.1) : Rs) = ctR mwide mhigh u.2.2.1 (mbw u.2.2.2.2.2.2.1 u.2.2.2.2.2.1) (mbw u.2.2.2.2.2.2.2.2.1 u.2.2.2.2.2.2.2.1) (mrests, mrw, mrh, mrp) u.1.toNat) ∧ (u.2.2.2.2.2.2.2.2.2.1 = ctT mwide mhigh u.2.2.1 (mbw u.2.2.2.2.2.2.1 u.2.2.2.2.2.1) (mbw u.2.2.2.2.2.2.2.2.1 u.2.2.2.2.2.2.2.1) (mrests, mrw, mrh, mrp) u.1.toNat) ∧ (∀ j : Int, 0 ≤ j → j < u.1 → u.2.2.2.2.2.2.2.2.2.2.2.2.2.2 j = ctS mwide mhigh u.2.2.1 (mbw u.2.2.2.2.2.2.1 u.2.2.2.2.2.1) (mbw u.2.2.2.2.2.2.2.2.1 u.2.2.2.2.2.2.2.1) (mrests, mrw, mrh, mrp) j.toNat)) (fun u : Int × (Int → Int) × (Int → Int) × (Int → Int) × (Int → Int) × (Int → Int) × (Int → Int) × (Int → Int) × (Int → Int) × Int × Int × (Int → Int) × (Int → Int) × (Int → Int) × (Int → Int) => [oM am mwide mhigh mborder mpattern mdoor u.1 u.2.2.2.2.2.2.2.2.2.1 u.2.2.2.2.2.2.2.2.2.2.1 mcrates mmoves manyLaid mgrout mhour 0, aC (cs 0) (am 1) 96 (uI mpillar (12 * y + x) v), aC (cs 0) (am 2) 12 mshut, aC (cs 0) (am 3) 96 u.2.2.1, aC (cs 0) (am 4) 96 u.2.2.2.1, aC (cs 0) (am 5) 96 u.2.2.2.2.1, aC (cs 0) (am 6) 96 u.2.2.2.2.2.2.2.2.2.2.2.2.2.2, aC (cs 0) (am 7) 96 u.2.2.2.2.2.1, aC (cs 0) (am 8) 96 u.2.2.2.2.2.2.1, aC (cs 0) (am 9) 96 u.2.2.2.2.2.2.2.1, aC (cs 0) (am 10) 96 u.2.2.2.2.2.2.2.2.1, aC (cs 0) (am 11) 96 u.2.1, aC (cs 0) (am 12) 100 u.2.2.2.2.2.2.2.2.2.2.2.1, aC (cs 0) (am 13) 100 u.2.2.2.2.2.2.2.2.2.2.2.2.1, aC (cs 0) (am 14) 100 u.2.2.2.2.2.2.2.2.2.2.2.2.2.1, aC (cs 0) (am 15) 20 mcf, aC (cs 0) (am 16) 20 mcn, aC (cs 0) (am 17) 8 mdry]) 0 0 := by
  refine Ci_of (cc := cX8_pillar) (nL := 6) (ret := (some .boolean)) (lv0 := [(0, .ref (am 0)), (1, .int (iI x)), (2, .int (iI y)), (3, .int (iI v))]) RX8 "pillar" (by decide +kernel) rfl (Nat.le_of_ble_eq_true rfl) rfl (fun p9 e9 s9 m9 ar9 be9 me9 c9 A9 Q9 hQ hC => ?_)
  have iX8 : ∀ w ∈ wsX80, w ∈ wsX8_pillar := by decide +kernel
  have L0 : Cond.fieldLink RX8 129 "GroutlineModel" "anyLaid" "Z" ∈ wsX8_pillar := by decide +kernel
  have L1 : Cond.fieldLink RX8 16 "GroutlineModel" "pillar" "[I" ∈ wsX8_pillar := by decide +kernel
  refine v_aload_n hC 1 0 dX8_pillar_0 rfl rfl rfl ?_
  refine v_iload_n hC 2 1 dX8_pillar_1 rfl rfl rfl ?_
  refine v_iconst hC 3 dX8_pillar_2 rfl ?_
  refine v_bipush hC 5 dX8_pillar_3 rfl rfl ?_
  refine v_callVi hC 8 3 [0, 1, 2, 3, 4, 5, 6, 7, 8, 9, 10, 11, 12, 13, 14, 15, 16, 17] [] [] (As := [.int (iI x), .int (iI 0), .int (iI 11)]) (rest := []) (c_X8_in lx D cs am mwide mhigh mborder mpattern mdoor mpieces mtiles mrests mcrates mmoves manyLaid mgrout mhour mthrown mpillar mshut mpk mpf mpn mpr mleft mright mtop mbottom mat mrw mrh mrp mcf mcn mdry x 0 11 (by omega) (by omega) (by omega)) dX8_pillar_5 rfl rfl 0 rfl rfl gX8_pillar_X8_in rfl rfl rfl (by decide +kernel) ⟨by decide, by decide⟩ rfl rfl rfl rfl (by decide) rfl (Nat.le_of_ble_eq_true rfl) ⟨rfl, rfl⟩ ⟨by decide, by decide⟩ (fun z5 u5 h5 => ?_)
  (try dsimp only at h5)
  obtain ⟨h5_1, h5_2⟩ := h5
  show V p9 lx e9 ({ frames := 4, cells := 0, slots := 0, locals := 100 }) s9 m9 ar9 be9 me9 c9 Q9 D A9 s9.heap 6 0 0 [oM am mwide mhigh mborder mpattern mdoor mpieces mtiles mrests mcrates mmoves manyLaid mgrout mhour mthrown, aC (cs 0) (am 1) 96 mpillar, aC (cs 0) (am 2) 12 mshut, aC (cs 0) (am 3) 96 mpk, aC (cs 0) (am 4) 96 mpf, aC (cs 0) (am 5) 96 mpn, aC (cs 0) (am 6) 96 mpr, aC (cs 0) (am 7) 96 mleft, aC (cs 0) (am 8) 96 mright, aC (cs 0) (am 9) 96 mtop, aC (cs 0) (am 10) 96 mbottom, aC (cs 0) (am 11) 96 mat, aC (cs 0) (am 12) 100 mrw, aC (cs 0) (am 13) 100 mrh, aC (cs 0) (am 14) 100 mrp, aC (cs 0) (am 15) 20 mcf, aC (cs 0) (am 16) 20 mcn, aC (cs 0) (am 17) 8 mdry] [(0, .ref (am 0)), (1, .int (iI x)), (2, .int (iI y)), (3, .int (iI v))] 8 [.int (iI z5)]
  refine v_if_eq hC 26 11 dX8_pillar_8 (by decide) rfl (by omega) (fun c_8 => ?_) (fun c_8 => ?_)
  · exfalso; omega
  · skip
    refine v_aload_n hC 12 0 dX8_pillar_11 rfl rfl rfl ?_
    refine v_iload_n hC 13 2 dX8_pillar_12 rfl rfl rfl ?_
    refine v_iconst hC 14 dX8_pillar_13 rfl ?_
    refine v_bipush hC 16 dX8_pillar_14 rfl rfl ?_
    refine v_callVi hC 19 3 [0, 1, 2, 3, 4, 5, 6, 7, 8, 9, 10, 11, 12, 13, 14, 15, 16, 17] [] [] (As := [.int (iI y), .int (iI 0), .int (iI 7)]) (rest := []) (c_X8_in lx D cs am mwide mhigh mborder mpattern mdoor mpieces mtiles mrests mcrates mmoves manyLaid mgrout mhour mthrown mpillar mshut mpk mpf mpn mpr mleft mright mtop mbottom mat mrw mrh mrp mcf mcn mdry y 0 7 (by omega) (by omega) (by omega)) dX8_pillar_16 rfl rfl 0 rfl rfl gX8_pillar_X8_in rfl rfl rfl (by decide +kernel) ⟨by decide, by decide⟩ rfl rfl rfl rfl (by decide) rfl (Nat.le_of_ble_eq_true rfl) ⟨rfl, rfl⟩ ⟨by decide, by decide⟩ (fun z16 u16 h16 => ?_)
    (try dsimp only at h16)
    obtain ⟨h16_1, h16_2⟩ := h16
    show V p9 lx e9 ({ frames := 4, cells := 0, slots := 0, locals := 100 }) s9 m9 ar9 be9 me9 c9 Q9 D A9 s9.heap 6 0 0 [oM am mwide mhigh mborder mpattern mdoor mpieces mtiles mrests mcrates mmoves manyLaid mgrout mhour mthrown, aC (cs 0) (am 1) 96 mpillar, aC (cs 0) (am 2) 12 mshut, aC (cs 0) (am 3) 96 mpk, aC (cs 0) (am 4) 96 mpf, aC (cs 0) (am 5) 96 mpn, aC (cs 0) (am 6) 96 mpr, aC (cs 0) (am 7) 96 mleft, aC (cs 0) (am 8) 96 mright, aC (cs 0) (am 9) 96 mtop, aC (cs 0) (am 10) 96 mbottom, aC (cs 0) (am 11) 96 mat, aC (cs 0) (am 12) 100 mrw, aC (cs 0) (am 13) 100 mrh, aC (cs 0) (am 14) 100 mrp, aC (cs 0) (am 15) 20 mcf, aC (cs 0) (am 16) 20 mcn, aC (cs 0) (am 17) 8 mdry] [(0, .ref (am 0)), (1, .int (iI x)), (2, .int (iI y)), (3, .int (iI v))] 19 [.int (iI z16)]
    refine v_if_eq hC 26 22 dX8_pillar_19 (by decide) rfl (by omega) (fun c_19 => ?_) (fun c_19 => ?_)
    · exfalso; omega
    · skip
      refine v_iconst hC 23 dX8_pillar_22 rfl ?_
      refine v_goto hC 27 dX8_pillar_23 (by decide) ?_
      refine v_istore hC 29 [(4, .int (iI 1)), (0, .ref (am 0)), (1, .int (iI x)), (2, .int (iI y)), (3, .int (iI v))] dX8_pillar_27 rfl (by decide) rfl ?_
      refine v_aload_n hC 30 1 dX8_pillar_29 rfl rfl rfl ?_
      refine v_iload hC 32 0 dX8_pillar_30 rfl rfl ?_
      refine v_if_ne hC 39 35 dX8_pillar_32 (by decide) rfl (by omega) (fun c_32 => ?_) (fun c_32 => ?_)
      · skip
        refine v_aload_n hC 40 1 dX8_pillar_39 rfl rfl rfl ?_
        refine v_get hC 43 0 27 (C := RX8) (T := TX8) (N := 31) dX8_pillar_40 rfl iX8 L0 rfl rfl (by decide) rfl ?_
        refine v_if_eq hC 50 46 dX8_pillar_43 (by decide) rfl (by omega) (fun c_43 => ?_) (fun c_43 => ?_)
        · skip
          refine v_iconst hC 51 dX8_pillar_50 rfl ?_
          refine v_callVi hC 54 1 [0, 1, 2, 3, 4, 5, 6, 7, 8, 9, 10, 11, 12, 13, 14, 15, 16, 17] [] [] (As := [.int (iI 0)]) (rest := []) (c_X8_holds lx D cs am mwide mhigh mborder mpattern mdoor mpieces mtiles mrests mcrates mmoves manyLaid mgrout mhour mthrown mpillar mshut mpk mpf mpn mpr mleft mright mtop mbottom mat mrw mrh mrp mcf mcn mdry 0 (by omega)) dX8_pillar_51 rfl rfl 0 rfl rfl gX8_pillar_X8_holds rfl rfl rfl (by decide +kernel) ⟨by decide, by decide⟩ rfl rfl rfl rfl (by decide) rfl (Nat.le_of_ble_eq_true rfl) ⟨rfl, rfl⟩ ⟨by decide, by decide⟩ (fun z51 u51 h51 => ?_)
          (try dsimp only at h51)
          obtain ⟨h51_1, h51_2⟩ := h51
          show V p9 lx e9 ({ frames := 4, cells := 0, slots := 0, locals := 100 }) s9 m9 ar9 be9 me9 c9 Q9 D A9 s9.heap 6 0 0 [oM am mwide mhigh mborder mpattern mdoor mpieces mtiles mrests mcrates mmoves manyLaid mgrout mhour 0, aC (cs 0) (am 1) 96 mpillar, aC (cs 0) (am 2) 12 mshut, aC (cs 0) (am 3) 96 mpk, aC (cs 0) (am 4) 96 mpf, aC (cs 0) (am 5) 96 mpn, aC (cs 0) (am 6) 96 mpr, aC (cs 0) (am 7) 96 mleft, aC (cs 0) (am 8) 96 mright, aC (cs 0) (am 9) 96 mtop, aC (cs 0) (am 10) 96 mbottom, aC (cs 0) (am 11) 96 mat, aC (cs 0) (am 12) 100 mrw, aC (cs 0) (am 13) 100 mrh, aC (cs 0) (am 14) 100 mrp, aC (cs 0) (am 15) 20 mcf, aC (cs 0) (am 16) 20 mcn, aC (cs 0) (am 17) 8 mdry] [(4, .int (iI 1)), (0, .ref (am 0)), (1, .int (iI x)), (2, .int (iI y)), (3, .int (iI v))] 54 [.int (iI z51)]
          refine v_if_eq hC 59 57 dX8_pillar_54 (by decide) rfl (by omega) (fun c_54 => ?_) (fun c_54 => ?_)
          · skip
            refine v_aload_n hC 60 1 dX8_pillar_59 rfl rfl rfl ?_
            refine v_get hC 63 0 5 (C := RX8) (T := TX8) (N := 31) dX8_pillar_60 rfl iX8 L1 rfl rfl (by decide) rfl ?_
            refine v_bipush hC 65 dX8_pillar_63 rfl rfl ?_
            refine v_iload_n hC 66 3 dX8_pillar_65 rfl rfl rfl ?_
            refine v_imul hC 67 (12 * y) dX8_pillar_66 rfl rfl ?_
            refine v_iload_n hC 68 2 dX8_pillar_67 rfl rfl rfl ?_
            refine v_iadd hC 69 (12 * y + x) dX8_pillar_68 rfl rfl ?_
            refine v_iald hC 70 1 dX8_pillar_69 rfl rfl (by decide) (by omega) ?_
            have r_69 := hpl (12 * y + x)
            refine v_iconst hC 71 dX8_pillar_70 rfl ?_
            refine v_icmp_ne hC 78 74 dX8_pillar_71 (by decide) rfl (by omega) (by omega) (fun c_71 => ?_) (fun c_71 => ?_)
            · skip
              refine v_iconst hC 79 dX8_pillar_78 rfl ?_
              have cut_79 : ∀ (w9 : Int), (w9 = mpillar (12 * y + x)) → V p9 lx e9 ({ frames := 4, cells := 0, slots := 0, locals := 100 }) s9 m9 ar9 be9 me9 c9 Q9 D A9 s9.heap 6 0 0 [oM am mwide mhigh mborder mpattern mdoor mpieces mtiles mrests mcrates mmoves manyLaid mgrout mhour 0, aC (cs 0) (am 1) 96 mpillar, aC (cs 0) (am 2) 12 mshut, aC (cs 0) (am 3) 96 mpk, aC (cs 0) (am 4) 96 mpf, aC (cs 0) (am 5) 96 mpn, aC (cs 0) (am 6) 96 mpr, aC (cs 0) (am 7) 96 mleft, aC (cs 0) (am 8) 96 mright, aC (cs 0) (am 9) 96 mtop, aC (cs 0) (am 10) 96 mbottom, aC (cs 0) (am 11) 96 mat, aC (cs 0) (am 12) 100 mrw, aC (cs 0) (am 13) 100 mrh, aC (cs 0) (am 14) 100 mrp, aC (cs 0) (am 15) 20 mcf, aC (cs 0) (am 16) 20 mcn, aC (cs 0) (am 17) 8 mdry] [(0, .ref (am 0)), (1, .int (iI x)), (2, .int (iI y)), (3, .int (iI v)), (4, .int (iI 1))] 79 [.int (iI w9)] := by
                intro w9 hw9
                refine v_istore hC 81 [(5, .int (iI w9)), (0, .ref (am 0)), (1, .int (iI x)), (2, .int (iI y)), (3, .int (iI v)), (4, .int (iI 1))] dX8_pillar_79 rfl (by decide) rfl ?_
                refine v_aload_n hC 82 1 dX8_pillar_81 rfl rfl rfl ?_
                refine v_get hC 85 0 5 (C := RX8) (T := TX8) (N := 31) dX8_pillar_82 rfl iX8 L1 rfl rfl (by decide) rfl ?_
                refine v_bipush hC 87 dX8_pillar_85 rfl rfl ?_
                refine v_iload_n hC 88 3 dX8_pillar_87 rfl rfl rfl ?_
                refine v_imul hC 89 (12 * y) dX8_pillar_88 rfl rfl ?_
                refine v_iload_n hC 90 2 dX8_pillar_89 rfl rfl rfl ?_
                refine v_iadd hC 91 (12 * y + x) dX8_pillar_90 rfl rfl ?_
                refine v_iload_n hC 92 4 dX8_pillar_91 rfl rfl rfl ?_
                refine v_if_eq hC 99 95 dX8_pillar_92 (by decide) rfl (by omega) (fun c_92 => ?_) (fun c_92 => ?_)
                · skip
                  refine v_iconst hC 100 dX8_pillar_99 rfl ?_
                  have cut_100 : ∀ (v9 : Int), (v9 = v) → V p9 lx e9 ({ frames := 4, cells := 0, slots := 0, locals := 100 }) s9 m9 ar9 be9 me9 c9 Q9 D A9 s9.heap 6 0 0 [oM am mwide mhigh mborder mpattern mdoor mpieces mtiles mrests mcrates mmoves manyLaid mgrout mhour 0, aC (cs 0) (am 1) 96 mpillar, aC (cs 0) (am 2) 12 mshut, aC (cs 0) (am 3) 96 mpk, aC (cs 0) (am 4) 96 mpf, aC (cs 0) (am 5) 96 mpn, aC (cs 0) (am 6) 96 mpr, aC (cs 0) (am 7) 96 mleft, aC (cs 0) (am 8) 96 mright, aC (cs 0) (am 9) 96 mtop, aC (cs 0) (am 10) 96 mbottom, aC (cs 0) (am 11) 96 mat, aC (cs 0) (am 12) 100 mrw, aC (cs 0) (am 13) 100 mrh, aC (cs 0) (am 14) 100 mrp, aC (cs 0) (am 15) 20 mcf, aC (cs 0) (am 16) 20 mcn, aC (cs 0) (am 17) 8 mdry] [(0, .ref (am 0)), (1, .int (iI x)), (2, .int (iI y)), (3, .int (iI v)), (4, .int (iI 1)), (5, .int (iI w9))] 100 [.int (iI v9), .int (iI (12 * y + x)), .ref (am 1)] := by
                    intro v9 hv9
                    rw [hv9]
                    refine v_iast hC 101 1 [oM am mwide mhigh mborder mpattern mdoor mpieces mtiles mrests mcrates mmoves manyLaid mgrout mhour 0, aC (cs 0) (am 1) 96 (uI mpillar (12 * y + x) v), aC (cs 0) (am 2) 12 mshut, aC (cs 0) (am 3) 96 mpk, aC (cs 0) (am 4) 96 mpf, aC (cs 0) (am 5) 96 mpn, aC (cs 0) (am 6) 96 mpr, aC (cs 0) (am 7) 96 mleft, aC (cs 0) (am 8) 96 mright, aC (cs 0) (am 9) 96 mtop, aC (cs 0) (am 10) 96 mbottom, aC (cs 0) (am 11) 96 mat, aC (cs 0) (am 12) 100 mrw, aC (cs 0) (am 13) 100 mrh, aC (cs 0) (am 14) 100 mrp, aC (cs 0) (am 15) 20 mcf, aC (cs 0) (am 16) 20 mcn, aC (cs 0) (am 17) 8 mdry] dX8_pillar_100 rfl rfl (by decide) (by omega) rfl ?_
                    refine v_aload_n hC 102 0 dX8_pillar_101 rfl rfl rfl ?_
                    refine v_callVv hC 105 0 [0, 1, 2, 3, 4, 5, 6, 7, 8, 9, 10, 11, 12, 13, 14, 15, 16, 17] [] [] (As := []) (rest := []) (c_X8_plans lx D cs am mwide mhigh mborder mpattern mdoor mpieces mtiles mrests mcrates mmoves manyLaid mgrout mhour 0 (uI mpillar (12 * y + x) v) mshut mpk mpf mpn mpr mleft mright mtop mbottom mat mrw mrh mrp mcf mcn mdry (by omega) (by omega) (by omega) (by omega) (by exact Rn_uI hpl (by omega)) (by assumption) (by assumption) (by assumption)) dX8_pillar_102 rfl rfl 0 rfl rfl gX8_pillar_X8_plans rfl rfl rfl (by decide +kernel) ⟨by decide, by decide⟩ rfl rfl rfl rfl (by decide) rfl (Nat.le_of_ble_eq_true rfl) ⟨rfl, rfl⟩ ⟨by decide, by decide⟩ (fun u102 h102 => ?_)
                    obtain ⟨mpieces1_102, mat1_102, mpk1_102, mpf1_102, mpn1_102, mleft1_102, mright1_102, mtop1_102, mbottom1_102, mtiles1_102, mrests1_102, mrw1_102, mrh1_102, mrp1_102, mpr1_102⟩ := u102
                    (try dsimp only at h102)
                    obtain ⟨h102_1, h102_2, h102_3, h102_4, h102_5⟩ := h102
                    show V p9 lx e9 ({ frames := 4, cells := 0, slots := 0, locals := 100 }) s9 m9 ar9 be9 me9 c9 Q9 D A9 s9.heap 6 0 0 [oM am mwide mhigh mborder mpattern mdoor mpieces1_102 mtiles1_102 mrests1_102 mcrates mmoves manyLaid mgrout mhour 0, aC (cs 0) (am 1) 96 (uI mpillar (12 * y + x) v), aC (cs 0) (am 2) 12 mshut, aC (cs 0) (am 3) 96 mpk1_102, aC (cs 0) (am 4) 96 mpf1_102, aC (cs 0) (am 5) 96 mpn1_102, aC (cs 0) (am 6) 96 mpr1_102, aC (cs 0) (am 7) 96 mleft1_102, aC (cs 0) (am 8) 96 mright1_102, aC (cs 0) (am 9) 96 mtop1_102, aC (cs 0) (am 10) 96 mbottom1_102, aC (cs 0) (am 11) 96 mat1_102, aC (cs 0) (am 12) 100 mrw1_102, aC (cs 0) (am 13) 100 mrh1_102, aC (cs 0) (am 14) 100 mrp1_102, aC (cs 0) (am 15) 20 mcf, aC (cs 0) (am 16) 20 mcn, aC (cs 0) (am 17) 8 mdry] [(0, .ref (am 0)), (1, .int (iI x)), (2, .int (iI y)), (3, .int (iI v)), (4, .int (iI 1)), (5, .int (iI w9))] 105 []
                    refine v_iload hC 107 5 dX8_pillar_105 rfl rfl ?_
                    exact v_zret hC hQ (mpieces1_102, mat1_102, mpk1_102, mpf1_102, mpn1_102, mleft1_102, mright1_102, mtop1_102, mbottom1_102, mtiles1_102, mrests1_102, mrw1_102, mrh1_102, mrp1_102, mpr1_102) [0, 1, 2, 3, 4, 5, 6, 7, 8, 9, 10, 11, 12, 13, 14, 15, 16, 17] dX8_pillar_107 (by have p9 := hpl (12 * y + x); omega) rfl rfl ⟨by decide, by decide⟩ ⟨by (try dsimp only); all_goals (exact hw9), by (try dsimp only); all_goals (exact h102_1), by (try dsimp only); all_goals (exact h102_2), by (try dsimp only); all_goals (exact h102_3), by (try dsimp only); all_goals (exact h102_4), by (try dsimp only); all_goals (exact h102_5)⟩
                  exact v_sub [0, 1, 2, 3, 4, 5, 6, 7, 8, 9, 10, 11, 12, 13, 14, 15, 16, 17] [1, 2, 3, 4, 5, 0] _ _ rfl rfl rfl (cut_100 0 (by omega))
                · skip
                  refine v_iconst hC 96 dX8_pillar_95 rfl ?_
                  refine v_goto hC 100 dX8_pillar_96 (by decide) ?_
                  have cut_100 : ∀ (v9 : Int), (v9 = v) → V p9 lx e9 ({ frames := 4, cells := 0, slots := 0, locals := 100 }) s9 m9 ar9 be9 me9 c9 Q9 D A9 s9.heap 6 0 0 [oM am mwide mhigh mborder mpattern mdoor mpieces mtiles mrests mcrates mmoves manyLaid mgrout mhour 0, aC (cs 0) (am 1) 96 mpillar, aC (cs 0) (am 2) 12 mshut, aC (cs 0) (am 3) 96 mpk, aC (cs 0) (am 4) 96 mpf, aC (cs 0) (am 5) 96 mpn, aC (cs 0) (am 6) 96 mpr, aC (cs 0) (am 7) 96 mleft, aC (cs 0) (am 8) 96 mright, aC (cs 0) (am 9) 96 mtop, aC (cs 0) (am 10) 96 mbottom, aC (cs 0) (am 11) 96 mat, aC (cs 0) (am 12) 100 mrw, aC (cs 0) (am 13) 100 mrh, aC (cs 0) (am 14) 100 mrp, aC (cs 0) (am 15) 20 mcf, aC (cs 0) (am 16) 20 mcn, aC (cs 0) (am 17) 8 mdry] [(0, .ref (am 0)), (1, .int (iI x)), (2, .int (iI y)), (3, .int (iI v)), (4, .int (iI 1)), (5, .int (iI w9))] 100 [.int (iI v9), .int (iI (12 * y + x)), .ref (am 1)] := by
                    intro v9 hv9
                    rw [hv9]
                    refine v_iast hC 101 1 [oM am mwide mhigh mborder mpattern mdoor mpieces mtiles mrests mcrates mmoves manyLaid mgrout mhour 0, aC (cs 0) (am 1) 96 (uI mpillar (12 * y + x) v), aC (cs 0) (am 2) 12 mshut, aC (cs 0) (am 3) 96 mpk, aC (cs 0) (am 4) 96 mpf, aC (cs 0) (am 5) 96 mpn, aC (cs 0) (am 6) 96 mpr, aC (cs 0) (am 7) 96 mleft, aC (cs 0) (am 8) 96 mright, aC (cs 0) (am 9) 96 mtop, aC (cs 0) (am 10) 96 mbottom, aC (cs 0) (am 11) 96 mat, aC (cs 0) (am 12) 100 mrw, aC (cs 0) (am 13) 100 mrh, aC (cs 0) (am 14) 100 mrp, aC (cs 0) (am 15) 20 mcf, aC (cs 0) (am 16) 20 mcn, aC (cs 0) (am 17) 8 mdry] dX8_pillar_100 rfl rfl (by decide) (by omega) rfl ?_
                    refine v_aload_n hC 102 0 dX8_pillar_101 rfl rfl rfl ?_
                    refine v_callVv hC 105 0 [0, 1, 2, 3, 4, 5, 6, 7, 8, 9, 10, 11, 12, 13, 14, 15, 16, 17] [] [] (As := []) (rest := []) (c_X8_plans lx D cs am mwide mhigh mborder mpattern mdoor mpieces mtiles mrests mcrates mmoves manyLaid mgrout mhour 0 (uI mpillar (12 * y + x) v) mshut mpk mpf mpn mpr mleft mright mtop mbottom mat mrw mrh mrp mcf mcn mdry (by omega) (by omega) (by omega) (by omega) (by exact Rn_uI hpl (by omega)) (by assumption) (by assumption) (by assumption)) dX8_pillar_102 rfl rfl 0 rfl rfl gX8_pillar_X8_plans rfl rfl rfl (by decide +kernel) ⟨by decide, by decide⟩ rfl rfl rfl rfl (by decide) rfl (Nat.le_of_ble_eq_true rfl) ⟨rfl, rfl⟩ ⟨by decide, by decide⟩ (fun u102 h102 => ?_)
                    obtain ⟨mpieces1_102, mat1_102, mpk1_102, mpf1_102, mpn1_102, mleft1_102, mright1_102, mtop1_102, mbottom1_102, mtiles1_102, mrests1_102, mrw1_102, mrh1_102, mrp1_102, mpr1_102⟩ := u102
                    (try dsimp only at h102)
                    obtain ⟨h102_1, h102_2, h102_3, h102_4, h102_5⟩ := h102
                    show V p9 lx e9 ({ frames := 4, cells := 0, slots := 0, locals := 100 }) s9 m9 ar9 be9 me9 c9 Q9 D A9 s9.heap 6 0 0 [oM am mwide mhigh mborder mpattern mdoor mpieces1_102 mtiles1_102 mrests1_102 mcrates mmoves manyLaid mgrout mhour 0, aC (cs 0) (am 1) 96 (uI mpillar (12 * y + x) v), aC (cs 0) (am 2) 12 mshut, aC (cs 0) (am 3) 96 mpk1_102, aC (cs 0) (am 4) 96 mpf1_102, aC (cs 0) (am 5) 96 mpn1_102, aC (cs 0) (am 6) 96 mpr1_102, aC (cs 0) (am 7) 96 mleft1_102, aC (cs 0) (am 8) 96 mright1_102, aC (cs 0) (am 9) 96 mtop1_102, aC (cs 0) (am 10) 96 mbottom1_102, aC (cs 0) (am 11) 96 mat1_102, aC (cs 0) (am 12) 100 mrw1_102, aC (cs 0) (am 13) 100 mrh1_102, aC (cs 0) (am 14) 100 mrp1_102, aC (cs 0) (am 15) 20 mcf, aC (cs 0) (am 16) 20 mcn, aC (cs 0) (am 17) 8 mdry] [(0, .ref (am 0)), (1, .int (iI x)), (2, .int (iI y)), (3, .int (iI v)), (4, .int (iI 1)), (5, .int (iI w9))] 105 []
                    refine v_iload hC 107 5 dX8_pillar_105 rfl rfl ?_
                    exact v_zret hC hQ (mpieces1_102, mat1_102, mpk1_102, mpf1_102, mpn1_102, mleft1_102, mright1_102, mtop1_102, mbottom1_102, mtiles1_102, mrests1_102, mrw1_102, mrh1_102, mrp1_102, mpr1_102) [0, 1, 2, 3, 4, 5, 6, 7, 8, 9, 10, 11, 12, 13, 14, 15, 16, 17] dX8_pillar_107 (by have p9 := hpl (12 * y + x); omega) rfl rfl ⟨by decide, by decide⟩ ⟨by (try dsimp only); all_goals (exact hw9), by (try dsimp only); all_goals (exact h102_1), by (try dsimp only); all_goals (exact h102_2), by (try dsimp only); all_goals (exact h102_3), by (try dsimp only); all_goals (exact h102_4), by (try dsimp only); all_goals (exact h102_5)⟩
                  exact v_sub [0, 1, 2, 3, 4, 5, 6, 7, 8, 9, 10, 11, 12, 13, 14, 15, 16, 17] [1, 2, 3, 4, 5, 0] _ _ rfl rfl rfl (cut_100 1 (by omega))
              exact v_sub [0, 1, 2, 3, 4, 5, 6, 7, 8, 9, 10, 11, 12, 13, 14, 15, 16, 17] [1, 2, 3, 4, 0] _ _ rfl rfl rfl (cut_79 0 (by have p9 := hpl (12 * y + x); omega))
            · skip
              refine v_iconst hC 75 dX8_pillar_74 rfl ?_
              refine v_goto hC 79 dX8_pillar_75 (by decide) ?_
              have cut_79 : ∀ (w9 : Int), (w9 = mpillar (12 * y + x)) → V p9 lx e9 ({ frames := 4, cells := 0, slots := 0, locals := 100 }) s9 m9 ar9 be9 me9 c9 Q9 D A9 s9.heap 6 0 0 [oM am mwide mhigh mborder mpattern mdoor mpieces mtiles mrests mcrates mmoves manyLaid mgrout mhour 0, aC (cs 0) (am 1) 96 mpillar, aC (cs 0) (am 2) 12 mshut, aC (cs 0) (am 3) 96 mpk, aC (cs 0) (am 4) 96 mpf, aC (cs 0) (am 5) 96 mpn, aC (cs 0) (am 6) 96 mpr, aC (cs 0) (am 7) 96 mleft, aC (cs 0) (am 8) 96 mright, aC (cs 0) (am 9) 96 mtop, aC (cs 0) (am 10) 96 mbottom, aC (cs 0) (am 11) 96 mat, aC (cs 0) (am 12) 100 mrw, aC (cs 0) (am 13) 100 mrh, aC (cs 0) (am 14) 100 mrp, aC (cs 0) (am 15) 20 mcf, aC (cs 0) (am 16) 20 mcn, aC (cs 0) (am 17) 8 mdry] [(0, .ref (am 0)), (1, .int (iI x)), (2, .int (iI y)), (3, .int (iI v)), (4, .int (iI 1))] 79 [.int (iI w9)] := by
                intro w9 hw9
                refine v_istore hC 81 [(5, .int (iI w9)), (0, .ref (am 0)), (1, .int (iI x)), (2, .int (iI y)), (3, .int (iI v)), (4, .int (iI 1))] dX8_pillar_79 rfl (by decide) rfl ?_
                refine v_aload_n hC 82 1 dX8_pillar_81 rfl rfl rfl ?_
                refine v_get hC 85 0 5 (C := RX8) (T := TX8) (N := 31) dX8_pillar_82 rfl iX8 L1 rfl rfl (by decide) rfl ?_
                refine v_bipush hC 87 dX8_pillar_85 rfl rfl ?_
                refine v_iload_n hC 88 3 dX8_pillar_87 rfl rfl rfl ?_
                refine v_imul hC 89 (12 * y) dX8_pillar_88 rfl rfl ?_
                refine v_iload_n hC 90 2 dX8_pillar_89 rfl rfl rfl ?_
                refine v_iadd hC 91 (12 * y + x) dX8_pillar_90 rfl rfl ?_
                refine v_iload_n hC 92 4 dX8_pillar_91 rfl rfl rfl ?_
                refine v_if_eq hC 99 95 dX8_pillar_92 (by decide) rfl (by omega) (fun c_92 => ?_) (fun c_92 => ?_)
                · skip
                  refine v_iconst hC 100 dX8_pillar_99 rfl ?_
                  have cut_100 : ∀ (v9 : Int), (v9 = v) → V p9 lx e9 ({ frames := 4, cells := 0, slots := 0, locals := 100 }) s9 m9 ar9 be9 me9 c9 Q9 D A9 s9.heap 6 0 0 [oM am mwide mhigh mborder mpattern mdoor mpieces mtiles mrests mcrates mmoves manyLaid mgrout mhour 0, aC (cs 0) (am 1) 96 mpillar, aC (cs 0) (am 2) 12 mshut, aC (cs 0) (am 3) 96 mpk, aC (cs 0) (am 4) 96 mpf, aC (cs 0) (am 5) 96 mpn, aC (cs 0) (am 6) 96 mpr, aC (cs 0) (am 7) 96 mleft, aC (cs 0) (am 8) 96 mright, aC (cs 0) (am 9) 96 mtop, aC (cs 0) (am 10) 96 mbottom, aC (cs 0) (am 11) 96 mat, aC (cs 0) (am 12) 100 mrw, aC (cs 0) (am 13) 100 mrh, aC (cs 0) (am 14) 100 mrp, aC (cs 0) (am 15) 20 mcf, aC (cs 0) (am 16) 20 mcn, aC (cs 0) (am 17) 8 mdry] [(0, .ref (am 0)), (1, .int (iI x)), (2, .int (iI y)), (3, .int (iI v)), (4, .int (iI 1)), (5, .int (iI w9))] 100 [.int (iI v9), .int (iI (12 * y + x)), .ref (am 1)] := by
                    intro v9 hv9
                    rw [hv9]
                    refine v_iast hC 101 1 [oM am mwide mhigh mborder mpattern mdoor mpieces mtiles mrests mcrates mmoves manyLaid mgrout mhour 0, aC (cs 0) (am 1) 96 (uI mpillar (12 * y + x) v), aC (cs 0) (am 2) 12 mshut, aC (cs 0) (am 3) 96 mpk, aC (cs 0) (am 4) 96 mpf, aC (cs 0) (am 5) 96 mpn, aC (cs 0) (am 6) 96 mpr, aC (cs 0) (am 7) 96 mleft, aC (cs 0) (am 8) 96 mright, aC (cs 0) (am 9) 96 mtop, aC (cs 0) (am 10) 96 mbottom, aC (cs 0) (am 11) 96 mat, aC (cs 0) (am 12) 100 mrw, aC (cs 0) (am 13) 100 mrh, aC (cs 0) (am 14) 100 mrp, aC (cs 0) (am 15) 20 mcf, aC (cs 0) (am 16) 20 mcn, aC (cs 0) (am 17) 8 mdry] dX8_pillar_100 rfl rfl (by decide) (by omega) rfl ?_
                    refine v_aload_n hC 102 0 dX8_pillar_101 rfl rfl rfl ?_
                    refine v_callVv hC 105 0 [0, 1, 2, 3, 4, 5, 6, 7, 8, 9, 10, 11, 12, 13, 14, 15, 16, 17] [] [] (As := []) (rest := []) (c_X8_plans lx D cs am mwide mhigh mborder mpattern mdoor mpieces mtiles mrests mcrates mmoves manyLaid mgrout mhour 0 (uI mpillar (12 * y + x) v) mshut mpk mpf mpn mpr mleft mright mtop mbottom mat mrw mrh mrp mcf mcn mdry (by omega) (by omega) (by omega) (by omega) (by exact Rn_uI hpl (by omega)) (by assumption) (by assumption) (by assumption)) dX8_pillar_102 rfl rfl 0 rfl rfl gX8_pillar_X8_plans rfl rfl rfl (by decide +kernel) ⟨by decide, by decide⟩ rfl rfl rfl rfl (by decide) rfl (Nat.le_of_ble_eq_true rfl) ⟨rfl, rfl⟩ ⟨by decide, by decide⟩ (fun u102 h102 => ?_)
                    obtain ⟨mpieces1_102, mat1_102, mpk1_102, mpf1_102, mpn1_102, mleft1_102, mright1_102, mtop1_102, mbottom1_102, mtiles1_102, mrests1_102, mrw1_102, mrh1_102, mrp1_102, mpr1_102⟩ := u102
                    (try dsimp only at h102)
                    obtain ⟨h102_1, h102_2, h102_3, h102_4, h102_5⟩ := h102
                    show V p9 lx e9 ({ frames := 4, cells := 0, slots := 0, locals := 100 }) s9 m9 ar9 be9 me9 c9 Q9 D A9 s9.heap 6 0 0 [oM am mwide mhigh mborder mpattern mdoor mpieces1_102 mtiles1_102 mrests1_102 mcrates mmoves manyLaid mgrout mhour 0, aC (cs 0) (am 1) 96 (uI mpillar (12 * y + x) v), aC (cs 0) (am 2) 12 mshut, aC (cs 0) (am 3) 96 mpk1_102, aC (cs 0) (am 4) 96 mpf1_102, aC (cs 0) (am 5) 96 mpn1_102, aC (cs 0) (am 6) 96 mpr1_102, aC (cs 0) (am 7) 96 mleft1_102, aC (cs 0) (am 8) 96 mright1_102, aC (cs 0) (am 9) 96 mtop1_102, aC (cs 0) (am 10) 96 mbottom1_102, aC (cs 0) (am 11) 96 mat1_102, aC (cs 0) (am 12) 100 mrw1_102, aC (cs 0) (am 13) 100 mrh1_102, aC (cs 0) (am 14) 100 mrp1_102, aC (cs 0) (am 15) 20 mcf, aC (cs 0) (am 16) 20 mcn, aC (cs 0) (am 17) 8 mdry] [(0, .ref (am 0)), (1, .int (iI x)), (2, .int (iI y)), (3, .int (iI v)), (4, .int (iI 1)), (5, .int (iI w9))] 105 []
                    refine v_iload hC 107 5 dX8_pillar_105 rfl rfl ?_
                    exact v_zret hC hQ (mpieces1_102, mat1_102, mpk1_102, mpf1_102, mpn1_102, mleft1_102, mright1_102, mtop1_102, mbottom1_102, mtiles1_102, mrests1_102, mrw1_102, mrh1_102, mrp1_102, mpr1_102) [0, 1, 2, 3, 4, 5, 6, 7, 8, 9, 10, 11, 12, 13, 14, 15, 16, 17] dX8_pillar_107 (by have p9 := hpl (12 * y + x); omega) rfl rfl ⟨by decide, by decide⟩ ⟨by (try dsimp only); all_goals (exact hw9), by (try dsimp only); all_goals (exact h102_1), by (try dsimp only); all_goals (exact h102_2), by (try dsimp only); all_goals (exact h102_3), by (try dsimp only); all_goals (exact h102_4), by (try dsimp only); all_goals (exact h102_5)⟩
                  exact v_sub [0, 1, 2, 3, 4, 5, 6, 7, 8, 9, 10, 11, 12, 13, 14, 15, 16, 17] [1, 2, 3, 4, 5, 0] _ _ rfl rfl rfl (cut_100 0 (by omega))
                · skip
                  refine v_iconst hC 96 dX8_pillar_95 rfl ?_
                  refine v_goto hC 100 dX8_pillar_96 (by decide) ?_
                  have cut_100 : ∀ (v9 : Int), (v9 = v) → V p9 lx e9 ({ frames := 4, cells := 0, slots := 0, locals := 100 }) s9 m9 ar9 be9 me9 c9 Q9 D A9 s9.heap 6 0 0 [oM am mwide mhigh mborder mpattern mdoor mpieces mtiles mrests mcrates mmoves manyLaid mgrout mhour 0, aC (cs 0) (am 1) 96 mpillar, aC (cs 0) (am 2) 12 mshut, aC (cs 0) (am 3) 96 mpk, aC (cs 0) (am 4) 96 mpf, aC (cs 0) (am 5) 96 mpn, aC (cs 0) (am 6) 96 mpr, aC (cs 0) (am 7) 96 mleft, aC (cs 0) (am 8) 96 mright, aC (cs 0) (am 9) 96 mtop, aC (cs 0) (am 10) 96 mbottom, aC (cs 0) (am 11) 96 mat, aC (cs 0) (am 12) 100 mrw, aC (cs 0) (am 13) 100 mrh, aC (cs 0) (am 14) 100 mrp, aC (cs 0) (am 15) 20 mcf, aC (cs 0) (am 16) 20 mcn, aC (cs 0) (am 17) 8 mdry] [(0, .ref (am 0)), (1, .int (iI x)), (2, .int (iI y)), (3, .int (iI v)), (4, .int (iI 1)), (5, .int (iI w9))] 100 [.int (iI v9), .int (iI (12 * y + x)), .ref (am 1)] := by
                    intro v9 hv9
                    rw [hv9]
                    refine v_iast hC 101 1 [oM am mwide mhigh mborder mpattern mdoor mpieces mtiles mrests mcrates mmoves manyLaid mgrout mhour 0, aC (cs 0) (am 1) 96 (uI mpillar (12 * y + x) v), aC (cs 0) (am 2) 12 mshut, aC (cs 0) (am 3) 96 mpk, aC (cs 0) (am 4) 96 mpf, aC (cs 0) (am 5) 96 mpn, aC (cs 0) (am 6) 96 mpr, aC (cs 0) (am 7) 96 mleft, aC (cs 0) (am 8) 96 mright, aC (cs 0) (am 9) 96 mtop, aC (cs 0) (am 10) 96 mbottom, aC (cs 0) (am 11) 96 mat, aC (cs 0) (am 12) 100 mrw, aC (cs 0) (am 13) 100 mrh, aC (cs 0) (am 14) 100 mrp, aC (cs 0) (am 15) 20 mcf, aC (cs 0) (am 16) 20 mcn, aC (cs 0) (am 17) 8 mdry] dX8_pillar_100 rfl rfl (by decide) (by omega) rfl ?_
                    refine v_aload_n hC 102 0 dX8_pillar_101 rfl rfl rfl ?_
                    refine v_callVv hC 105 0 [0, 1, 2, 3, 4, 5, 6, 7, 8, 9, 10, 11, 12, 13, 14, 15, 16, 17] [] [] (As := []) (rest := []) (c_X8_plans lx D cs am mwide mhigh mborder mpattern mdoor mpieces mtiles mrests mcrates mmoves manyLaid mgrout mhour 0 (uI mpillar (12 * y + x) v) mshut mpk mpf mpn mpr mleft mright mtop mbottom mat mrw mrh mrp mcf mcn mdry (by omega) (by omega) (by omega) (by omega) (by exact Rn_uI hpl (by omega)) (by assumption) (by assumption) (by assumption)) dX8_pillar_102 rfl rfl 0 rfl rfl gX8_pillar_X8_plans rfl rfl rfl (by decide +kernel) ⟨by decide, by decide⟩ rfl rfl rfl rfl (by decide) rfl (Nat.le_of_ble_eq_true rfl) ⟨rfl, rfl⟩ ⟨by decide, by decide⟩ (fun u102 h102 => ?_)
                    obtain ⟨mpieces1_102, mat1_102, mpk1_102, mpf1_102, mpn1_102, mleft1_102, mright1_102, mtop1_102, mbottom1_102, mtiles1_102, mrests1_102, mrw1_102, mrh1_102, mrp1_102, mpr1_102⟩ := u102
                    (try dsimp only at h102)
                    obtain ⟨h102_1, h102_2, h102_3, h102_4, h102_5⟩ := h102
                    show V p9 lx e9 ({ frames := 4, cells := 0, slots := 0, locals := 100 }) s9 m9 ar9 be9 me9 c9 Q9 D A9 s9.heap 6 0 0 [oM am mwide mhigh mborder mpattern mdoor mpieces1_102 mtiles1_102 mrests1_102 mcrates mmoves manyLaid mgrout mhour 0, aC (cs 0) (am 1) 96 (uI mpillar (12 * y + x) v), aC (cs 0) (am 2) 12 mshut, aC (cs 0) (am 3) 96 mpk1_102, aC (cs 0) (am 4) 96 mpf1_102, aC (cs 0) (am 5) 96 mpn1_102, aC (cs 0) (am 6) 96 mpr1_102, aC (cs 0) (am 7) 96 mleft1_102, aC (cs 0) (am 8) 96 mright1_102, aC (cs 0) (am 9) 96 mtop1_102, aC (cs 0) (am 10) 96 mbottom1_102, aC (cs 0) (am 11) 96 mat1_102, aC (cs 0) (am 12) 100 mrw1_102, aC (cs 0) (am 13) 100 mrh1_102, aC (cs 0) (am 14) 100 mrp1_102, aC (cs 0) (am 15) 20 mcf, aC (cs 0) (am 16) 20 mcn, aC (cs 0) (am 17) 8 mdry] [(0, .ref (am 0)), (1, .int (iI x)), (2, .int (iI y)), (3, .int (iI v)), (4, .int (iI 1)), (5, .int (iI w9))] 105 []
                    refine v_iload hC 107 5 dX8_pillar_105 rfl rfl ?_
                    exact v_zret hC hQ (mpieces1_102, mat1_102, mpk1_102, mpf1_102, mpn1_102, mleft1_102, mright1_102, mtop1_102, mbottom1_102, mtiles1_102, mrests1_102, mrw1_102, mrh1_102, mrp1_102, mpr1_102) [0, 1, 2, 3, 4, 5, 6, 7, 8, 9, 10, 11, 12, 13, 14, 15, 16, 17] dX8_pillar_107 (by have p9 := hpl (12 * y + x); omega) rfl rfl ⟨by decide, by decide⟩ ⟨by (try dsimp only); all_goals (exact hw9), by (try dsimp only); all_goals (exact h102_1), by (try dsimp only); all_goals (exact h102_2), by (try dsimp only); all_goals (exact h102_3), by (try dsimp only); all_goals (exact h102_4), by (try dsimp only); all_goals (exact h102_5)⟩
                  exact v_sub [0, 1, 2, 3, 4, 5, 6, 7, 8, 9, 10, 11, 12, 13, 14, 15, 16, 17] [1, 2, 3, 4, 5, 0] _ _ rfl rfl rfl (cut_100 1 (by omega))
              exact v_sub [0, 1, 2, 3, 4, 5, 6, 7, 8, 9, 10, 11, 12, 13, 14, 15, 16, 17] [1, 2, 3, 4, 0] _ _ rfl rfl rfl (cut_79 1 (by have p9 := hpl (12 * y + x); omega))
          · exfalso; omega
        · exfalso; omega
      · exfalso; exact absurd c_32 (by decide)

set_option maxHeartbeats 4000000 in
set_option maxRecDepth 100000 in
theorem n_X8_pillar (lx : Launch) (D : va_G) (cs : Nat → ClassId) (am : Nat → Nat) (mwide : Int) (mhigh : Int) (mborder : Int) (mpattern : Int) (mdoor : Int) (mpieces : Int) (mtiles : Int) (mrests : Int) (mcrates : Int) (mmoves : Int) (manyLaid : Int) (mgrout : Int) (mhour : Int) (mthrown : Int) (mpillar : Int → Int) (mshut : Int → Int) (mpk : Int → Int) (mpf : Int → Int) (mpn : Int → Int) (mpr : Int → Int) (mleft : Int → Int) (mright : Int → Int) (mtop : Int → Int) (mbottom : Int → Int) (mat : Int → Int) (mrw : Int → Int) (mrh : Int → Int) (mrp : Int → Int) (mcf : Int → Int) (mcn : Int → Int) (mdry : Int → Int) (x : Int) (y : Int) (v : Int) (k : Int) (r1 : -2147483648 ≤ x ∧ x < 2147483648) (r2 : -2147483648 ≤ y ∧ y < 2147483648) (hv : v = 0 ∨ v = 1) (hany : manyLaid = 0 ∨ manyLaid = 1) (hno : (¬ ((0 ≤ x ∧ x < 12) ∧ 0 ≤ y ∧ y < 8) ∧ k = 1) ∨ (((0 ≤ x ∧ x < 12) ∧ 0 ≤ y ∧ y < 8) ∧ manyLaid = 1 ∧ k = 2)) : Ci lx D cs yX8_pillar wsX8_pillar ({ frames := 4, cells := 0, slots := 0, locals := 100 }) [.ref (am 0), .int (iI x), .int (iI y), .int (iI v)] [oM am mwide mhigh mborder mpattern mdoor mpieces mtiles mrests mcrates mmoves manyLaid mgrout mhour mthrown, aC (cs 0) (am 1) 96 mpillar, aC (cs 0) (am 2) 12 mshut, aC (cs 0) (am 3) 96 mpk, aC (cs 0) (am 4) 96 mpf, aC (cs 0) (am 5) 96 mpn, aC (cs 0) (am 6) 96 mpr, aC (cs 0) (am 7) 96 mleft, aC (cs 0) (am 8) 96 mright, aC (cs 0) (am 9) 96 mtop, aC (cs 0) (am 10) 96 mbottom, aC (cs 0) (am 11) 96 mat, aC (cs 0) (am 12) 100 mrw, aC (cs 0) (am 13) 100 mrh, aC (cs 0) (am 14) 100 mrp, aC (cs 0) (am 15) 20 mcf, aC (cs 0) (am 16) 20 mcn, aC (cs 0) (am 17) 8 mdry] (fun (z : Int) (u : Unit) => True) (fun u : Unit => [oM am mwide mhigh mborder mpattern mdoor mpieces mtiles mrests mcrates mmoves manyLaid mgrout mhour k, aC (cs 0) (am 1) 96 mpillar, aC (cs 0) (am 2) 12 mshut, aC (cs 0) (am 3) 96 mpk, aC (cs 0) (am 4) 96 mpf, aC (cs 0) (am 5) 96 mpn, aC (cs 0) (am 6) 96 mpr, aC (cs 0) (am 7) 96 mleft, aC (cs 0) (am 8) 96 mright, aC (cs 0) (am 9) 96 mtop, aC (cs 0) (am 10) 96 mbottom, aC (cs 0) (am 11) 96 mat, aC (cs 0) (am 12) 100 mrw, aC (cs 0) (am 13) 100 mrh, aC (cs 0) (am 14) 100 mrp, aC (cs 0) (am 15) 20 mcf, aC (cs 0) (am 16) 20 mcn, aC (cs 0) (am 17) 8 mdry]) 0 0 := by
  refine Ci_of (cc := cX8_pillar) (nL := 6) (ret := (some .boolean)) (lv0 := [(0, .ref (am 0)), (1, .int (iI x)), (2, .int (iI y)), (3, .int (iI v))]) RX8 "pillar" (by decide +kernel) rfl (Nat.le_of_ble_eq_true rfl) rfl (fun p9 e9 s9 m9 ar9 be9 me9 c9 A9 Q9 hQ hC => ?_)
  have iX8 : ∀ w ∈ wsX80, w ∈ wsX8_pillar := by decide +kernel
  have L0 : Cond.fieldLink RX8 129 "GroutlineModel" "anyLaid" "Z" ∈ wsX8_pillar := by decide +kernel
  refine v_aload_n hC 1 0 dX8_pillar_0 rfl rfl rfl ?_
  refine v_iload_n hC 2 1 dX8_pillar_1 rfl rfl rfl ?_
  refine v_iconst hC 3 dX8_pillar_2 rfl ?_
  refine v_bipush hC 5 dX8_pillar_3 rfl rfl ?_
  refine v_callVi hC 8 3 [0, 1, 2, 3, 4, 5, 6, 7, 8, 9, 10, 11, 12, 13, 14, 15, 16, 17] [] [] (As := [.int (iI x), .int (iI 0), .int (iI 11)]) (rest := []) (c_X8_in lx D cs am mwide mhigh mborder mpattern mdoor mpieces mtiles mrests mcrates mmoves manyLaid mgrout mhour mthrown mpillar mshut mpk mpf mpn mpr mleft mright mtop mbottom mat mrw mrh mrp mcf mcn mdry x 0 11 (by omega) (by omega) (by omega)) dX8_pillar_5 rfl rfl 0 rfl rfl gX8_pillar_X8_in rfl rfl rfl (by decide +kernel) ⟨by decide, by decide⟩ rfl rfl rfl rfl (by decide) rfl (Nat.le_of_ble_eq_true rfl) ⟨rfl, rfl⟩ ⟨by decide, by decide⟩ (fun z5 u5 h5 => ?_)
  (try dsimp only at h5)
  obtain ⟨h5_1, h5_2⟩ := h5
  show V p9 lx e9 ({ frames := 4, cells := 0, slots := 0, locals := 100 }) s9 m9 ar9 be9 me9 c9 Q9 D A9 s9.heap 6 0 0 [oM am mwide mhigh mborder mpattern mdoor mpieces mtiles mrests mcrates mmoves manyLaid mgrout mhour mthrown, aC (cs 0) (am 1) 96 mpillar, aC (cs 0) (am 2) 12 mshut, aC (cs 0) (am 3) 96 mpk, aC (cs 0) (am 4) 96 mpf, aC (cs 0) (am 5) 96 mpn, aC (cs 0) (am 6) 96 mpr, aC (cs 0) (am 7) 96 mleft, aC (cs 0) (am 8) 96 mright, aC (cs 0) (am 9) 96 mtop, aC (cs 0) (am 10) 96 mbottom, aC (cs 0) (am 11) 96 mat, aC (cs 0) (am 12) 100 mrw, aC (cs 0) (am 13) 100 mrh, aC (cs 0) (am 14) 100 mrp, aC (cs 0) (am 15) 20 mcf, aC (cs 0) (am 16) 20 mcn, aC (cs 0) (am 17) 8 mdry] [(0, .ref (am 0)), (1, .int (iI x)), (2, .int (iI y)), (3, .int (iI v))] 8 [.int (iI z5)]
  refine v_if_eq hC 26 11 dX8_pillar_8 (by decide) rfl (by omega) (fun c_8 => ?_) (fun c_8 => ?_)
  · skip
    refine v_iconst hC 27 dX8_pillar_26 rfl ?_
    refine v_istore hC 29 [(4, .int (iI 0)), (0, .ref (am 0)), (1, .int (iI x)), (2, .int (iI y)), (3, .int (iI v))] dX8_pillar_27 rfl (by decide) rfl ?_
    refine v_aload_n hC 30 1 dX8_pillar_29 rfl rfl rfl ?_
    refine v_iload hC 32 0 dX8_pillar_30 rfl rfl ?_
    refine v_if_ne hC 39 35 dX8_pillar_32 (by decide) rfl (by omega) (fun c_32 => ?_) (fun c_32 => ?_)
    · exfalso; exact absurd c_32 (by decide)
    · skip
      refine v_iconst hC 36 dX8_pillar_35 rfl ?_
      refine v_goto hC 51 dX8_pillar_36 (by decide) ?_
      refine v_callVi hC 54 1 [0, 1, 2, 3, 4, 5, 6, 7, 8, 9, 10, 11, 12, 13, 14, 15, 16, 17] [] [] (As := [.int (iI 1)]) (rest := []) (c_X8_holds lx D cs am mwide mhigh mborder mpattern mdoor mpieces mtiles mrests mcrates mmoves manyLaid mgrout mhour mthrown mpillar mshut mpk mpf mpn mpr mleft mright mtop mbottom mat mrw mrh mrp mcf mcn mdry 1 (by omega)) dX8_pillar_51 rfl rfl 0 rfl rfl gX8_pillar_X8_holds rfl rfl rfl (by decide +kernel) ⟨by decide, by decide⟩ rfl rfl rfl rfl (by decide) rfl (Nat.le_of_ble_eq_true rfl) ⟨rfl, rfl⟩ ⟨by decide, by decide⟩ (fun z51 u51 h51 => ?_)
      (try dsimp only at h51)
      obtain ⟨h51_1, h51_2⟩ := h51
      show V p9 lx e9 ({ frames := 4, cells := 0, slots := 0, locals := 100 }) s9 m9 ar9 be9 me9 c9 Q9 D A9 s9.heap 6 0 0 [oM am mwide mhigh mborder mpattern mdoor mpieces mtiles mrests mcrates mmoves manyLaid mgrout mhour 1, aC (cs 0) (am 1) 96 mpillar, aC (cs 0) (am 2) 12 mshut, aC (cs 0) (am 3) 96 mpk, aC (cs 0) (am 4) 96 mpf, aC (cs 0) (am 5) 96 mpn, aC (cs 0) (am 6) 96 mpr, aC (cs 0) (am 7) 96 mleft, aC (cs 0) (am 8) 96 mright, aC (cs 0) (am 9) 96 mtop, aC (cs 0) (am 10) 96 mbottom, aC (cs 0) (am 11) 96 mat, aC (cs 0) (am 12) 100 mrw, aC (cs 0) (am 13) 100 mrh, aC (cs 0) (am 14) 100 mrp, aC (cs 0) (am 15) 20 mcf, aC (cs 0) (am 16) 20 mcn, aC (cs 0) (am 17) 8 mdry] [(4, .int (iI 0)), (0, .ref (am 0)), (1, .int (iI x)), (2, .int (iI y)), (3, .int (iI v))] 54 [.int (iI z51)]
      refine v_if_eq hC 59 57 dX8_pillar_54 (by decide) rfl (by omega) (fun c_54 => ?_) (fun c_54 => ?_)
      · exfalso; omega
      · skip
        refine v_iconst hC 58 dX8_pillar_57 rfl ?_
        obtain rfl : k = 1 := by omega
        exact v_zret hC hQ () [0, 1, 2, 3, 4, 5, 6, 7, 8, 9, 10, 11, 12, 13, 14, 15, 16, 17] dX8_pillar_58 (by omega) rfl rfl ⟨by decide, by decide⟩ trivial
  · skip
    refine v_aload_n hC 12 0 dX8_pillar_11 rfl rfl rfl ?_
    refine v_iload_n hC 13 2 dX8_pillar_12 rfl rfl rfl ?_
    refine v_iconst hC 14 dX8_pillar_13 rfl ?_
    refine v_bipush hC 16 dX8_pillar_14 rfl rfl ?_
    refine v_callVi hC 19 3 [0, 1, 2, 3, 4, 5, 6, 7, 8, 9, 10, 11, 12, 13, 14, 15, 16, 17] [] [] (As := [.int (iI y), .int (iI 0), .int (iI 7)]) (rest := []) (c_X8_in lx D cs am mwide mhigh mborder mpattern mdoor mpieces mtiles mrests mcrates mmoves manyLaid mgrout mhour mthrown mpillar mshut mpk mpf mpn mpr mleft mright mtop mbottom mat mrw mrh mrp mcf mcn mdry y 0 7 (by omega) (by omega) (by omega)) dX8_pillar_16 rfl rfl 0 rfl rfl gX8_pillar_X8_in rfl rfl rfl (by decide +kernel) ⟨by decide, by decide⟩ rfl rfl rfl rfl (by decide) rfl (Nat.le_of_ble_eq_true rfl) ⟨rfl, rfl⟩ ⟨by decide, by decide⟩ (fun z16 u16 h16 => ?_)
    (try dsimp only at h16)
    obtain ⟨h16_1, h16_2⟩ := h16
    show V p9 lx e9 ({ frames := 4, cells := 0, slots := 0, locals := 100 }) s9 m9 ar9 be9 me9 c9 Q9 D A9 s9.heap 6 0 0 [oM am mwide mhigh mborder mpattern mdoor mpieces mtiles mrests mcrates mmoves manyLaid mgrout mhour mthrown, aC (cs 0) (am 1) 96 mpillar, aC (cs 0) (am 2) 12 mshut, aC (cs 0) (am 3) 96 mpk, aC (cs 0) (am 4) 96 mpf, aC (cs 0) (am 5) 96 mpn, aC (cs 0) (am 6) 96 mpr, aC (cs 0) (am 7) 96 mleft, aC (cs 0) (am 8) 96 mright, aC (cs 0) (am 9) 96 mtop, aC (cs 0) (am 10) 96 mbottom, aC (cs 0) (am 11) 96 mat, aC (cs 0) (am 12) 100 mrw, aC (cs 0) (am 13) 100 mrh, aC (cs 0) (am 14) 100 mrp, aC (cs 0) (am 15) 20 mcf, aC (cs 0) (am 16) 20 mcn, aC (cs 0) (am 17) 8 mdry] [(0, .ref (am 0)), (1, .int (iI x)), (2, .int (iI y)), (3, .int (iI v))] 19 [.int (iI z16)]
    refine v_if_eq hC 26 22 dX8_pillar_19 (by decide) rfl (by omega) (fun c_19 => ?_) (fun c_19 => ?_)
    · skip
      refine v_iconst hC 27 dX8_pillar_26 rfl ?_
      refine v_istore hC 29 [(4, .int (iI 0)), (0, .ref (am 0)), (1, .int (iI x)), (2, .int (iI y)), (3, .int (iI v))] dX8_pillar_27 rfl (by decide) rfl ?_
      refine v_aload_n hC 30 1 dX8_pillar_29 rfl rfl rfl ?_
      refine v_iload hC 32 0 dX8_pillar_30 rfl rfl ?_
      refine v_if_ne hC 39 35 dX8_pillar_32 (by decide) rfl (by omega) (fun c_32 => ?_) (fun c_32 => ?_)
      · exfalso; exact absurd c_32 (by decide)
      · skip
        refine v_iconst hC 36 dX8_pillar_35 rfl ?_
        refine v_goto hC 51 dX8_pillar_36 (by decide) ?_
        refine v_callVi hC 54 1 [0, 1, 2, 3, 4, 5, 6, 7, 8, 9, 10, 11, 12, 13, 14, 15, 16, 17] [] [] (As := [.int (iI 1)]) (rest := []) (c_X8_holds lx D cs am mwide mhigh mborder mpattern mdoor mpieces mtiles mrests mcrates mmoves manyLaid mgrout mhour mthrown mpillar mshut mpk mpf mpn mpr mleft mright mtop mbottom mat mrw mrh mrp mcf mcn mdry 1 (by omega)) dX8_pillar_51 rfl rfl 0 rfl rfl gX8_pillar_X8_holds rfl rfl rfl (by decide +kernel) ⟨by decide, by decide⟩ rfl rfl rfl rfl (by decide) rfl (Nat.le_of_ble_eq_true rfl) ⟨rfl, rfl⟩ ⟨by decide, by decide⟩ (fun z51 u51 h51 => ?_)
        (try dsimp only at h51)
        obtain ⟨h51_1, h51_2⟩ := h51
        show V p9 lx e9 ({ frames := 4, cells := 0, slots := 0, locals := 100 }) s9 m9 ar9 be9 me9 c9 Q9 D A9 s9.heap 6 0 0 [oM am mwide mhigh mborder mpattern mdoor mpieces mtiles mrests mcrates mmoves manyLaid mgrout mhour 1, aC (cs 0) (am 1) 96 mpillar, aC (cs 0) (am 2) 12 mshut, aC (cs 0) (am 3) 96 mpk, aC (cs 0) (am 4) 96 mpf, aC (cs 0) (am 5) 96 mpn, aC (cs 0) (am 6) 96 mpr, aC (cs 0) (am 7) 96 mleft, aC (cs 0) (am 8) 96 mright, aC (cs 0) (am 9) 96 mtop, aC (cs 0) (am 10) 96 mbottom, aC (cs 0) (am 11) 96 mat, aC (cs 0) (am 12) 100 mrw, aC (cs 0) (am 13) 100 mrh, aC (cs 0) (am 14) 100 mrp, aC (cs 0) (am 15) 20 mcf, aC (cs 0) (am 16) 20 mcn, aC (cs 0) (am 17) 8 mdry] [(4, .int (iI 0)), (0, .ref (am 0)), (1, .int (iI x)), (2, .int (iI y)), (3, .int (iI v))] 54 [.int (iI z51)]
        refine v_if_eq hC 59 57 dX8_pillar_54 (by decide) rfl (by omega) (fun c_54 => ?_) (fun c_54 => ?_)
        · exfalso; omega
        · skip
          refine v_iconst hC 58 dX8_pillar_57 rfl ?_
          obtain rfl : k = 1 := by omega
          exact v_zret hC hQ () [0, 1, 2, 3, 4, 5, 6, 7, 8, 9, 10, 11, 12, 13, 14, 15, 16, 17] dX8_pillar_58 (by omega) rfl rfl ⟨by decide, by decide⟩ trivial
    · skip
      refine v_iconst hC 23 dX8_pillar_22 rfl ?_
      refine v_goto hC 27 dX8_pillar_23 (by decide) ?_
      refine v_istore hC 29 [(4, .int (iI 1)), (0, .ref (am 0)), (1, .int (iI x)), (2, .int (iI y)), (3, .int (iI v))] dX8_pillar_27 rfl (by decide) rfl ?_
      refine v_aload_n hC 30 1 dX8_pillar_29 rfl rfl rfl ?_
      refine v_iload hC 32 0 dX8_pillar_30 rfl rfl ?_
      refine v_if_ne hC 39 35 dX8_pillar_32 (by decide) rfl (by omega) (fun c_32 => ?_) (fun c_32 => ?_)
      · skip
        refine v_aload_n hC 40 1 dX8_pillar_39 rfl rfl rfl ?_
        refine v_get hC 43 0 27 (C := RX8) (T := TX8) (N := 31) dX8_pillar_40 rfl iX8 L0 rfl rfl (by decide) rfl ?_
        refine v_if_eq hC 50 46 dX8_pillar_43 (by decide) rfl (by omega) (fun c_43 => ?_) (fun c_43 => ?_)
        · exfalso; omega
        · skip
          refine v_iconst hC 47 dX8_pillar_46 rfl ?_
          refine v_goto hC 51 dX8_pillar_47 (by decide) ?_
          refine v_callVi hC 54 1 [0, 1, 2, 3, 4, 5, 6, 7, 8, 9, 10, 11, 12, 13, 14, 15, 16, 17] [] [] (As := [.int (iI 2)]) (rest := []) (c_X8_holds lx D cs am mwide mhigh mborder mpattern mdoor mpieces mtiles mrests mcrates mmoves manyLaid mgrout mhour mthrown mpillar mshut mpk mpf mpn mpr mleft mright mtop mbottom mat mrw mrh mrp mcf mcn mdry 2 (by omega)) dX8_pillar_51 rfl rfl 0 rfl rfl gX8_pillar_X8_holds rfl rfl rfl (by decide +kernel) ⟨by decide, by decide⟩ rfl rfl rfl rfl (by decide) rfl (Nat.le_of_ble_eq_true rfl) ⟨rfl, rfl⟩ ⟨by decide, by decide⟩ (fun z51 u51 h51 => ?_)
          (try dsimp only at h51)
          obtain ⟨h51_1, h51_2⟩ := h51
          show V p9 lx e9 ({ frames := 4, cells := 0, slots := 0, locals := 100 }) s9 m9 ar9 be9 me9 c9 Q9 D A9 s9.heap 6 0 0 [oM am mwide mhigh mborder mpattern mdoor mpieces mtiles mrests mcrates mmoves manyLaid mgrout mhour 2, aC (cs 0) (am 1) 96 mpillar, aC (cs 0) (am 2) 12 mshut, aC (cs 0) (am 3) 96 mpk, aC (cs 0) (am 4) 96 mpf, aC (cs 0) (am 5) 96 mpn, aC (cs 0) (am 6) 96 mpr, aC (cs 0) (am 7) 96 mleft, aC (cs 0) (am 8) 96 mright, aC (cs 0) (am 9) 96 mtop, aC (cs 0) (am 10) 96 mbottom, aC (cs 0) (am 11) 96 mat, aC (cs 0) (am 12) 100 mrw, aC (cs 0) (am 13) 100 mrh, aC (cs 0) (am 14) 100 mrp, aC (cs 0) (am 15) 20 mcf, aC (cs 0) (am 16) 20 mcn, aC (cs 0) (am 17) 8 mdry] [(4, .int (iI 1)), (0, .ref (am 0)), (1, .int (iI x)), (2, .int (iI y)), (3, .int (iI v))] 54 [.int (iI z51)]
          refine v_if_eq hC 59 57 dX8_pillar_54 (by decide) rfl (by omega) (fun c_54 => ?_) (fun c_54 => ?_)
          · exfalso; omega
          · skip
            refine v_iconst hC 58 dX8_pillar_57 rfl ?_
            obtain rfl : k = 2 := by omega
            exact v_zret hC hQ () [0, 1, 2, 3, 4, 5, 6, 7, 8, 9, 10, 11, 12, 13, 14, 15, 16, 17] dX8_pillar_58 (by omega) rfl rfl ⟨by decide, by decide⟩ trivial
      · exfalso; exact absurd c_32 (by decide)

set_option maxHeartbeats 4000000 in
set_option maxRecDepth 100000 in
theorem c_X8_door (lx : Launch) (D : va_G) (cs : Nat → ClassId) (am : Nat → Nat) (mwide : Int) (mhigh : Int) (mborder : Int) (mpattern : Int) (mdoor : Int) (mpieces : Int) (mtiles : Int) (mrests : Int) (mcrates : Int) (mmoves : Int) (manyLaid : Int) (mgrout : Int) (mhour : Int) (mthrown : Int) (mpillar : Int → Int) (mshut : Int → Int) (mpk : Int → Int) (mpf : Int → Int) (mpn : Int → Int) (mpr : Int → Int) (mleft : Int → Int) (mright : Int → Int) (mtop : Int → Int) (mbottom : Int → Int) (mat : Int → Int) (mrw : Int → Int) (mrh : Int → Int) (mrp : Int → Int) (mcf : Int → Int) (mcn : Int → Int) (mdry : Int → Int) (x : Int) (r1 : -2147483648 ≤ x ∧ x < 2147483648) (hok : 0 ≤ x ∧ x ≤ 10) (hdr : Rn mdry (-1) 1000000) (hd0 : mdry 0 < 0) (hw : 1 ≤ mwide ∧ mwide ≤ 4) (hh : 1 ≤ mhigh ∧ mhigh ≤ 4) (hb : 0 ≤ mborder ∧ mborder ≤ 2) (hp : 0 ≤ mpattern ∧ mpattern ≤ 1) (hpl : Rn mpillar 0 1) (hsh : Rn mshut 0 1) (hpk : Rn mpk 0 2) (hR : Rok (mrests, mrw, mrh, mrp) 96) : Ci lx D cs yX8_door wsX8_door ({ frames := 4, cells := 0, slots := 0, locals := 100 }) [.ref (am 0), .int (iI x)] [oM am mwide mhigh mborder mpattern mdoor mpieces mtiles mrests mcrates mmoves manyLaid mgrout mhour mthrown, aC (cs 0) (am 1) 96 mpillar, aC (cs 0) (am 2) 12 mshut, aC (cs 0) (am 3) 96 mpk, aC (cs 0) (am 4) 96 mpf, aC (cs 0) (am 5) 96 mpn, aC (cs 0) (am 6) 96 mpr, aC (cs 0) (am 7) 96 mleft, aC (cs 0) (am 8) 96 mright, aC (cs 0) (am 9) 96 mtop, aC (cs 0) (am 10) 96 mbottom, aC (cs 0) (am 11) 96 mat, aC (cs 0) (am 12) 100 mrw, aC (cs 0) (am 13) 100 mrh, aC (cs 0) (am 14) 100 mrp, aC (cs 0) (am 15) 20 mcf, aC (cs 0) (am 16) 20 mcn, aC (cs 0) (am 17) 8 mdry] (fun (z : Int) (u : Int × (Int → Int) × (Int → Int) × (Int → Int) × (Int → Int) × (Int → Int) × (Int → Int) × (Int → Int) × (Int → Int) × Int × Int × (Int → Int) × (Int → Int) × (Int → Int) × (Int → Int)) => (z = u.1) ∧ (MFI mwide mhigh mborder mpattern (mbar mpillar (shw x mshut 12)) 96 u.1 u.2.1 u.2.2.1 u.2.2.2.1 u.2.2.2.2.1 u.2.2.2.2.2.1 u.2.2.2.2.2.2.1 u.2.2.2.2.2.2.2.1 u.2.2.2.2.2.2.2.2.1) ∧ (Rn u.2.2.1 0 2) ∧ (((u.2.2.2.2.2.2.2.2.2.2.1, u.2.2.2.2.2.2.2.2.2.2.2.1, u.2.2.2.2.2.2.2.2.2.2.2.2.1, u.2.2.2.2.2.2.2.2.2.2.2.2.2.1) : Rs) = ctR mwide mhigh u.2.2.1 (mbw u.2.2.2.2.2.2.1 u.2.2.2.2.2.1) (mbw u.2.2.2.2.2.2.2.2.1 u.2.2.2.2.2.2.2.1) (mrests, mrw, mrh, mrp) u.1.toNat) ∧ (u.2.2.2.2.2.2.2.2.2.1 = ctT mwide mhigh u.2.2.1 (mbw u.2.2.2.2.2.2.1 u.2.2.2.2.2.1) (mbw u.2.2.2.2.2.2.2.2.1 u.2.2.2.2.2.2.2.1) (mrests, mrw, mrh, mrp) u.1.toNat) ∧ (∀ j : Int, 0 ≤ j → j < u.1 → u.2.2.2.2.2.2.2.2.2.2.2.2.2.2 j = ctS mwide mhigh u.2.2.1 (mbw u.2.2.2.2.2.2.1 u.2.2.2.2.2.1) (mbw u.2.2.2.2.2.2.2.2.1 u.2.2.2.2.2.2.2.1) (mrests, mrw, mrh, mrp) j.toNat)) (fun u : Int × (Int → Int) × (Int → Int) × (Int → Int) × (Int → Int) × (Int → Int) × (Int → Int) × (Int → Int) × (Int → Int) × Int × Int × (Int → Int) × (Int → Int) × (Int → Int) × (Int → Int) => [oM am mwide mhigh mborder mpattern x u.1 u.2.2.2.2.2.2.2.2.2.1 u.2.2.2.2.2.2.2.2.2.2.1 mcrates mmoves manyLaid mgrout mhour 0, aC (cs 0) (am 1) 96 mpillar, aC (cs 0) (am 2) 12 (shw x mshut 12), aC (cs 0) (am 3) 96 u.2.2.1, aC (cs 0) (am 4) 96 u.2.2.2.1, aC (cs 0) (am 5) 96 u.2.2.2.2.1, aC (cs 0) (am 6) 96 u.2.2.2.2.2.2.2.2.2.2.2.2.2.2, aC (cs 0) (am 7) 96 u.2.2.2.2.2.1, aC (cs 0) (am 8) 96 u.2.2.2.2.2.2.1, aC (cs 0) (am 9) 96 u.2.2.2.2.2.2.2.1, aC (cs 0) (am 10) 96 u.2.2.2.2.2.2.2.2.1, aC (cs 0) (am 11) 96 u.2.1, aC (cs 0) (am 12) 100 u.2.2.2.2.2.2.2.2.2.2.2.1, aC (cs 0) (am 13) 100 u.2.2.2.2.2.2.2.2.2.2.2.2.1, aC (cs 0) (am 14) 100 u.2.2.2.2.2.2.2.2.2.2.2.2.2.1, aC (cs 0) (am 15) 20 mcf, aC (cs 0) (am 16) 20 mcn, aC (cs 0) (am 17) 8 mdry]) 0 0 := by
  refine Ci_of (cc := cX8_door) (nL := 3) (ret := (some .int)) (lv0 := [(0, .ref (am 0)), (1, .int (iI x))]) RX8 "door" (by decide +kernel) rfl (Nat.le_of_ble_eq_true rfl) rfl (fun p9 e9 s9 m9 ar9 be9 me9 c9 A9 Q9 hQ hC => ?_)
  have iX8 : ∀ w ∈ wsX80, w ∈ wsX8_door := by decide +kernel
  have L0 : Cond.fieldLink RX8 136 "GroutlineModel" "door" "I" ∈ wsX8_door := by decide +kernel
  have L1 : Cond.fieldLink RX8 65 "GroutlineModel" "dry" "[I" ∈ wsX8_door := by decide +kernel
  have L2 : Cond.fieldLink RX8 94 "GroutlineModel" "pieces" "I" ∈ wsX8_door := by decide +kernel
  have L3 : Cond.fieldLink RX8 20 "GroutlineModel" "shut" "[I" ∈ wsX8_door := by decide +kernel
  refine v_aload_n hC 1 0 dX8_door_0 rfl rfl rfl ?_
  refine v_aload_n hC 2 0 dX8_door_1 rfl rfl rfl ?_
  refine v_iload_n hC 3 1 dX8_door_2 rfl rfl rfl ?_
  refine v_iconst hC 4 dX8_door_3 rfl ?_
  refine v_bipush hC 6 dX8_door_4 rfl rfl ?_
  refine v_callVi hC 9 3 [0, 1, 2, 3, 4, 5, 6, 7, 8, 9, 10, 11, 12, 13, 14, 15, 16, 17] [] [] (As := [.int (iI x), .int (iI 0), .int (iI 10)]) (rest := [.ref (am 0)]) (c_X8_in lx D cs am mwide mhigh mborder mpattern mdoor mpieces mtiles mrests mcrates mmoves manyLaid mgrout mhour mthrown mpillar mshut mpk mpf mpn mpr mleft mright mtop mbottom mat mrw mrh mrp mcf mcn mdry x 0 10 (by omega) (by omega) (by omega)) dX8_door_6 rfl rfl 0 rfl rfl gX8_door_X8_in rfl rfl rfl (by decide +kernel) ⟨by decide, by decide⟩ rfl rfl rfl rfl (by decide) rfl (Nat.le_of_ble_eq_true rfl) ⟨rfl, rfl⟩ ⟨by decide, by decide⟩ (fun z6 u6 h6 => ?_)
  (try dsimp only at h6)
  obtain ⟨h6_1, h6_2⟩ := h6
  show V p9 lx e9 ({ frames := 4, cells := 0, slots := 0, locals := 100 }) s9 m9 ar9 be9 me9 c9 Q9 D A9 s9.heap 3 0 0 [oM am mwide mhigh mborder mpattern mdoor mpieces mtiles mrests mcrates mmoves manyLaid mgrout mhour mthrown, aC (cs 0) (am 1) 96 mpillar, aC (cs 0) (am 2) 12 mshut, aC (cs 0) (am 3) 96 mpk, aC (cs 0) (am 4) 96 mpf, aC (cs 0) (am 5) 96 mpn, aC (cs 0) (am 6) 96 mpr, aC (cs 0) (am 7) 96 mleft, aC (cs 0) (am 8) 96 mright, aC (cs 0) (am 9) 96 mtop, aC (cs 0) (am 10) 96 mbottom, aC (cs 0) (am 11) 96 mat, aC (cs 0) (am 12) 100 mrw, aC (cs 0) (am 13) 100 mrh, aC (cs 0) (am 14) 100 mrp, aC (cs 0) (am 15) 20 mcf, aC (cs 0) (am 16) 20 mcn, aC (cs 0) (am 17) 8 mdry] [(0, .ref (am 0)), (1, .int (iI x))] 9 [.int (iI z6), .ref (am 0)]
  refine v_if_eq hC 16 12 dX8_door_9 (by decide) rfl (by omega) (fun c_9 => ?_) (fun c_9 => ?_)
  · exfalso; omega
  · skip
    refine v_iconst hC 13 dX8_door_12 rfl ?_
    refine v_goto hC 17 dX8_door_13 (by decide) ?_
    refine v_callVi hC 20 1 [0, 1, 2, 3, 4, 5, 6, 7, 8, 9, 10, 11, 12, 13, 14, 15, 16, 17] [] [] (As := [.int (iI 0)]) (rest := []) (c_X8_holds lx D cs am mwide mhigh mborder mpattern mdoor mpieces mtiles mrests mcrates mmoves manyLaid mgrout mhour mthrown mpillar mshut mpk mpf mpn mpr mleft mright mtop mbottom mat mrw mrh mrp mcf mcn mdry 0 (by omega)) dX8_door_17 rfl rfl 0 rfl rfl gX8_door_X8_holds rfl rfl rfl (by decide +kernel) ⟨by decide, by decide⟩ rfl rfl rfl rfl (by decide) rfl (Nat.le_of_ble_eq_true rfl) ⟨rfl, rfl⟩ ⟨by decide, by decide⟩ (fun z17 u17 h17 => ?_)
    (try dsimp only at h17)
    obtain ⟨h17_1, h17_2⟩ := h17
    show V p9 lx e9 ({ frames := 4, cells := 0, slots := 0, locals := 100 }) s9 m9 ar9 be9 me9 c9 Q9 D A9 s9.heap 3 0 0 [oM am mwide mhigh mborder mpattern mdoor mpieces mtiles mrests mcrates mmoves manyLaid mgrout mhour 0, aC (cs 0) (am 1) 96 mpillar, aC (cs 0) (am 2) 12 mshut, aC (cs 0) (am 3) 96 mpk, aC (cs 0) (am 4) 96 mpf, aC (cs 0) (am 5) 96 mpn, aC (cs 0) (am 6) 96 mpr, aC (cs 0) (am 7) 96 mleft, aC (cs 0) (am 8) 96 mright, aC (cs 0) (am 9) 96 mtop, aC (cs 0) (am 10) 96 mbottom, aC (cs 0) (am 11) 96 mat, aC (cs 0) (am 12) 100 mrw, aC (cs 0) (am 13) 100 mrh, aC (cs 0) (am 14) 100 mrp, aC (cs 0) (am 15) 20 mcf, aC (cs 0) (am 16) 20 mcn, aC (cs 0) (am 17) 8 mdry] [(0, .ref (am 0)), (1, .int (iI x))] 20 [.int (iI z17)]
    refine v_if_eq hC 25 23 dX8_door_20 (by decide) rfl (by omega) (fun c_20 => ?_) (fun c_20 => ?_)
    · skip
      refine v_aload_n hC 26 0 dX8_door_25 rfl rfl rfl ?_
      refine v_iload_n hC 27 1 dX8_door_26 rfl rfl rfl ?_
      refine v_put hC 30 0 4 [oM am mwide mhigh mborder mpattern x mpieces mtiles mrests mcrates mmoves manyLaid mgrout mhour 0, aC (cs 0) (am 1) 96 mpillar, aC (cs 0) (am 2) 12 mshut, aC (cs 0) (am 3) 96 mpk, aC (cs 0) (am 4) 96 mpf, aC (cs 0) (am 5) 96 mpn, aC (cs 0) (am 6) 96 mpr, aC (cs 0) (am 7) 96 mleft, aC (cs 0) (am 8) 96 mright, aC (cs 0) (am 9) 96 mtop, aC (cs 0) (am 10) 96 mbottom, aC (cs 0) (am 11) 96 mat, aC (cs 0) (am 12) 100 mrw, aC (cs 0) (am 13) 100 mrh, aC (cs 0) (am 14) 100 mrp, aC (cs 0) (am 15) 20 mcf, aC (cs 0) (am 16) 20 mcn, aC (cs 0) (am 17) 8 mdry] (C := RX8) (T := TX8) (N := 31) dX8_door_27 rfl iX8 tyX8_ok nmX8 L0 rfl rfl (by decide) rfl rfl rfl (Nat.le_of_ble_eq_true rfl) rfl ?_
      refine v_aload_n hC 31 0 dX8_door_30 rfl rfl rfl ?_
      refine v_get hC 34 0 26 (C := RX8) (T := TX8) (N := 31) dX8_door_31 rfl iX8 L1 rfl rfl (by decide) rfl ?_
      refine v_iconst hC 35 dX8_door_34 rfl ?_
      refine v_iald hC 36 17 dX8_door_35 rfl rfl (by decide) (by omega) ?_
      have r_35 := hdr 0
      refine v_if_ge hC 86 39 dX8_door_36 (by decide) rfl (by omega) (fun c_36 => ?_) (fun c_36 => ?_)
      · exfalso; omega
      · skip
        refine v_iconst hC 40 dX8_door_39 rfl ?_
        refine v_istore_n hC 41 [(2, .int (iI 0)), (0, .ref (am 0)), (1, .int (iI x))] dX8_door_40 rfl rfl (by decide) rfl ?_
        have cut_41 : ∀ (n : Nat) (i : Int) (sh2 : Int → Int), (0 ≤ i ∧ i ≤ 12) → (sh2 = shw x mshut i) → (12 - i < (n : Int)) → V p9 lx e9 ({ frames := 4, cells := 0, slots := 0, locals := 100 }) s9 m9 ar9 be9 me9 c9 Q9 D A9 s9.heap 3 0 0 [oM am mwide mhigh mborder mpattern x mpieces mtiles mrests mcrates mmoves manyLaid mgrout mhour 0, aC (cs 0) (am 1) 96 mpillar, aC (cs 0) (am 2) 12 sh2, aC (cs 0) (am 3) 96 mpk, aC (cs 0) (am 4) 96 mpf, aC (cs 0) (am 5) 96 mpn, aC (cs 0) (am 6) 96 mpr, aC (cs 0) (am 7) 96 mleft, aC (cs 0) (am 8) 96 mright, aC (cs 0) (am 9) 96 mtop, aC (cs 0) (am 10) 96 mbottom, aC (cs 0) (am 11) 96 mat, aC (cs 0) (am 12) 100 mrw, aC (cs 0) (am 13) 100 mrh, aC (cs 0) (am 14) 100 mrp, aC (cs 0) (am 15) 20 mcf, aC (cs 0) (am 16) 20 mcn, aC (cs 0) (am 17) 8 mdry] [(0, .ref (am 0)), (1, .int (iI x)), (2, .int (iI i))] 41 [] := by
          intro n
          induction n with
          | zero =>
            intro i sh2 hi hs2 hn
            exfalso; omega
          | succ n ih =>
            intro i sh2 hi hs2 hn
            have ih_41 := ih
            clear ih
            refine v_iload_n hC 42 2 dX8_door_41 rfl rfl rfl ?_
            refine v_bipush hC 44 dX8_door_42 rfl rfl ?_
            refine v_icmp_ge hC 82 47 dX8_door_44 (by decide) rfl (by omega) (by omega) (fun c_44 => ?_) (fun c_44 => ?_)
            · skip
              refine v_aload_n hC 83 0 dX8_door_82 rfl rfl rfl ?_
              refine v_callVv hC 86 0 [0, 1, 2, 3, 4, 5, 6, 7, 8, 9, 10, 11, 12, 13, 14, 15, 16, 17] [] [] (As := []) (rest := []) (c_X8_plans lx D cs am mwide mhigh mborder mpattern x mpieces mtiles mrests mcrates mmoves manyLaid mgrout mhour 0 mpillar sh2 mpk mpf mpn mpr mleft mright mtop mbottom mat mrw mrh mrp mcf mcn mdry (by omega) (by omega) (by omega) (by omega) (by assumption) (by rw [hs2]; exact Rn_shw hsh) (by assumption) (by assumption)) dX8_door_83 rfl rfl 0 rfl rfl gX8_door_X8_plans rfl rfl rfl (by decide +kernel) ⟨by decide, by decide⟩ rfl rfl rfl rfl (by decide) rfl (Nat.le_of_ble_eq_true rfl) ⟨rfl, rfl⟩ ⟨by decide, by decide⟩ (fun u83 h83 => ?_)
              obtain ⟨mpieces1_83, mat1_83, mpk1_83, mpf1_83, mpn1_83, mleft1_83, mright1_83, mtop1_83, mbottom1_83, mtiles1_83, mrests1_83, mrw1_83, mrh1_83, mrp1_83, mpr1_83⟩ := u83
              (try dsimp only at h83)
              obtain ⟨h83_1, h83_2, h83_3, h83_4, h83_5⟩ := h83
              show V p9 lx e9 ({ frames := 4, cells := 0, slots := 0, locals := 100 }) s9 m9 ar9 be9 me9 c9 Q9 D A9 s9.heap 3 0 0 [oM am mwide mhigh mborder mpattern x mpieces1_83 mtiles1_83 mrests1_83 mcrates mmoves manyLaid mgrout mhour 0, aC (cs 0) (am 1) 96 mpillar, aC (cs 0) (am 2) 12 sh2, aC (cs 0) (am 3) 96 mpk1_83, aC (cs 0) (am 4) 96 mpf1_83, aC (cs 0) (am 5) 96 mpn1_83, aC (cs 0) (am 6) 96 mpr1_83, aC (cs 0) (am 7) 96 mleft1_83, aC (cs 0) (am 8) 96 mright1_83, aC (cs 0) (am 9) 96 mtop1_83, aC (cs 0) (am 10) 96 mbottom1_83, aC (cs 0) (am 11) 96 mat1_83, aC (cs 0) (am 12) 100 mrw1_83, aC (cs 0) (am 13) 100 mrh1_83, aC (cs 0) (am 14) 100 mrp1_83, aC (cs 0) (am 15) 20 mcf, aC (cs 0) (am 16) 20 mcn, aC (cs 0) (am 17) 8 mdry] [(0, .ref (am 0)), (1, .int (iI x)), (2, .int (iI i))] 86 []
              refine v_aload_n hC 87 0 dX8_door_86 rfl rfl rfl ?_
              refine v_get hC 90 0 16 (C := RX8) (T := TX8) (N := 31) dX8_door_87 rfl iX8 L2 rfl rfl (by decide) rfl ?_
              obtain rfl : i = 12 := by omega
              subst hs2
              exact v_iret hC hQ (mpieces1_83, mat1_83, mpk1_83, mpf1_83, mpn1_83, mleft1_83, mright1_83, mtop1_83, mbottom1_83, mtiles1_83, mrests1_83, mrw1_83, mrh1_83, mrp1_83, mpr1_83) [0, 1, 2, 3, 4, 5, 6, 7, 8, 9, 10, 11, 12, 13, 14, 15, 16, 17] dX8_door_90 rfl rfl ⟨by decide, by decide⟩ ⟨by (try dsimp only); all_goals (first | rfl | omega), by (try dsimp only); all_goals (exact h83_1), by (try dsimp only); all_goals (exact h83_2), by (try dsimp only); all_goals (exact h83_3), by (try dsimp only); all_goals (exact h83_4), by (try dsimp only); all_goals (exact h83_5)⟩
            · skip
              refine v_aload_n hC 48 0 dX8_door_47 rfl rfl rfl ?_
              refine v_get hC 51 0 6 (C := RX8) (T := TX8) (N := 31) dX8_door_48 rfl iX8 L3 rfl rfl (by decide) rfl ?_
              refine v_iload_n hC 52 2 dX8_door_51 rfl rfl rfl ?_
              refine v_iload_n hC 53 2 dX8_door_52 rfl rfl rfl ?_
              refine v_aload_n hC 54 0 dX8_door_53 rfl rfl rfl ?_
              refine v_get hC 57 0 4 (C := RX8) (T := TX8) (N := 31) dX8_door_54 rfl iX8 L0 rfl rfl (by decide) rfl ?_
              refine v_icmp_eq hC 70 60 dX8_door_57 (by decide) rfl (by omega) (by omega) (fun c_57 => ?_) (fun c_57 => ?_)
              · skip
                refine v_iconst hC 71 dX8_door_70 rfl ?_
                refine v_goto hC 75 dX8_door_71 (by decide) ?_
                refine v_iast hC 76 2 [oM am mwide mhigh mborder mpattern x mpieces mtiles mrests mcrates mmoves manyLaid mgrout mhour 0, aC (cs 0) (am 1) 96 mpillar, aC (cs 0) (am 2) 12 (uI sh2 i 1), aC (cs 0) (am 3) 96 mpk, aC (cs 0) (am 4) 96 mpf, aC (cs 0) (am 5) 96 mpn, aC (cs 0) (am 6) 96 mpr, aC (cs 0) (am 7) 96 mleft, aC (cs 0) (am 8) 96 mright, aC (cs 0) (am 9) 96 mtop, aC (cs 0) (am 10) 96 mbottom, aC (cs 0) (am 11) 96 mat, aC (cs 0) (am 12) 100 mrw, aC (cs 0) (am 13) 100 mrh, aC (cs 0) (am 14) 100 mrp, aC (cs 0) (am 15) 20 mcf, aC (cs 0) (am 16) 20 mcn, aC (cs 0) (am 17) 8 mdry] dX8_door_75 rfl rfl (by decide) (by omega) rfl ?_
                refine v_iinc hC 79 2 [(2, .int (iI (i + 1))), (0, .ref (am 0)), (1, .int (iI x))] dX8_door_76 rfl rfl (by decide) rfl ?_
                refine v_goto hC 41 dX8_door_79 (by decide) ?_
                exact v_sub [0, 1, 2, 3, 4, 5, 6, 7, 8, 9, 10, 11, 12, 13, 14, 15, 16, 17] [1, 2, 0] _ _ rfl rfl rfl (ih_41 (i + 1) (uI sh2 i 1) (by omega) (by rw [hs2]; refine shw_step x mshut hi.1 ?_; first | (rw [if_pos (by omega)]; done) | (rw [if_neg (by omega)]; done)) (by omega))
              · skip
                refine v_iload_n hC 61 2 dX8_door_60 rfl rfl rfl ?_
                refine v_aload_n hC 62 0 dX8_door_61 rfl rfl rfl ?_
                refine v_get hC 65 0 4 (C := RX8) (T := TX8) (N := 31) dX8_door_62 rfl iX8 L0 rfl rfl (by decide) rfl ?_
                refine v_iconst hC 66 dX8_door_65 rfl ?_
                refine v_iadd hC 67 (x + 1) dX8_door_66 rfl rfl ?_
                refine v_icmp_ne hC 74 70 dX8_door_67 (by decide) rfl (by omega) (by omega) (fun c_67 => ?_) (fun c_67 => ?_)
                · skip
                  refine v_iconst hC 75 dX8_door_74 rfl ?_
                  refine v_iast hC 76 2 [oM am mwide mhigh mborder mpattern x mpieces mtiles mrests mcrates mmoves manyLaid mgrout mhour 0, aC (cs 0) (am 1) 96 mpillar, aC (cs 0) (am 2) 12 (uI sh2 i 0), aC (cs 0) (am 3) 96 mpk, aC (cs 0) (am 4) 96 mpf, aC (cs 0) (am 5) 96 mpn, aC (cs 0) (am 6) 96 mpr, aC (cs 0) (am 7) 96 mleft, aC (cs 0) (am 8) 96 mright, aC (cs 0) (am 9) 96 mtop, aC (cs 0) (am 10) 96 mbottom, aC (cs 0) (am 11) 96 mat, aC (cs 0) (am 12) 100 mrw, aC (cs 0) (am 13) 100 mrh, aC (cs 0) (am 14) 100 mrp, aC (cs 0) (am 15) 20 mcf, aC (cs 0) (am 16) 20 mcn, aC (cs 0) (am 17) 8 mdry] dX8_door_75 rfl rfl (by decide) (by omega) rfl ?_
                  refine v_iinc hC 79 2 [(2, .int (iI (i + 1))), (0, .ref (am 0)), (1, .int (iI x))] dX8_door_76 rfl rfl (by decide) rfl ?_
                  refine v_goto hC 41 dX8_door_79 (by decide) ?_
                  exact v_sub [0, 1, 2, 3, 4, 5, 6, 7, 8, 9, 10, 11, 12, 13, 14, 15, 16, 17] [1, 2, 0] _ _ rfl rfl rfl (ih_41 (i + 1) (uI sh2 i 0) (by omega) (by rw [hs2]; refine shw_step x mshut hi.1 ?_; first | (rw [if_pos (by omega)]; done) | (rw [if_neg (by omega)]; done)) (by omega))
                · skip
                  refine v_iconst hC 71 dX8_door_70 rfl ?_
                  refine v_goto hC 75 dX8_door_71 (by decide) ?_
                  refine v_iast hC 76 2 [oM am mwide mhigh mborder mpattern x mpieces mtiles mrests mcrates mmoves manyLaid mgrout mhour 0, aC (cs 0) (am 1) 96 mpillar, aC (cs 0) (am 2) 12 (uI sh2 i 1), aC (cs 0) (am 3) 96 mpk, aC (cs 0) (am 4) 96 mpf, aC (cs 0) (am 5) 96 mpn, aC (cs 0) (am 6) 96 mpr, aC (cs 0) (am 7) 96 mleft, aC (cs 0) (am 8) 96 mright, aC (cs 0) (am 9) 96 mtop, aC (cs 0) (am 10) 96 mbottom, aC (cs 0) (am 11) 96 mat, aC (cs 0) (am 12) 100 mrw, aC (cs 0) (am 13) 100 mrh, aC (cs 0) (am 14) 100 mrp, aC (cs 0) (am 15) 20 mcf, aC (cs 0) (am 16) 20 mcn, aC (cs 0) (am 17) 8 mdry] dX8_door_75 rfl rfl (by decide) (by omega) rfl ?_
                  refine v_iinc hC 79 2 [(2, .int (iI (i + 1))), (0, .ref (am 0)), (1, .int (iI x))] dX8_door_76 rfl rfl (by decide) rfl ?_
                  refine v_goto hC 41 dX8_door_79 (by decide) ?_
                  exact v_sub [0, 1, 2, 3, 4, 5, 6, 7, 8, 9, 10, 11, 12, 13, 14, 15, 16, 17] [1, 2, 0] _ _ rfl rfl rfl (ih_41 (i + 1) (uI sh2 i 1) (by omega) (by rw [hs2]; refine shw_step x mshut hi.1 ?_; first | (rw [if_pos (by omega)]; done) | (rw [if_neg (by omega)]; done)) (by omega))
        exact v_sub [0, 1, 2, 3, 4, 5, 6, 7, 8, 9, 10, 11, 12, 13, 14, 15, 16, 17] [1, 2, 0] _ _ rfl rfl rfl (cut_41 (Int.toNat (12 - 0) + 1) 0 mshut (by omega) (by exact (shw_0 x mshut).symm) (by omega))
    · exfalso; omega

set_option maxHeartbeats 4000000 in
set_option maxRecDepth 100000 in
theorem d_X8_door (lx : Launch) (D : va_G) (cs : Nat → ClassId) (am : Nat → Nat) (mwide : Int) (mhigh : Int) (mborder : Int) (mpattern : Int) (mdoor : Int) (mpieces : Int) (mtiles : Int) (mrests : Int) (mcrates : Int) (mmoves : Int) (manyLaid : Int) (mgrout : Int) (mhour : Int) (mthrown : Int) (mpillar : Int → Int) (mshut : Int → Int) (mpk : Int → Int) (mpf : Int → Int) (mpn : Int → Int) (mpr : Int → Int) (mleft : Int → Int) (mright : Int → Int) (mtop : Int → Int) (mbottom : Int → Int) (mat : Int → Int) (mrw : Int → Int) (mrh : Int → Int) (mrp : Int → Int) (mcf : Int → Int) (mcn : Int → Int) (mdry : Int → Int) (x : Int) (r1 : -2147483648 ≤ x ∧ x < 2147483648) (hok : 0 ≤ x ∧ x ≤ 10) (hdr : Rn mdry (-1) 1000000) (hd0 : 0 ≤ mdry 0) : Ci lx D cs yX8_door wsX8_door ({ frames := 4, cells := 0, slots := 0, locals := 100 }) [.ref (am 0), .int (iI x)] [oM am mwide mhigh mborder mpattern mdoor mpieces mtiles mrests mcrates mmoves manyLaid mgrout mhour mthrown, aC (cs 0) (am 1) 96 mpillar, aC (cs 0) (am 2) 12 mshut, aC (cs 0) (am 3) 96 mpk, aC (cs 0) (am 4) 96 mpf, aC (cs 0) (am 5) 96 mpn, aC (cs 0) (am 6) 96 mpr, aC (cs 0) (am 7) 96 mleft, aC (cs 0) (am 8) 96 mright, aC (cs 0) (am 9) 96 mtop, aC (cs 0) (am 10) 96 mbottom, aC (cs 0) (am 11) 96 mat, aC (cs 0) (am 12) 100 mrw, aC (cs 0) (am 13) 100 mrh, aC (cs 0) (am 14) 100 mrp, aC (cs 0) (am 15) 20 mcf, aC (cs 0) (am 16) 20 mcn, aC (cs 0) (am 17) 8 mdry] (fun (z : Int) (u : Unit) => (z = mpieces)) (fun u : Unit => [oM am mwide mhigh mborder mpattern x mpieces mtiles mrests mcrates mmoves manyLaid mgrout mhour 0, aC (cs 0) (am 1) 96 mpillar, aC (cs 0) (am 2) 12 mshut, aC (cs 0) (am 3) 96 mpk, aC (cs 0) (am 4) 96 mpf, aC (cs 0) (am 5) 96 mpn, aC (cs 0) (am 6) 96 mpr, aC (cs 0) (am 7) 96 mleft, aC (cs 0) (am 8) 96 mright, aC (cs 0) (am 9) 96 mtop, aC (cs 0) (am 10) 96 mbottom, aC (cs 0) (am 11) 96 mat, aC (cs 0) (am 12) 100 mrw, aC (cs 0) (am 13) 100 mrh, aC (cs 0) (am 14) 100 mrp, aC (cs 0) (am 15) 20 mcf, aC (cs 0) (am 16) 20 mcn, aC (cs 0) (am 17) 8 mdry]) 0 0 := by
  refine Ci_of (cc := cX8_door) (nL := 3) (ret := (some .int)) (lv0 := [(0, .ref (am 0)), (1, .int (iI x))]) RX8 "door" (by decide +kernel) rfl (Nat.le_of_ble_eq_true rfl) rfl (fun p9 e9 s9 m9 ar9 be9 me9 c9 A9 Q9 hQ hC => ?_)
  have iX8 : ∀ w ∈ wsX80, w ∈ wsX8_door := by decide +kernel
  have L0 : Cond.fieldLink RX8 136 "GroutlineModel" "door" "I" ∈ wsX8_door := by decide +kernel
  have L1 : Cond.fieldLink RX8 65 "GroutlineModel" "dry" "[I" ∈ wsX8_door := by decide +kernel
  have L2 : Cond.fieldLink RX8 94 "GroutlineModel" "pieces" "I" ∈ wsX8_door := by decide +kernel
  refine v_aload_n hC 1 0 dX8_door_0 rfl rfl rfl ?_
  refine v_aload_n hC 2 0 dX8_door_1 rfl rfl rfl ?_
  refine v_iload_n hC 3 1 dX8_door_2 rfl rfl rfl ?_
  refine v_iconst hC 4 dX8_door_3 rfl ?_
  refine v_bipush hC 6 dX8_door_4 rfl rfl ?_
  refine v_callVi hC 9 3 [0, 1, 2, 3, 4, 5, 6, 7, 8, 9, 10, 11, 12, 13, 14, 15, 16, 17] [] [] (As := [.int (iI x), .int (iI 0), .int (iI 10)]) (rest := [.ref (am 0)]) (c_X8_in lx D cs am mwide mhigh mborder mpattern mdoor mpieces mtiles mrests mcrates mmoves manyLaid mgrout mhour mthrown mpillar mshut mpk mpf mpn mpr mleft mright mtop mbottom mat mrw mrh mrp mcf mcn mdry x 0 10 (by omega) (by omega) (by omega)) dX8_door_6 rfl rfl 0 rfl rfl gX8_door_X8_in rfl rfl rfl (by decide +kernel) ⟨by decide, by decide⟩ rfl rfl rfl rfl (by decide) rfl (Nat.le_of_ble_eq_true rfl) ⟨rfl, rfl⟩ ⟨by decide, by decide⟩ (fun z6 u6 h6 => ?_)
  (try dsimp only at h6)
  obtain ⟨h6_1, h6_2⟩ := h6
  show V p9 lx e9 ({ frames := 4, cells := 0, slots := 0, locals := 100 }) s9 m9 ar9 be9 me9 c9 Q9 D A9 s9.heap 3 0 0 [oM am mwide mhigh mborder mpattern mdoor mpieces mtiles mrests mcrates mmoves manyLaid mgrout mhour mthrown, aC (cs 0) (am 1) 96 mpillar, aC (cs 0) (am 2) 12 mshut, aC (cs 0) (am 3) 96 mpk, aC (cs 0) (am 4) 96 mpf, aC (cs 0) (am 5) 96 mpn, aC (cs 0) (am 6) 96 mpr, aC (cs 0) (am 7) 96 mleft, aC (cs 0) (am 8) 96 mright, aC (cs 0) (am 9) 96 mtop, aC (cs 0) (am 10) 96 mbottom, aC (cs 0) (am 11) 96 mat, aC (cs 0) (am 12) 100 mrw, aC (cs 0) (am 13) 100 mrh, aC (cs 0) (am 14) 100 mrp, aC (cs 0) (am 15) 20 mcf, aC (cs 0) (am 16) 20 mcn, aC (cs 0) (am 17) 8 mdry] [(0, .ref (am 0)), (1, .int (iI x))] 9 [.int (iI z6), .ref (am 0)]
  refine v_if_eq hC 16 12 dX8_door_9 (by decide) rfl (by omega) (fun c_9 => ?_) (fun c_9 => ?_)
  · exfalso; omega
  · skip
    refine v_iconst hC 13 dX8_door_12 rfl ?_
    refine v_goto hC 17 dX8_door_13 (by decide) ?_
    refine v_callVi hC 20 1 [0, 1, 2, 3, 4, 5, 6, 7, 8, 9, 10, 11, 12, 13, 14, 15, 16, 17] [] [] (As := [.int (iI 0)]) (rest := []) (c_X8_holds lx D cs am mwide mhigh mborder mpattern mdoor mpieces mtiles mrests mcrates mmoves manyLaid mgrout mhour mthrown mpillar mshut mpk mpf mpn mpr mleft mright mtop mbottom mat mrw mrh mrp mcf mcn mdry 0 (by omega)) dX8_door_17 rfl rfl 0 rfl rfl gX8_door_X8_holds rfl rfl rfl (by decide +kernel) ⟨by decide, by decide⟩ rfl rfl rfl rfl (by decide) rfl (Nat.le_of_ble_eq_true rfl) ⟨rfl, rfl⟩ ⟨by decide, by decide⟩ (fun z17 u17 h17 => ?_)
    (try dsimp only at h17)
    obtain ⟨h17_1, h17_2⟩ := h17
    show V p9 lx e9 ({ frames := 4, cells := 0, slots := 0, locals := 100 }) s9 m9 ar9 be9 me9 c9 Q9 D A9 s9.heap 3 0 0 [oM am mwide mhigh mborder mpattern mdoor mpieces mtiles mrests mcrates mmoves manyLaid mgrout mhour 0, aC (cs 0) (am 1) 96 mpillar, aC (cs 0) (am 2) 12 mshut, aC (cs 0) (am 3) 96 mpk, aC (cs 0) (am 4) 96 mpf, aC (cs 0) (am 5) 96 mpn, aC (cs 0) (am 6) 96 mpr, aC (cs 0) (am 7) 96 mleft, aC (cs 0) (am 8) 96 mright, aC (cs 0) (am 9) 96 mtop, aC (cs 0) (am 10) 96 mbottom, aC (cs 0) (am 11) 96 mat, aC (cs 0) (am 12) 100 mrw, aC (cs 0) (am 13) 100 mrh, aC (cs 0) (am 14) 100 mrp, aC (cs 0) (am 15) 20 mcf, aC (cs 0) (am 16) 20 mcn, aC (cs 0) (am 17) 8 mdry] [(0, .ref (am 0)), (1, .int (iI x))] 20 [.int (iI z17)]
    refine v_if_eq hC 25 23 dX8_door_20 (by decide) rfl (by omega) (fun c_20 => ?_) (fun c_20 => ?_)
    · skip
      refine v_aload_n hC 26 0 dX8_door_25 rfl rfl rfl ?_
      refine v_iload_n hC 27 1 dX8_door_26 rfl rfl rfl ?_
      refine v_put hC 30 0 4 [oM am mwide mhigh mborder mpattern x mpieces mtiles mrests mcrates mmoves manyLaid mgrout mhour 0, aC (cs 0) (am 1) 96 mpillar, aC (cs 0) (am 2) 12 mshut, aC (cs 0) (am 3) 96 mpk, aC (cs 0) (am 4) 96 mpf, aC (cs 0) (am 5) 96 mpn, aC (cs 0) (am 6) 96 mpr, aC (cs 0) (am 7) 96 mleft, aC (cs 0) (am 8) 96 mright, aC (cs 0) (am 9) 96 mtop, aC (cs 0) (am 10) 96 mbottom, aC (cs 0) (am 11) 96 mat, aC (cs 0) (am 12) 100 mrw, aC (cs 0) (am 13) 100 mrh, aC (cs 0) (am 14) 100 mrp, aC (cs 0) (am 15) 20 mcf, aC (cs 0) (am 16) 20 mcn, aC (cs 0) (am 17) 8 mdry] (C := RX8) (T := TX8) (N := 31) dX8_door_27 rfl iX8 tyX8_ok nmX8 L0 rfl rfl (by decide) rfl rfl rfl (Nat.le_of_ble_eq_true rfl) rfl ?_
      refine v_aload_n hC 31 0 dX8_door_30 rfl rfl rfl ?_
      refine v_get hC 34 0 26 (C := RX8) (T := TX8) (N := 31) dX8_door_31 rfl iX8 L1 rfl rfl (by decide) rfl ?_
      refine v_iconst hC 35 dX8_door_34 rfl ?_
      refine v_iald hC 36 17 dX8_door_35 rfl rfl (by decide) (by omega) ?_
      have r_35 := hdr 0
      refine v_if_ge hC 86 39 dX8_door_36 (by decide) rfl (by omega) (fun c_36 => ?_) (fun c_36 => ?_)
      · skip
        refine v_aload_n hC 87 0 dX8_door_86 rfl rfl rfl ?_
        refine v_get hC 90 0 16 (C := RX8) (T := TX8) (N := 31) dX8_door_87 rfl iX8 L2 rfl rfl (by decide) rfl ?_
        exact v_iret hC hQ () [0, 1, 2, 3, 4, 5, 6, 7, 8, 9, 10, 11, 12, 13, 14, 15, 16, 17] dX8_door_90 rfl rfl ⟨by decide, by decide⟩ (by (try dsimp only); all_goals (first | rfl | omega))
      · exfalso; omega
    · exfalso; omega

set_option maxHeartbeats 4000000 in
set_option maxRecDepth 100000 in
theorem n_X8_door (lx : Launch) (D : va_G) (cs : Nat → ClassId) (am : Nat → Nat) (mwide : Int) (mhigh : Int) (mborder : Int) (mpattern : Int) (mdoor : Int) (mpieces : Int) (mtiles : Int) (mrests : Int) (mcrates : Int) (mmoves : Int) (manyLaid : Int) (mgrout : Int) (mhour : Int) (mthrown : Int) (mpillar : Int → Int) (mshut : Int → Int) (mpk : Int → Int) (mpf : Int → Int) (mpn : Int → Int) (mpr : Int → Int) (mleft : Int → Int) (mright : Int → Int) (mtop : Int → Int) (mbottom : Int → Int) (mat : Int → Int) (mrw : Int → Int) (mrh : Int → Int) (mrp : Int → Int) (mcf : Int → Int) (mcn : Int → Int) (mdry : Int → Int) (x : Int) (r1 : -2147483648 ≤ x ∧ x < 2147483648) (hno : ¬ (0 ≤ x ∧ x ≤ 10)) : Ci lx D cs yX8_door wsX8_door ({ frames := 4, cells := 0, slots := 0, locals := 100 }) [.ref (am 0), .int (iI x)] [oM am mwide mhigh mborder mpattern mdoor mpieces mtiles mrests mcrates mmoves manyLaid mgrout mhour mthrown, aC (cs 0) (am 1) 96 mpillar, aC (cs 0) (am 2) 12 mshut, aC (cs 0) (am 3) 96 mpk, aC (cs 0) (am 4) 96 mpf, aC (cs 0) (am 5) 96 mpn, aC (cs 0) (am 6) 96 mpr, aC (cs 0) (am 7) 96 mleft, aC (cs 0) (am 8) 96 mright, aC (cs 0) (am 9) 96 mtop, aC (cs 0) (am 10) 96 mbottom, aC (cs 0) (am 11) 96 mat, aC (cs 0) (am 12) 100 mrw, aC (cs 0) (am 13) 100 mrh, aC (cs 0) (am 14) 100 mrp, aC (cs 0) (am 15) 20 mcf, aC (cs 0) (am 16) 20 mcn, aC (cs 0) (am 17) 8 mdry] (fun (z : Int) (u : Unit) => True) (fun u : Unit => [oM am mwide mhigh mborder mpattern mdoor mpieces mtiles mrests mcrates mmoves manyLaid mgrout mhour 1, aC (cs 0) (am 1) 96 mpillar, aC (cs 0) (am 2) 12 mshut, aC (cs 0) (am 3) 96 mpk, aC (cs 0) (am 4) 96 mpf, aC (cs 0) (am 5) 96 mpn, aC (cs 0) (am 6) 96 mpr, aC (cs 0) (am 7) 96 mleft, aC (cs 0) (am 8) 96 mright, aC (cs 0) (am 9) 96 mtop, aC (cs 0) (am 10) 96 mbottom, aC (cs 0) (am 11) 96 mat, aC (cs 0) (am 12) 100 mrw, aC (cs 0) (am 13) 100 mrh, aC (cs 0) (am 14) 100 mrp, aC (cs 0) (am 15) 20 mcf, aC (cs 0) (am 16) 20 mcn, aC (cs 0) (am 17) 8 mdry]) 0 0 := by
  refine Ci_of (cc := cX8_door) (nL := 3) (ret := (some .int)) (lv0 := [(0, .ref (am 0)), (1, .int (iI x))]) RX8 "door" (by decide +kernel) rfl (Nat.le_of_ble_eq_true rfl) rfl (fun p9 e9 s9 m9 ar9 be9 me9 c9 A9 Q9 hQ hC => ?_)
  refine v_aload_n hC 1 0 dX8_door_0 rfl rfl rfl ?_
  refine v_aload_n hC 2 0 dX8_door_1 rfl rfl rfl ?_
  refine v_iload_n hC 3 1 dX8_door_2 rfl rfl rfl ?_
  refine v_iconst hC 4 dX8_door_3 rfl ?_
  refine v_bipush hC 6 dX8_door_4 rfl rfl ?_
  refine v_callVi hC 9 3 [0, 1, 2, 3, 4, 5, 6, 7, 8, 9, 10, 11, 12, 13, 14, 15, 16, 17] [] [] (As := [.int (iI x), .int (iI 0), .int (iI 10)]) (rest := [.ref (am 0)]) (c_X8_in lx D cs am mwide mhigh mborder mpattern mdoor mpieces mtiles mrests mcrates mmoves manyLaid mgrout mhour mthrown mpillar mshut mpk mpf mpn mpr mleft mright mtop mbottom mat mrw mrh mrp mcf mcn mdry x 0 10 (by omega) (by omega) (by omega)) dX8_door_6 rfl rfl 0 rfl rfl gX8_door_X8_in rfl rfl rfl (by decide +kernel) ⟨by decide, by decide⟩ rfl rfl rfl rfl (by decide) rfl (Nat.le_of_ble_eq_true rfl) ⟨rfl, rfl⟩ ⟨by decide, by decide⟩ (fun z6 u6 h6 => ?_)
  (try dsimp only at h6)
  obtain ⟨h6_1, h6_2⟩ := h6
  show V p9 lx e9 ({ frames := 4, cells := 0, slots := 0, locals := 100 }) s9 m9 ar9 be9 me9 c9 Q9 D A9 s9.heap 3 0 0 [oM am mwide mhigh mborder mpattern mdoor mpieces mtiles mrests mcrates mmoves manyLaid mgrout mhour mthrown, aC (cs 0) (am 1) 96 mpillar, aC (cs 0) (am 2) 12 mshut, aC (cs 0) (am 3) 96 mpk, aC (cs 0) (am 4) 96 mpf, aC (cs 0) (am 5) 96 mpn, aC (cs 0) (am 6) 96 mpr, aC (cs 0) (am 7) 96 mleft, aC (cs 0) (am 8) 96 mright, aC (cs 0) (am 9) 96 mtop, aC (cs 0) (am 10) 96 mbottom, aC (cs 0) (am 11) 96 mat, aC (cs 0) (am 12) 100 mrw, aC (cs 0) (am 13) 100 mrh, aC (cs 0) (am 14) 100 mrp, aC (cs 0) (am 15) 20 mcf, aC (cs 0) (am 16) 20 mcn, aC (cs 0) (am 17) 8 mdry] [(0, .ref (am 0)), (1, .int (iI x))] 9 [.int (iI z6), .ref (am 0)]
  refine v_if_eq hC 16 12 dX8_door_9 (by decide) rfl (by omega) (fun c_9 => ?_) (fun c_9 => ?_)
  · skip
    refine v_iconst hC 17 dX8_door_16 rfl ?_
    refine v_callVi hC 20 1 [0, 1, 2, 3, 4, 5, 6, 7, 8, 9, 10, 11, 12, 13, 14, 15, 16, 17] [] [] (As := [.int (iI 1)]) (rest := []) (c_X8_holds lx D cs am mwide mhigh mborder mpattern mdoor mpieces mtiles mrests mcrates mmoves manyLaid mgrout mhour mthrown mpillar mshut mpk mpf mpn mpr mleft mright mtop mbottom mat mrw mrh mrp mcf mcn mdry 1 (by omega)) dX8_door_17 rfl rfl 0 rfl rfl gX8_door_X8_holds rfl rfl rfl (by decide +kernel) ⟨by decide, by decide⟩ rfl rfl rfl rfl (by decide) rfl (Nat.le_of_ble_eq_true rfl) ⟨rfl, rfl⟩ ⟨by decide, by decide⟩ (fun z17 u17 h17 => ?_)
    (try dsimp only at h17)
    obtain ⟨h17_1, h17_2⟩ := h17
    show V p9 lx e9 ({ frames := 4, cells := 0, slots := 0, locals := 100 }) s9 m9 ar9 be9 me9 c9 Q9 D A9 s9.heap 3 0 0 [oM am mwide mhigh mborder mpattern mdoor mpieces mtiles mrests mcrates mmoves manyLaid mgrout mhour 1, aC (cs 0) (am 1) 96 mpillar, aC (cs 0) (am 2) 12 mshut, aC (cs 0) (am 3) 96 mpk, aC (cs 0) (am 4) 96 mpf, aC (cs 0) (am 5) 96 mpn, aC (cs 0) (am 6) 96 mpr, aC (cs 0) (am 7) 96 mleft, aC (cs 0) (am 8) 96 mright, aC (cs 0) (am 9) 96 mtop, aC (cs 0) (am 10) 96 mbottom, aC (cs 0) (am 11) 96 mat, aC (cs 0) (am 12) 100 mrw, aC (cs 0) (am 13) 100 mrh, aC (cs 0) (am 14) 100 mrp, aC (cs 0) (am 15) 20 mcf, aC (cs 0) (am 16) 20 mcn, aC (cs 0) (am 17) 8 mdry] [(0, .ref (am 0)), (1, .int (iI x))] 20 [.int (iI z17)]
    refine v_if_eq hC 25 23 dX8_door_20 (by decide) rfl (by omega) (fun c_20 => ?_) (fun c_20 => ?_)
    · exfalso; omega
    · skip
      refine v_iconst hC 24 dX8_door_23 rfl ?_
      exact v_iret hC hQ () [0, 1, 2, 3, 4, 5, 6, 7, 8, 9, 10, 11, 12, 13, 14, 15, 16, 17] dX8_door_24 rfl rfl ⟨by decide, by decide⟩ trivial
  · exfalso; omega

set_option maxHeartbeats 4000000 in
set_option maxRecDepth 100000 in
theorem c_X8_ofPiece (lx : Launch) (D : va_G) (cs : Nat → ClassId) (am : Nat → Nat) (mwide : Int) (mhigh : Int) (mborder : Int) (mpattern : Int) (mdoor : Int) (mpieces : Int) (mtiles : Int) (mrests : Int) (mcrates : Int) (mmoves : Int) (manyLaid : Int) (mgrout : Int) (mhour : Int) (mthrown : Int) (mpillar : Int → Int) (mshut : Int → Int) (mpk : Int → Int) (mpf : Int → Int) (mpn : Int → Int) (mpr : Int → Int) (mleft : Int → Int) (mright : Int → Int) (mtop : Int → Int) (mbottom : Int → Int) (mat : Int → Int) (mrw : Int → Int) (mrh : Int → Int) (mrp : Int → Int) (mcf : Int → Int) (mcn : Int → Int) (mdry : Int → Int) (x : Int) (y : Int) (r1 : -2147483648 ≤ x ∧ x < 2147483648) (r2 : -2147483648 ≤ y ∧ y < 2147483648) (hcnt : 0 ≤ mpieces ∧ mpieces ≤ 96) (hh : 1 ≤ mhigh ∧ mhigh ≤ 4) (hb : 0 ≤ mborder ∧ mborder ≤ 2) (hok : (0 ≤ x ∧ x < mpieces)) (hy : 0 ≤ y ∧ y ≤ 5) (hpf : ∀ j : Int, 0 ≤ j → j < mpieces → 0 ≤ mpf j ∧ mpf j < 96) : Ci lx D cs yX8_ofPiece wsX8_ofPiece ({ frames := 3, cells := 0, slots := 0, locals := 65 }) [.ref (am 0), .int (iI x), .int (iI y)] [oM am mwide mhigh mborder mpattern mdoor mpieces mtiles mrests mcrates mmoves manyLaid mgrout mhour mthrown, aC (cs 0) (am 1) 96 mpillar, aC (cs 0) (am 2) 12 mshut, aC (cs 0) (am 3) 96 mpk, aC (cs 0) (am 4) 96 mpf, aC (cs 0) (am 5) 96 mpn, aC (cs 0) (am 6) 96 mpr, aC (cs 0) (am 7) 96 mleft, aC (cs 0) (am 8) 96 mright, aC (cs 0) (am 9) 96 mtop, aC (cs 0) (am 10) 96 mbottom, aC (cs 0) (am 11) 96 mat, aC (cs 0) (am 12) 100 mrw, aC (cs 0) (am 13) 100 mrh, aC (cs 0) (am 14) 100 mrp, aC (cs 0) (am 15) 20 mcf, aC (cs 0) (am 16) 20 mcn, aC (cs 0) (am 17) 8 mdry] (fun (z : Int) (u : Unit) => (y = 0 → z = mpk x) ∧ (y = 1 → z = mpf x % 12) ∧ (y = 2 → z = mpf x / 12) ∧ (y = 3 → z = mpn x) ∧ (y = 4 → z = sR mhigh mborder (mpf x / 12)) ∧ (y = 5 → z = mpr x)) (fun u : Unit => [oM am mwide mhigh mborder mpattern mdoor mpieces mtiles mrests mcrates mmoves manyLaid mgrout mhour 0, aC (cs 0) (am 1) 96 mpillar, aC (cs 0) (am 2) 12 mshut, aC (cs 0) (am 3) 96 mpk, aC (cs 0) (am 4) 96 mpf, aC (cs 0) (am 5) 96 mpn, aC (cs 0) (am 6) 96 mpr, aC (cs 0) (am 7) 96 mleft, aC (cs 0) (am 8) 96 mright, aC (cs 0) (am 9) 96 mtop, aC (cs 0) (am 10) 96 mbottom, aC (cs 0) (am 11) 96 mat, aC (cs 0) (am 12) 100 mrw, aC (cs 0) (am 13) 100 mrh, aC (cs 0) (am 14) 100 mrp, aC (cs 0) (am 15) 20 mcf, aC (cs 0) (am 16) 20 mcn, aC (cs 0) (am 17) 8 mdry]) 0 0 := by
  refine Ci_of (cc := cX8_ofPiece) (nL := 3) (ret := (some .int)) (lv0 := [(0, .ref (am 0)), (1, .int (iI x)), (2, .int (iI y))]) RX8 "ofPiece" (by decide +kernel) rfl (Nat.le_of_ble_eq_true rfl) rfl (fun p9 e9 s9 m9 ar9 be9 me9 c9 A9 Q9 hQ hC => ?_)
  have iX8 : ∀ w ∈ wsX80, w ∈ wsX8_ofPiece := by decide +kernel
  have L0 : Cond.fieldLink RX8 94 "GroutlineModel" "pieces" "I" ∈ wsX8_ofPiece := by decide +kernel
  have L1 : Cond.fieldLink RX8 32 "GroutlineModel" "pr" "[I" ∈ wsX8_ofPiece := by decide +kernel
  have L2 : Cond.fieldLink RX8 23 "GroutlineModel" "pk" "[I" ∈ wsX8_ofPiece := by decide +kernel
  have L3 : Cond.fieldLink RX8 26 "GroutlineModel" "pf" "[I" ∈ wsX8_ofPiece := by decide +kernel
  have L4 : Cond.fieldLink RX8 29 "GroutlineModel" "pn" "[I" ∈ wsX8_ofPiece := by decide +kernel
  refine v_aload_n hC 1 0 dX8_ofPiece_0 rfl rfl rfl ?_
  refine v_aload_n hC 2 0 dX8_ofPiece_1 rfl rfl rfl ?_
  refine v_iload_n hC 3 1 dX8_ofPiece_2 rfl rfl rfl ?_
  refine v_iconst hC 4 dX8_ofPiece_3 rfl ?_
  refine v_aload_n hC 5 0 dX8_ofPiece_4 rfl rfl rfl ?_
  refine v_get hC 8 0 16 (C := RX8) (T := TX8) (N := 31) dX8_ofPiece_5 rfl iX8 L0 rfl rfl (by decide) rfl ?_
  refine v_iconst hC 9 dX8_ofPiece_8 rfl ?_
  refine v_isub hC 10 (mpieces - 1) dX8_ofPiece_9 rfl rfl ?_
  refine v_callVi hC 13 3 [0, 1, 2, 3, 4, 5, 6, 7, 8, 9, 10, 11, 12, 13, 14, 15, 16, 17] [] [] (As := [.int (iI x), .int (iI 0), .int (iI (mpieces - 1))]) (rest := [.ref (am 0)]) (c_X8_in lx D cs am mwide mhigh mborder mpattern mdoor mpieces mtiles mrests mcrates mmoves manyLaid mgrout mhour mthrown mpillar mshut mpk mpf mpn mpr mleft mright mtop mbottom mat mrw mrh mrp mcf mcn mdry x 0 (mpieces - 1) (by omega) (by omega) (by omega)) dX8_ofPiece_10 rfl rfl 0 rfl rfl gX8_ofPiece_X8_in rfl rfl rfl (by decide +kernel) ⟨by decide, by decide⟩ rfl rfl rfl rfl (by decide) rfl (Nat.le_of_ble_eq_true rfl) ⟨rfl, rfl⟩ ⟨by decide, by decide⟩ (fun z10 u10 h10 => ?_)
  (try dsimp only at h10)
  obtain ⟨h10_1, h10_2⟩ := h10
  show V p9 lx e9 ({ frames := 3, cells := 0, slots := 0, locals := 65 }) s9 m9 ar9 be9 me9 c9 Q9 D A9 s9.heap 3 0 0 [oM am mwide mhigh mborder mpattern mdoor mpieces mtiles mrests mcrates mmoves manyLaid mgrout mhour mthrown, aC (cs 0) (am 1) 96 mpillar, aC (cs 0) (am 2) 12 mshut, aC (cs 0) (am 3) 96 mpk, aC (cs 0) (am 4) 96 mpf, aC (cs 0) (am 5) 96 mpn, aC (cs 0) (am 6) 96 mpr, aC (cs 0) (am 7) 96 mleft, aC (cs 0) (am 8) 96 mright, aC (cs 0) (am 9) 96 mtop, aC (cs 0) (am 10) 96 mbottom, aC (cs 0) (am 11) 96 mat, aC (cs 0) (am 12) 100 mrw, aC (cs 0) (am 13) 100 mrh, aC (cs 0) (am 14) 100 mrp, aC (cs 0) (am 15) 20 mcf, aC (cs 0) (am 16) 20 mcn, aC (cs 0) (am 17) 8 mdry] [(0, .ref (am 0)), (1, .int (iI x)), (2, .int (iI y))] 13 [.int (iI z10), .ref (am 0)]
  refine v_if_ne hC 20 16 dX8_ofPiece_13 (by decide) rfl (by omega) (fun c_13 => ?_) (fun c_13 => ?_)
  · skip
    refine v_aload_n hC 21 0 dX8_ofPiece_20 rfl rfl rfl ?_
    refine v_iload_n hC 22 2 dX8_ofPiece_21 rfl rfl rfl ?_
    refine v_iconst hC 23 dX8_ofPiece_22 rfl ?_
    refine v_iconst hC 24 dX8_ofPiece_23 rfl ?_
    refine v_callVi hC 27 3 [0, 1, 2, 3, 4, 5, 6, 7, 8, 9, 10, 11, 12, 13, 14, 15, 16, 17] [] [] (As := [.int (iI y), .int (iI 0), .int (iI 5)]) (rest := [.ref (am 0)]) (c_X8_in lx D cs am mwide mhigh mborder mpattern mdoor mpieces mtiles mrests mcrates mmoves manyLaid mgrout mhour mthrown mpillar mshut mpk mpf mpn mpr mleft mright mtop mbottom mat mrw mrh mrp mcf mcn mdry y 0 5 (by omega) (by omega) (by omega)) dX8_ofPiece_24 rfl rfl 0 rfl rfl gX8_ofPiece_X8_in rfl rfl rfl (by decide +kernel) ⟨by decide, by decide⟩ rfl rfl rfl rfl (by decide) rfl (Nat.le_of_ble_eq_true rfl) ⟨rfl, rfl⟩ ⟨by decide, by decide⟩ (fun z24 u24 h24 => ?_)
    (try dsimp only at h24)
    obtain ⟨h24_1, h24_2⟩ := h24
    show V p9 lx e9 ({ frames := 3, cells := 0, slots := 0, locals := 65 }) s9 m9 ar9 be9 me9 c9 Q9 D A9 s9.heap 3 0 0 [oM am mwide mhigh mborder mpattern mdoor mpieces mtiles mrests mcrates mmoves manyLaid mgrout mhour mthrown, aC (cs 0) (am 1) 96 mpillar, aC (cs 0) (am 2) 12 mshut, aC (cs 0) (am 3) 96 mpk, aC (cs 0) (am 4) 96 mpf, aC (cs 0) (am 5) 96 mpn, aC (cs 0) (am 6) 96 mpr, aC (cs 0) (am 7) 96 mleft, aC (cs 0) (am 8) 96 mright, aC (cs 0) (am 9) 96 mtop, aC (cs 0) (am 10) 96 mbottom, aC (cs 0) (am 11) 96 mat, aC (cs 0) (am 12) 100 mrw, aC (cs 0) (am 13) 100 mrh, aC (cs 0) (am 14) 100 mrp, aC (cs 0) (am 15) 20 mcf, aC (cs 0) (am 16) 20 mcn, aC (cs 0) (am 17) 8 mdry] [(0, .ref (am 0)), (1, .int (iI x)), (2, .int (iI y))] 27 [.int (iI z24), .ref (am 0)]
    refine v_if_eq hC 34 30 dX8_ofPiece_27 (by decide) rfl (by omega) (fun c_27 => ?_) (fun c_27 => ?_)
    · exfalso; omega
    · skip
      refine v_iconst hC 31 dX8_ofPiece_30 rfl ?_
      refine v_goto hC 35 dX8_ofPiece_31 (by decide) ?_
      refine v_callVi hC 38 1 [0, 1, 2, 3, 4, 5, 6, 7, 8, 9, 10, 11, 12, 13, 14, 15, 16, 17] [] [] (As := [.int (iI 0)]) (rest := []) (c_X8_holds lx D cs am mwide mhigh mborder mpattern mdoor mpieces mtiles mrests mcrates mmoves manyLaid mgrout mhour mthrown mpillar mshut mpk mpf mpn mpr mleft mright mtop mbottom mat mrw mrh mrp mcf mcn mdry 0 (by omega)) dX8_ofPiece_35 rfl rfl 0 rfl rfl gX8_ofPiece_X8_holds rfl rfl rfl (by decide +kernel) ⟨by decide, by decide⟩ rfl rfl rfl rfl (by decide) rfl (Nat.le_of_ble_eq_true rfl) ⟨rfl, rfl⟩ ⟨by decide, by decide⟩ (fun z35 u35 h35 => ?_)
      (try dsimp only at h35)
      obtain ⟨h35_1, h35_2⟩ := h35
      show V p9 lx e9 ({ frames := 3, cells := 0, slots := 0, locals := 65 }) s9 m9 ar9 be9 me9 c9 Q9 D A9 s9.heap 3 0 0 [oM am mwide mhigh mborder mpattern mdoor mpieces mtiles mrests mcrates mmoves manyLaid mgrout mhour 0, aC (cs 0) (am 1) 96 mpillar, aC (cs 0) (am 2) 12 mshut, aC (cs 0) (am 3) 96 mpk, aC (cs 0) (am 4) 96 mpf, aC (cs 0) (am 5) 96 mpn, aC (cs 0) (am 6) 96 mpr, aC (cs 0) (am 7) 96 mleft, aC (cs 0) (am 8) 96 mright, aC (cs 0) (am 9) 96 mtop, aC (cs 0) (am 10) 96 mbottom, aC (cs 0) (am 11) 96 mat, aC (cs 0) (am 12) 100 mrw, aC (cs 0) (am 13) 100 mrh, aC (cs 0) (am 14) 100 mrp, aC (cs 0) (am 15) 20 mcf, aC (cs 0) (am 16) 20 mcn, aC (cs 0) (am 17) 8 mdry] [(0, .ref (am 0)), (1, .int (iI x)), (2, .int (iI y))] 38 [.int (iI z35)]
      refine v_if_eq hC 43 41 dX8_ofPiece_38 (by decide) rfl (by omega) (fun c_38 => ?_) (fun c_38 => ?_)
      · skip
        have pp9 := hpf x (by omega) (by omega)
        refine v_iload_n hC 44 2 dX8_ofPiece_43 rfl rfl rfl ?_
        have hsw_44 : (y < 0 ∨ 4 < y) ∨ y = 0 ∨ y = 1 ∨ y = 2 ∨ y = 3 ∨ y = 4 := by omega
        rcases hsw_44 with hsw_44 | hsw_44 | hsw_44 | hsw_44 | hsw_44 | hsw_44
        · refine v_tableOut hC 128 dX8_ofPiece_44 (by omega) (by omega) (by decide) ?_
          refine v_aload_n hC 129 0 dX8_ofPiece_128 rfl rfl rfl ?_
          refine v_get hC 132 0 10 (C := RX8) (T := TX8) (N := 31) dX8_ofPiece_129 rfl iX8 L1 rfl rfl (by decide) rfl ?_
          refine v_iload_n hC 133 1 dX8_ofPiece_132 rfl rfl rfl ?_
          refine v_iald hC 134 6 dX8_ofPiece_133 rfl rfl (by decide) (by omega) ?_
          exact v_iret hC hQ () [0, 1, 2, 3, 4, 5, 6, 7, 8, 9, 10, 11, 12, 13, 14, 15, 16, 17] dX8_ofPiece_134 rfl rfl ⟨by decide, by decide⟩ ⟨by (try dsimp only); all_goals (intro _; first | rfl | (exfalso; omega)), by (try dsimp only); all_goals (intro _; first | rfl | (exfalso; omega)), by (try dsimp only); all_goals (intro _; first | rfl | (exfalso; omega)), by (try dsimp only); all_goals (intro _; first | rfl | (exfalso; omega)), by (try dsimp only); all_goals (intro _; first | rfl | (exfalso; omega)), by (try dsimp only); all_goals (intro _; first | rfl | (exfalso; omega))⟩
        · refine v_tableIn hC 80 0 (off := 36) dX8_ofPiece_44 (by omega) hsw_44 (by decide) (by decide) (by decide) (by decide) ?_
          refine v_aload_n hC 81 0 dX8_ofPiece_80 rfl rfl rfl ?_
          refine v_get hC 84 0 7 (C := RX8) (T := TX8) (N := 31) dX8_ofPiece_81 rfl iX8 L2 rfl rfl (by decide) rfl ?_
          refine v_iload_n hC 85 1 dX8_ofPiece_84 rfl rfl rfl ?_
          refine v_iald hC 86 3 dX8_ofPiece_85 rfl rfl (by decide) (by omega) ?_
          exact v_iret hC hQ () [0, 1, 2, 3, 4, 5, 6, 7, 8, 9, 10, 11, 12, 13, 14, 15, 16, 17] dX8_ofPiece_86 rfl rfl ⟨by decide, by decide⟩ ⟨by (try dsimp only); all_goals (intro _; first | rfl | (exfalso; omega)), by (try dsimp only); all_goals (intro _; first | rfl | (exfalso; omega)), by (try dsimp only); all_goals (intro _; first | rfl | (exfalso; omega)), by (try dsimp only); all_goals (intro _; first | rfl | (exfalso; omega)), by (try dsimp only); all_goals (intro _; first | rfl | (exfalso; omega)), by (try dsimp only); all_goals (intro _; first | rfl | (exfalso; omega))⟩
        · refine v_tableIn hC 87 1 (off := 43) dX8_ofPiece_44 (by omega) hsw_44 (by decide) (by decide) (by decide) (by decide) ?_
          refine v_aload_n hC 88 0 dX8_ofPiece_87 rfl rfl rfl ?_
          refine v_get hC 91 0 8 (C := RX8) (T := TX8) (N := 31) dX8_ofPiece_88 rfl iX8 L3 rfl rfl (by decide) rfl ?_
          refine v_iload_n hC 92 1 dX8_ofPiece_91 rfl rfl rfl ?_
          refine v_iald hC 93 4 dX8_ofPiece_92 rfl rfl (by decide) (by omega) ?_
          refine v_bipush hC 95 dX8_ofPiece_93 rfl rfl ?_
          refine v_irem hC 96 ((mpf x) % 12) dX8_ofPiece_95 rfl (by omega) (by omega) rfl ?_
          exact v_iret hC hQ () [0, 1, 2, 3, 4, 5, 6, 7, 8, 9, 10, 11, 12, 13, 14, 15, 16, 17] dX8_ofPiece_96 rfl rfl ⟨by decide, by decide⟩ ⟨by (try dsimp only); all_goals (intro _; first | rfl | (exfalso; omega)), by (try dsimp only); all_goals (intro _; first | rfl | (exfalso; omega)), by (try dsimp only); all_goals (intro _; first | rfl | (exfalso; omega)), by (try dsimp only); all_goals (intro _; first | rfl | (exfalso; omega)), by (try dsimp only); all_goals (intro _; first | rfl | (exfalso; omega)), by (try dsimp only); all_goals (intro _; first | rfl | (exfalso; omega))⟩
        · refine v_tableIn hC 97 2 (off := 53) dX8_ofPiece_44 (by omega) hsw_44 (by decide) (by decide) (by decide) (by decide) ?_
          refine v_aload_n hC 98 0 dX8_ofPiece_97 rfl rfl rfl ?_
          refine v_get hC 101 0 8 (C := RX8) (T := TX8) (N := 31) dX8_ofPiece_98 rfl iX8 L3 rfl rfl (by decide) rfl ?_
          refine v_iload_n hC 102 1 dX8_ofPiece_101 rfl rfl rfl ?_
          refine v_iald hC 103 4 dX8_ofPiece_102 rfl rfl (by decide) (by omega) ?_
          refine v_bipush hC 105 dX8_ofPiece_103 rfl rfl ?_
          refine v_idiv hC 106 ((mpf x) / 12) dX8_ofPiece_105 rfl (by omega) (by omega) rfl ?_
          exact v_iret hC hQ () [0, 1, 2, 3, 4, 5, 6, 7, 8, 9, 10, 11, 12, 13, 14, 15, 16, 17] dX8_ofPiece_106 rfl rfl ⟨by decide, by decide⟩ ⟨by (try dsimp only); all_goals (intro _; first | rfl | (exfalso; omega)), by (try dsimp only); all_goals (intro _; first | rfl | (exfalso; omega)), by (try dsimp only); all_goals (intro _; first | rfl | (exfalso; omega)), by (try dsimp only); all_goals (intro _; first | rfl | (exfalso; omega)), by (try dsimp only); all_goals (intro _; first | rfl | (exfalso; omega)), by (try dsimp only); all_goals (intro _; first | rfl | (exfalso; omega))⟩
        · refine v_tableIn hC 107 3 (off := 63) dX8_ofPiece_44 (by omega) hsw_44 (by decide) (by decide) (by decide) (by decide) ?_
          refine v_aload_n hC 108 0 dX8_ofPiece_107 rfl rfl rfl ?_
          refine v_get hC 111 0 9 (C := RX8) (T := TX8) (N := 31) dX8_ofPiece_108 rfl iX8 L4 rfl rfl (by decide) rfl ?_
          refine v_iload_n hC 112 1 dX8_ofPiece_111 rfl rfl rfl ?_
          refine v_iald hC 113 5 dX8_ofPiece_112 rfl rfl (by decide) (by omega) ?_
          exact v_iret hC hQ () [0, 1, 2, 3, 4, 5, 6, 7, 8, 9, 10, 11, 12, 13, 14, 15, 16, 17] dX8_ofPiece_113 rfl rfl ⟨by decide, by decide⟩ ⟨by (try dsimp only); all_goals (intro _; first | rfl | (exfalso; omega)), by (try dsimp only); all_goals (intro _; first | rfl | (exfalso; omega)), by (try dsimp only); all_goals (intro _; first | rfl | (exfalso; omega)), by (try dsimp only); all_goals (intro _; first | rfl | (exfalso; omega)), by (try dsimp only); all_goals (intro _; first | rfl | (exfalso; omega)), by (try dsimp only); all_goals (intro _; first | rfl | (exfalso; omega))⟩
        · refine v_tableIn hC 114 4 (off := 70) dX8_ofPiece_44 (by omega) hsw_44 (by decide) (by decide) (by decide) (by decide) ?_
          refine v_aload_n hC 115 0 dX8_ofPiece_114 rfl rfl rfl ?_
          refine v_aload_n hC 116 0 dX8_ofPiece_115 rfl rfl rfl ?_
          refine v_get hC 119 0 8 (C := RX8) (T := TX8) (N := 31) dX8_ofPiece_116 rfl iX8 L3 rfl rfl (by decide) rfl ?_
          refine v_iload_n hC 120 1 dX8_ofPiece_119 rfl rfl rfl ?_
          refine v_iald hC 121 4 dX8_ofPiece_120 rfl rfl (by decide) (by omega) ?_
          refine v_bipush hC 123 dX8_ofPiece_121 rfl rfl ?_
          refine v_idiv hC 124 ((mpf x) / 12) dX8_ofPiece_123 rfl (by omega) (by omega) rfl ?_
          refine v_callVi hC 127 1 [0, 1, 2, 3, 4, 5, 6, 7, 8, 9, 10, 11, 12, 13, 14, 15, 16, 17] [] [] (As := [.int (iI ((mpf x) / 12))]) (rest := []) (c_X8_stripOfRow lx D cs am mwide mhigh mborder mpattern mdoor mpieces mtiles mrests mcrates mmoves manyLaid mgrout mhour 0 mpillar mshut mpk mpf mpn mpr mleft mright mtop mbottom mat mrw mrh mrp mcf mcn mdry ((mpf x) / 12) (by omega) (by omega) (by omega)) dX8_ofPiece_124 rfl rfl 0 rfl rfl gX8_ofPiece_X8_stripOfRow rfl rfl rfl (by decide +kernel) ⟨by decide, by decide⟩ rfl rfl rfl rfl (by decide) rfl (Nat.le_of_ble_eq_true rfl) ⟨rfl, rfl⟩ ⟨by decide, by decide⟩ (fun z124 u124 h124 => ?_)
          (try dsimp only at h124)
          subst h124
          show V p9 lx e9 ({ frames := 3, cells := 0, slots := 0, locals := 65 }) s9 m9 ar9 be9 me9 c9 Q9 D A9 s9.heap 3 0 0 [oM am mwide mhigh mborder mpattern mdoor mpieces mtiles mrests mcrates mmoves manyLaid mgrout mhour 0, aC (cs 0) (am 1) 96 mpillar, aC (cs 0) (am 2) 12 mshut, aC (cs 0) (am 3) 96 mpk, aC (cs 0) (am 4) 96 mpf, aC (cs 0) (am 5) 96 mpn, aC (cs 0) (am 6) 96 mpr, aC (cs 0) (am 7) 96 mleft, aC (cs 0) (am 8) 96 mright, aC (cs 0) (am 9) 96 mtop, aC (cs 0) (am 10) 96 mbottom, aC (cs 0) (am 11) 96 mat, aC (cs 0) (am 12) 100 mrw, aC (cs 0) (am 13) 100 mrh, aC (cs 0) (am 14) 100 mrp, aC (cs 0) (am 15) 20 mcf, aC (cs 0) (am 16) 20 mcn, aC (cs 0) (am 17) 8 mdry] [(0, .ref (am 0)), (1, .int (iI x)), (2, .int (iI y))] 127 [.int (iI (sR mhigh mborder ((mpf x) / 12)))]
          exact v_iret hC hQ () [0, 1, 2, 3, 4, 5, 6, 7, 8, 9, 10, 11, 12, 13, 14, 15, 16, 17] dX8_ofPiece_127 rfl rfl ⟨by decide, by decide⟩ ⟨by (try dsimp only); all_goals (intro _; first | rfl | (exfalso; omega)), by (try dsimp only); all_goals (intro _; first | rfl | (exfalso; omega)), by (try dsimp only); all_goals (intro _; first | rfl | (exfalso; omega)), by (try dsimp only); all_goals (intro _; first | rfl | (exfalso; omega)), by (try dsimp only); all_goals (intro _; first | rfl | (exfalso; omega)), by (try dsimp only); all_goals (intro _; first | rfl | (exfalso; omega))⟩
      · exfalso; omega
  · exfalso; omega

set_option maxHeartbeats 4000000 in
set_option maxRecDepth 100000 in
theorem n_X8_ofPiece (lx : Launch) (D : va_G) (cs : Nat → ClassId) (am : Nat → Nat) (mwide : Int) (mhigh : Int) (mborder : Int) (mpattern : Int) (mdoor : Int) (mpieces : Int) (mtiles : Int) (mrests : Int) (mcrates : Int) (mmoves : Int) (manyLaid : Int) (mgrout : Int) (mhour : Int) (mthrown : Int) (mpillar : Int → Int) (mshut : Int → Int) (mpk : Int → Int) (mpf : Int → Int) (mpn : Int → Int) (mpr : Int → Int) (mleft : Int → Int) (mright : Int → Int) (mtop : Int → Int) (mbottom : Int → Int) (mat : Int → Int) (mrw : Int → Int) (mrh : Int → Int) (mrp : Int → Int) (mcf : Int → Int) (mcn : Int → Int) (mdry : Int → Int) (x : Int) (y : Int) (k : Int) (r1 : -2147483648 ≤ x ∧ x < 2147483648) (r2 : -2147483648 ≤ y ∧ y < 2147483648) (hcnt : 0 ≤ mpieces ∧ mpieces ≤ 96) (hno : (¬ (0 ≤ x ∧ x < mpieces) ∧ k = 1) ∨ ((0 ≤ x ∧ x < mpieces) ∧ ¬ (0 ≤ y ∧ y ≤ 5) ∧ k = 2)) : Ci lx D cs yX8_ofPiece wsX8_ofPiece ({ frames := 3, cells := 0, slots := 0, locals := 65 }) [.ref (am 0), .int (iI x), .int (iI y)] [oM am mwide mhigh mborder mpattern mdoor mpieces mtiles mrests mcrates mmoves manyLaid mgrout mhour mthrown, aC (cs 0) (am 1) 96 mpillar, aC (cs 0) (am 2) 12 mshut, aC (cs 0) (am 3) 96 mpk, aC (cs 0) (am 4) 96 mpf, aC (cs 0) (am 5) 96 mpn, aC (cs 0) (am 6) 96 mpr, aC (cs 0) (am 7) 96 mleft, aC (cs 0) (am 8) 96 mright, aC (cs 0) (am 9) 96 mtop, aC (cs 0) (am 10) 96 mbottom, aC (cs 0) (am 11) 96 mat, aC (cs 0) (am 12) 100 mrw, aC (cs 0) (am 13) 100 mrh, aC (cs 0) (am 14) 100 mrp, aC (cs 0) (am 15) 20 mcf, aC (cs 0) (am 16) 20 mcn, aC (cs 0) (am 17) 8 mdry] (fun (z : Int) (u : Unit) => True) (fun u : Unit => [oM am mwide mhigh mborder mpattern mdoor mpieces mtiles mrests mcrates mmoves manyLaid mgrout mhour k, aC (cs 0) (am 1) 96 mpillar, aC (cs 0) (am 2) 12 mshut, aC (cs 0) (am 3) 96 mpk, aC (cs 0) (am 4) 96 mpf, aC (cs 0) (am 5) 96 mpn, aC (cs 0) (am 6) 96 mpr, aC (cs 0) (am 7) 96 mleft, aC (cs 0) (am 8) 96 mright, aC (cs 0) (am 9) 96 mtop, aC (cs 0) (am 10) 96 mbottom, aC (cs 0) (am 11) 96 mat, aC (cs 0) (am 12) 100 mrw, aC (cs 0) (am 13) 100 mrh, aC (cs 0) (am 14) 100 mrp, aC (cs 0) (am 15) 20 mcf, aC (cs 0) (am 16) 20 mcn, aC (cs 0) (am 17) 8 mdry]) 0 0 := by
  refine Ci_of (cc := cX8_ofPiece) (nL := 3) (ret := (some .int)) (lv0 := [(0, .ref (am 0)), (1, .int (iI x)), (2, .int (iI y))]) RX8 "ofPiece" (by decide +kernel) rfl (Nat.le_of_ble_eq_true rfl) rfl (fun p9 e9 s9 m9 ar9 be9 me9 c9 A9 Q9 hQ hC => ?_)
  have iX8 : ∀ w ∈ wsX80, w ∈ wsX8_ofPiece := by decide +kernel
  have L0 : Cond.fieldLink RX8 94 "GroutlineModel" "pieces" "I" ∈ wsX8_ofPiece := by decide +kernel
  refine v_aload_n hC 1 0 dX8_ofPiece_0 rfl rfl rfl ?_
  refine v_aload_n hC 2 0 dX8_ofPiece_1 rfl rfl rfl ?_
  refine v_iload_n hC 3 1 dX8_ofPiece_2 rfl rfl rfl ?_
  refine v_iconst hC 4 dX8_ofPiece_3 rfl ?_
  refine v_aload_n hC 5 0 dX8_ofPiece_4 rfl rfl rfl ?_
  refine v_get hC 8 0 16 (C := RX8) (T := TX8) (N := 31) dX8_ofPiece_5 rfl iX8 L0 rfl rfl (by decide) rfl ?_
  refine v_iconst hC 9 dX8_ofPiece_8 rfl ?_
  refine v_isub hC 10 (mpieces - 1) dX8_ofPiece_9 rfl rfl ?_
  refine v_callVi hC 13 3 [0, 1, 2, 3, 4, 5, 6, 7, 8, 9, 10, 11, 12, 13, 14, 15, 16, 17] [] [] (As := [.int (iI x), .int (iI 0), .int (iI (mpieces - 1))]) (rest := [.ref (am 0)]) (c_X8_in lx D cs am mwide mhigh mborder mpattern mdoor mpieces mtiles mrests mcrates mmoves manyLaid mgrout mhour mthrown mpillar mshut mpk mpf mpn mpr mleft mright mtop mbottom mat mrw mrh mrp mcf mcn mdry x 0 (mpieces - 1) (by omega) (by omega) (by omega)) dX8_ofPiece_10 rfl rfl 0 rfl rfl gX8_ofPiece_X8_in rfl rfl rfl (by decide +kernel) ⟨by decide, by decide⟩ rfl rfl rfl rfl (by decide) rfl (Nat.le_of_ble_eq_true rfl) ⟨rfl, rfl⟩ ⟨by decide, by decide⟩ (fun z10 u10 h10 => ?_)
  (try dsimp only at h10)
  obtain ⟨h10_1, h10_2⟩ := h10
  show V p9 lx e9 ({ frames := 3, cells := 0, slots := 0, locals := 65 }) s9 m9 ar9 be9 me9 c9 Q9 D A9 s9.heap 3 0 0 [oM am mwide mhigh mborder mpattern mdoor mpieces mtiles mrests mcrates mmoves manyLaid mgrout mhour mthrown, aC (cs 0) (am 1) 96 mpillar, aC (cs 0) (am 2) 12 mshut, aC (cs 0) (am 3) 96 mpk, aC (cs 0) (am 4) 96 mpf, aC (cs 0) (am 5) 96 mpn, aC (cs 0) (am 6) 96 mpr, aC (cs 0) (am 7) 96 mleft, aC (cs 0) (am 8) 96 mright, aC (cs 0) (am 9) 96 mtop, aC (cs 0) (am 10) 96 mbottom, aC (cs 0) (am 11) 96 mat, aC (cs 0) (am 12) 100 mrw, aC (cs 0) (am 13) 100 mrh, aC (cs 0) (am 14) 100 mrp, aC (cs 0) (am 15) 20 mcf, aC (cs 0) (am 16) 20 mcn, aC (cs 0) (am 17) 8 mdry] [(0, .ref (am 0)), (1, .int (iI x)), (2, .int (iI y))] 13 [.int (iI z10), .ref (am 0)]
  refine v_if_ne hC 20 16 dX8_ofPiece_13 (by decide) rfl (by omega) (fun c_13 => ?_) (fun c_13 => ?_)
  · skip
    refine v_aload_n hC 21 0 dX8_ofPiece_20 rfl rfl rfl ?_
    refine v_iload_n hC 22 2 dX8_ofPiece_21 rfl rfl rfl ?_
    refine v_iconst hC 23 dX8_ofPiece_22 rfl ?_
    refine v_iconst hC 24 dX8_ofPiece_23 rfl ?_
    refine v_callVi hC 27 3 [0, 1, 2, 3, 4, 5, 6, 7, 8, 9, 10, 11, 12, 13, 14, 15, 16, 17] [] [] (As := [.int (iI y), .int (iI 0), .int (iI 5)]) (rest := [.ref (am 0)]) (c_X8_in lx D cs am mwide mhigh mborder mpattern mdoor mpieces mtiles mrests mcrates mmoves manyLaid mgrout mhour mthrown mpillar mshut mpk mpf mpn mpr mleft mright mtop mbottom mat mrw mrh mrp mcf mcn mdry y 0 5 (by omega) (by omega) (by omega)) dX8_ofPiece_24 rfl rfl 0 rfl rfl gX8_ofPiece_X8_in rfl rfl rfl (by decide +kernel) ⟨by decide, by decide⟩ rfl rfl rfl rfl (by decide) rfl (Nat.le_of_ble_eq_true rfl) ⟨rfl, rfl⟩ ⟨by decide, by decide⟩ (fun z24 u24 h24 => ?_)
    (try dsimp only at h24)
    obtain ⟨h24_1, h24_2⟩ := h24
    show V p9 lx e9 ({ frames := 3, cells := 0, slots := 0, locals := 65 }) s9 m9 ar9 be9 me9 c9 Q9 D A9 s9.heap 3 0 0 [oM am mwide mhigh mborder mpattern mdoor mpieces mtiles mrests mcrates mmoves manyLaid mgrout mhour mthrown, aC (cs 0) (am 1) 96 mpillar, aC (cs 0) (am 2) 12 mshut, aC (cs 0) (am 3) 96 mpk, aC (cs 0) (am 4) 96 mpf, aC (cs 0) (am 5) 96 mpn, aC (cs 0) (am 6) 96 mpr, aC (cs 0) (am 7) 96 mleft, aC (cs 0) (am 8) 96 mright, aC (cs 0) (am 9) 96 mtop, aC (cs 0) (am 10) 96 mbottom, aC (cs 0) (am 11) 96 mat, aC (cs 0) (am 12) 100 mrw, aC (cs 0) (am 13) 100 mrh, aC (cs 0) (am 14) 100 mrp, aC (cs 0) (am 15) 20 mcf, aC (cs 0) (am 16) 20 mcn, aC (cs 0) (am 17) 8 mdry] [(0, .ref (am 0)), (1, .int (iI x)), (2, .int (iI y))] 27 [.int (iI z24), .ref (am 0)]
    refine v_if_eq hC 34 30 dX8_ofPiece_27 (by decide) rfl (by omega) (fun c_27 => ?_) (fun c_27 => ?_)
    · skip
      refine v_iconst hC 35 dX8_ofPiece_34 rfl ?_
      refine v_callVi hC 38 1 [0, 1, 2, 3, 4, 5, 6, 7, 8, 9, 10, 11, 12, 13, 14, 15, 16, 17] [] [] (As := [.int (iI 2)]) (rest := []) (c_X8_holds lx D cs am mwide mhigh mborder mpattern mdoor mpieces mtiles mrests mcrates mmoves manyLaid mgrout mhour mthrown mpillar mshut mpk mpf mpn mpr mleft mright mtop mbottom mat mrw mrh mrp mcf mcn mdry 2 (by omega)) dX8_ofPiece_35 rfl rfl 0 rfl rfl gX8_ofPiece_X8_holds rfl rfl rfl (by decide +kernel) ⟨by decide, by decide⟩ rfl rfl rfl rfl (by decide) rfl (Nat.le_of_ble_eq_true rfl) ⟨rfl, rfl⟩ ⟨by decide, by decide⟩ (fun z35 u35 h35 => ?_)
      (try dsimp only at h35)
      obtain ⟨h35_1, h35_2⟩ := h35
      show V p9 lx e9 ({ frames := 3, cells := 0, slots := 0, locals := 65 }) s9 m9 ar9 be9 me9 c9 Q9 D A9 s9.heap 3 0 0 [oM am mwide mhigh mborder mpattern mdoor mpieces mtiles mrests mcrates mmoves manyLaid mgrout mhour 2, aC (cs 0) (am 1) 96 mpillar, aC (cs 0) (am 2) 12 mshut, aC (cs 0) (am 3) 96 mpk, aC (cs 0) (am 4) 96 mpf, aC (cs 0) (am 5) 96 mpn, aC (cs 0) (am 6) 96 mpr, aC (cs 0) (am 7) 96 mleft, aC (cs 0) (am 8) 96 mright, aC (cs 0) (am 9) 96 mtop, aC (cs 0) (am 10) 96 mbottom, aC (cs 0) (am 11) 96 mat, aC (cs 0) (am 12) 100 mrw, aC (cs 0) (am 13) 100 mrh, aC (cs 0) (am 14) 100 mrp, aC (cs 0) (am 15) 20 mcf, aC (cs 0) (am 16) 20 mcn, aC (cs 0) (am 17) 8 mdry] [(0, .ref (am 0)), (1, .int (iI x)), (2, .int (iI y))] 38 [.int (iI z35)]
      refine v_if_eq hC 43 41 dX8_ofPiece_38 (by decide) rfl (by omega) (fun c_38 => ?_) (fun c_38 => ?_)
      · exfalso; omega
      · skip
        refine v_iconst hC 42 dX8_ofPiece_41 rfl ?_
        obtain rfl : k = 2 := by omega
        exact v_iret hC hQ () [0, 1, 2, 3, 4, 5, 6, 7, 8, 9, 10, 11, 12, 13, 14, 15, 16, 17] dX8_ofPiece_42 rfl rfl ⟨by decide, by decide⟩ trivial
    · exfalso; omega
  · skip
    refine v_iconst hC 17 dX8_ofPiece_16 rfl ?_
    refine v_goto hC 35 dX8_ofPiece_17 (by decide) ?_
    refine v_callVi hC 38 1 [0, 1, 2, 3, 4, 5, 6, 7, 8, 9, 10, 11, 12, 13, 14, 15, 16, 17] [] [] (As := [.int (iI 1)]) (rest := []) (c_X8_holds lx D cs am mwide mhigh mborder mpattern mdoor mpieces mtiles mrests mcrates mmoves manyLaid mgrout mhour mthrown mpillar mshut mpk mpf mpn mpr mleft mright mtop mbottom mat mrw mrh mrp mcf mcn mdry 1 (by omega)) dX8_ofPiece_35 rfl rfl 0 rfl rfl gX8_ofPiece_X8_holds rfl rfl rfl (by decide +kernel) ⟨by decide, by decide⟩ rfl rfl rfl rfl (by decide) rfl (Nat.le_of_ble_eq_true rfl) ⟨rfl, rfl⟩ ⟨by decide, by decide⟩ (fun z35 u35 h35 => ?_)
    (try dsimp only at h35)
    obtain ⟨h35_1, h35_2⟩ := h35
    show V p9 lx e9 ({ frames := 3, cells := 0, slots := 0, locals := 65 }) s9 m9 ar9 be9 me9 c9 Q9 D A9 s9.heap 3 0 0 [oM am mwide mhigh mborder mpattern mdoor mpieces mtiles mrests mcrates mmoves manyLaid mgrout mhour 1, aC (cs 0) (am 1) 96 mpillar, aC (cs 0) (am 2) 12 mshut, aC (cs 0) (am 3) 96 mpk, aC (cs 0) (am 4) 96 mpf, aC (cs 0) (am 5) 96 mpn, aC (cs 0) (am 6) 96 mpr, aC (cs 0) (am 7) 96 mleft, aC (cs 0) (am 8) 96 mright, aC (cs 0) (am 9) 96 mtop, aC (cs 0) (am 10) 96 mbottom, aC (cs 0) (am 11) 96 mat, aC (cs 0) (am 12) 100 mrw, aC (cs 0) (am 13) 100 mrh, aC (cs 0) (am 14) 100 mrp, aC (cs 0) (am 15) 20 mcf, aC (cs 0) (am 16) 20 mcn, aC (cs 0) (am 17) 8 mdry] [(0, .ref (am 0)), (1, .int (iI x)), (2, .int (iI y))] 38 [.int (iI z35)]
    refine v_if_eq hC 43 41 dX8_ofPiece_38 (by decide) rfl (by omega) (fun c_38 => ?_) (fun c_38 => ?_)
    · exfalso; omega
    · skip
      refine v_iconst hC 42 dX8_ofPiece_41 rfl ?_
      obtain rfl : k = 1 := by omega
      exact v_iret hC hQ () [0, 1, 2, 3, 4, 5, 6, 7, 8, 9, 10, 11, 12, 13, 14, 15, 16, 17] dX8_ofPiece_42 rfl rfl ⟨by decide, by decide⟩ trivial

set_option maxHeartbeats 4000000 in
set_option maxRecDepth 100000 in
theorem c_X8_pieceAt (lx : Launch) (D : va_G) (cs : Nat → ClassId) (am : Nat → Nat) (mwide : Int) (mhigh : Int) (mborder : Int) (mpattern : Int) (mdoor : Int) (mpieces : Int) (mtiles : Int) (mrests : Int) (mcrates : Int) (mmoves : Int) (manyLaid : Int) (mgrout : Int) (mhour : Int) (mthrown : Int) (mpillar : Int → Int) (mshut : Int → Int) (mpk : Int → Int) (mpf : Int → Int) (mpn : Int → Int) (mpr : Int → Int) (mleft : Int → Int) (mright : Int → Int) (mtop : Int → Int) (mbottom : Int → Int) (mat : Int → Int) (mrw : Int → Int) (mrh : Int → Int) (mrp : Int → Int) (mcf : Int → Int) (mcn : Int → Int) (mdry : Int → Int) (x : Int) (y : Int) (r1 : -2147483648 ≤ x ∧ x < 2147483648) (r2 : -2147483648 ≤ y ∧ y < 2147483648) (hok : ((0 ≤ x ∧ x < 12) ∧ 0 ≤ y ∧ y < 8)) : Ci lx D cs yX8_pieceAt wsX8_pieceAt ({ frames := 2, cells := 0, slots := 0, locals := 47 }) [.ref (am 0), .int (iI x), .int (iI y)] [oM am mwide mhigh mborder mpattern mdoor mpieces mtiles mrests mcrates mmoves manyLaid mgrout mhour mthrown, aC (cs 0) (am 1) 96 mpillar, aC (cs 0) (am 2) 12 mshut, aC (cs 0) (am 3) 96 mpk, aC (cs 0) (am 4) 96 mpf, aC (cs 0) (am 5) 96 mpn, aC (cs 0) (am 6) 96 mpr, aC (cs 0) (am 7) 96 mleft, aC (cs 0) (am 8) 96 mright, aC (cs 0) (am 9) 96 mtop, aC (cs 0) (am 10) 96 mbottom, aC (cs 0) (am 11) 96 mat, aC (cs 0) (am 12) 100 mrw, aC (cs 0) (am 13) 100 mrh, aC (cs 0) (am 14) 100 mrp, aC (cs 0) (am 15) 20 mcf, aC (cs 0) (am 16) 20 mcn, aC (cs 0) (am 17) 8 mdry] (fun (z : Int) (u : Unit) => (z = mat (12 * y + x))) (fun u : Unit => [oM am mwide mhigh mborder mpattern mdoor mpieces mtiles mrests mcrates mmoves manyLaid mgrout mhour 0, aC (cs 0) (am 1) 96 mpillar, aC (cs 0) (am 2) 12 mshut, aC (cs 0) (am 3) 96 mpk, aC (cs 0) (am 4) 96 mpf, aC (cs 0) (am 5) 96 mpn, aC (cs 0) (am 6) 96 mpr, aC (cs 0) (am 7) 96 mleft, aC (cs 0) (am 8) 96 mright, aC (cs 0) (am 9) 96 mtop, aC (cs 0) (am 10) 96 mbottom, aC (cs 0) (am 11) 96 mat, aC (cs 0) (am 12) 100 mrw, aC (cs 0) (am 13) 100 mrh, aC (cs 0) (am 14) 100 mrp, aC (cs 0) (am 15) 20 mcf, aC (cs 0) (am 16) 20 mcn, aC (cs 0) (am 17) 8 mdry]) 0 0 := by
  refine Ci_of (cc := cX8_pieceAt) (nL := 3) (ret := (some .int)) (lv0 := [(0, .ref (am 0)), (1, .int (iI x)), (2, .int (iI y))]) RX8 "pieceAt" (by decide +kernel) rfl (Nat.le_of_ble_eq_true rfl) rfl (fun p9 e9 s9 m9 ar9 be9 me9 c9 A9 Q9 hQ hC => ?_)
  have iX8 : ∀ w ∈ wsX80, w ∈ wsX8_pieceAt := by decide +kernel
  have L0 : Cond.fieldLink RX8 47 "GroutlineModel" "at" "[I" ∈ wsX8_pieceAt := by decide +kernel
  refine v_aload_n hC 1 0 dX8_pieceAt_0 rfl rfl rfl ?_
  refine v_aload_n hC 2 0 dX8_pieceAt_1 rfl rfl rfl ?_
  refine v_iload_n hC 3 1 dX8_pieceAt_2 rfl rfl rfl ?_
  refine v_iconst hC 4 dX8_pieceAt_3 rfl ?_
  refine v_bipush hC 6 dX8_pieceAt_4 rfl rfl ?_
  refine v_callVi hC 9 3 [0, 1, 2, 3, 4, 5, 6, 7, 8, 9, 10, 11, 12, 13, 14, 15, 16, 17] [] [] (As := [.int (iI x), .int (iI 0), .int (iI 11)]) (rest := [.ref (am 0)]) (c_X8_in lx D cs am mwide mhigh mborder mpattern mdoor mpieces mtiles mrests mcrates mmoves manyLaid mgrout mhour mthrown mpillar mshut mpk mpf mpn mpr mleft mright mtop mbottom mat mrw mrh mrp mcf mcn mdry x 0 11 (by omega) (by omega) (by omega)) dX8_pieceAt_6 rfl rfl 0 rfl rfl gX8_pieceAt_X8_in rfl rfl rfl (by decide +kernel) ⟨by decide, by decide⟩ rfl rfl rfl rfl (by decide) rfl (Nat.le_of_ble_eq_true rfl) ⟨rfl, rfl⟩ ⟨by decide, by decide⟩ (fun z6 u6 h6 => ?_)
  (try dsimp only at h6)
  obtain ⟨h6_1, h6_2⟩ := h6
  show V p9 lx e9 ({ frames := 2, cells := 0, slots := 0, locals := 47 }) s9 m9 ar9 be9 me9 c9 Q9 D A9 s9.heap 3 0 0 [oM am mwide mhigh mborder mpattern mdoor mpieces mtiles mrests mcrates mmoves manyLaid mgrout mhour mthrown, aC (cs 0) (am 1) 96 mpillar, aC (cs 0) (am 2) 12 mshut, aC (cs 0) (am 3) 96 mpk, aC (cs 0) (am 4) 96 mpf, aC (cs 0) (am 5) 96 mpn, aC (cs 0) (am 6) 96 mpr, aC (cs 0) (am 7) 96 mleft, aC (cs 0) (am 8) 96 mright, aC (cs 0) (am 9) 96 mtop, aC (cs 0) (am 10) 96 mbottom, aC (cs 0) (am 11) 96 mat, aC (cs 0) (am 12) 100 mrw, aC (cs 0) (am 13) 100 mrh, aC (cs 0) (am 14) 100 mrp, aC (cs 0) (am 15) 20 mcf, aC (cs 0) (am 16) 20 mcn, aC (cs 0) (am 17) 8 mdry] [(0, .ref (am 0)), (1, .int (iI x)), (2, .int (iI y))] 9 [.int (iI z6), .ref (am 0)]
  refine v_if_eq hC 27 12 dX8_pieceAt_9 (by decide) rfl (by omega) (fun c_9 => ?_) (fun c_9 => ?_)
  · exfalso; omega
  · skip
    refine v_aload_n hC 13 0 dX8_pieceAt_12 rfl rfl rfl ?_
    refine v_iload_n hC 14 2 dX8_pieceAt_13 rfl rfl rfl ?_
    refine v_iconst hC 15 dX8_pieceAt_14 rfl ?_
    refine v_bipush hC 17 dX8_pieceAt_15 rfl rfl ?_
    refine v_callVi hC 20 3 [0, 1, 2, 3, 4, 5, 6, 7, 8, 9, 10, 11, 12, 13, 14, 15, 16, 17] [] [] (As := [.int (iI y), .int (iI 0), .int (iI 7)]) (rest := [.ref (am 0)]) (c_X8_in lx D cs am mwide mhigh mborder mpattern mdoor mpieces mtiles mrests mcrates mmoves manyLaid mgrout mhour mthrown mpillar mshut mpk mpf mpn mpr mleft mright mtop mbottom mat mrw mrh mrp mcf mcn mdry y 0 7 (by omega) (by omega) (by omega)) dX8_pieceAt_17 rfl rfl 0 rfl rfl gX8_pieceAt_X8_in rfl rfl rfl (by decide +kernel) ⟨by decide, by decide⟩ rfl rfl rfl rfl (by decide) rfl (Nat.le_of_ble_eq_true rfl) ⟨rfl, rfl⟩ ⟨by decide, by decide⟩ (fun z17 u17 h17 => ?_)
    (try dsimp only at h17)
    obtain ⟨h17_1, h17_2⟩ := h17
    show V p9 lx e9 ({ frames := 2, cells := 0, slots := 0, locals := 47 }) s9 m9 ar9 be9 me9 c9 Q9 D A9 s9.heap 3 0 0 [oM am mwide mhigh mborder mpattern mdoor mpieces mtiles mrests mcrates mmoves manyLaid mgrout mhour mthrown, aC (cs 0) (am 1) 96 mpillar, aC (cs 0) (am 2) 12 mshut, aC (cs 0) (am 3) 96 mpk, aC (cs 0) (am 4) 96 mpf, aC (cs 0) (am 5) 96 mpn, aC (cs 0) (am 6) 96 mpr, aC (cs 0) (am 7) 96 mleft, aC (cs 0) (am 8) 96 mright, aC (cs 0) (am 9) 96 mtop, aC (cs 0) (am 10) 96 mbottom, aC (cs 0) (am 11) 96 mat, aC (cs 0) (am 12) 100 mrw, aC (cs 0) (am 13) 100 mrh, aC (cs 0) (am 14) 100 mrp, aC (cs 0) (am 15) 20 mcf, aC (cs 0) (am 16) 20 mcn, aC (cs 0) (am 17) 8 mdry] [(0, .ref (am 0)), (1, .int (iI x)), (2, .int (iI y))] 20 [.int (iI z17), .ref (am 0)]
    refine v_if_eq hC 27 23 dX8_pieceAt_20 (by decide) rfl (by omega) (fun c_20 => ?_) (fun c_20 => ?_)
    · exfalso; omega
    · skip
      refine v_iconst hC 24 dX8_pieceAt_23 rfl ?_
      refine v_goto hC 28 dX8_pieceAt_24 (by decide) ?_
      refine v_callVi hC 31 1 [0, 1, 2, 3, 4, 5, 6, 7, 8, 9, 10, 11, 12, 13, 14, 15, 16, 17] [] [] (As := [.int (iI 0)]) (rest := []) (c_X8_holds lx D cs am mwide mhigh mborder mpattern mdoor mpieces mtiles mrests mcrates mmoves manyLaid mgrout mhour mthrown mpillar mshut mpk mpf mpn mpr mleft mright mtop mbottom mat mrw mrh mrp mcf mcn mdry 0 (by omega)) dX8_pieceAt_28 rfl rfl 0 rfl rfl gX8_pieceAt_X8_holds rfl rfl rfl (by decide +kernel) ⟨by decide, by decide⟩ rfl rfl rfl rfl (by decide) rfl (Nat.le_of_ble_eq_true rfl) ⟨rfl, rfl⟩ ⟨by decide, by decide⟩ (fun z28 u28 h28 => ?_)
      (try dsimp only at h28)
      obtain ⟨h28_1, h28_2⟩ := h28
      show V p9 lx e9 ({ frames := 2, cells := 0, slots := 0, locals := 47 }) s9 m9 ar9 be9 me9 c9 Q9 D A9 s9.heap 3 0 0 [oM am mwide mhigh mborder mpattern mdoor mpieces mtiles mrests mcrates mmoves manyLaid mgrout mhour 0, aC (cs 0) (am 1) 96 mpillar, aC (cs 0) (am 2) 12 mshut, aC (cs 0) (am 3) 96 mpk, aC (cs 0) (am 4) 96 mpf, aC (cs 0) (am 5) 96 mpn, aC (cs 0) (am 6) 96 mpr, aC (cs 0) (am 7) 96 mleft, aC (cs 0) (am 8) 96 mright, aC (cs 0) (am 9) 96 mtop, aC (cs 0) (am 10) 96 mbottom, aC (cs 0) (am 11) 96 mat, aC (cs 0) (am 12) 100 mrw, aC (cs 0) (am 13) 100 mrh, aC (cs 0) (am 14) 100 mrp, aC (cs 0) (am 15) 20 mcf, aC (cs 0) (am 16) 20 mcn, aC (cs 0) (am 17) 8 mdry] [(0, .ref (am 0)), (1, .int (iI x)), (2, .int (iI y))] 31 [.int (iI z28)]
      refine v_if_eq hC 38 34 dX8_pieceAt_31 (by decide) rfl (by omega) (fun c_31 => ?_) (fun c_31 => ?_)
      · skip
        refine v_aload_n hC 39 0 dX8_pieceAt_38 rfl rfl rfl ?_
        refine v_get hC 42 0 15 (C := RX8) (T := TX8) (N := 31) dX8_pieceAt_39 rfl iX8 L0 rfl rfl (by decide) rfl ?_
        refine v_bipush hC 44 dX8_pieceAt_42 rfl rfl ?_
        refine v_iload_n hC 45 2 dX8_pieceAt_44 rfl rfl rfl ?_
        refine v_imul hC 46 (12 * y) dX8_pieceAt_45 rfl rfl ?_
        refine v_iload_n hC 47 1 dX8_pieceAt_46 rfl rfl rfl ?_
        refine v_iadd hC 48 (12 * y + x) dX8_pieceAt_47 rfl rfl ?_
        refine v_iald hC 49 11 dX8_pieceAt_48 rfl rfl (by decide) (by omega) ?_
        exact v_iret hC hQ () [0, 1, 2, 3, 4, 5, 6, 7, 8, 9, 10, 11, 12, 13, 14, 15, 16, 17] dX8_pieceAt_49 rfl rfl ⟨by decide, by decide⟩ (by (try dsimp only); all_goals (first | rfl | omega))
      · exfalso; omega

set_option maxHeartbeats 4000000 in
set_option maxRecDepth 100000 in
theorem n_X8_pieceAt (lx : Launch) (D : va_G) (cs : Nat → ClassId) (am : Nat → Nat) (mwide : Int) (mhigh : Int) (mborder : Int) (mpattern : Int) (mdoor : Int) (mpieces : Int) (mtiles : Int) (mrests : Int) (mcrates : Int) (mmoves : Int) (manyLaid : Int) (mgrout : Int) (mhour : Int) (mthrown : Int) (mpillar : Int → Int) (mshut : Int → Int) (mpk : Int → Int) (mpf : Int → Int) (mpn : Int → Int) (mpr : Int → Int) (mleft : Int → Int) (mright : Int → Int) (mtop : Int → Int) (mbottom : Int → Int) (mat : Int → Int) (mrw : Int → Int) (mrh : Int → Int) (mrp : Int → Int) (mcf : Int → Int) (mcn : Int → Int) (mdry : Int → Int) (x : Int) (y : Int) (r1 : -2147483648 ≤ x ∧ x < 2147483648) (r2 : -2147483648 ≤ y ∧ y < 2147483648) (hno : ¬ ((0 ≤ x ∧ x < 12) ∧ 0 ≤ y ∧ y < 8)) : Ci lx D cs yX8_pieceAt wsX8_pieceAt ({ frames := 2, cells := 0, slots := 0, locals := 47 }) [.ref (am 0), .int (iI x), .int (iI y)] [oM am mwide mhigh mborder mpattern mdoor mpieces mtiles mrests mcrates mmoves manyLaid mgrout mhour mthrown, aC (cs 0) (am 1) 96 mpillar, aC (cs 0) (am 2) 12 mshut, aC (cs 0) (am 3) 96 mpk, aC (cs 0) (am 4) 96 mpf, aC (cs 0) (am 5) 96 mpn, aC (cs 0) (am 6) 96 mpr, aC (cs 0) (am 7) 96 mleft, aC (cs 0) (am 8) 96 mright, aC (cs 0) (am 9) 96 mtop, aC (cs 0) (am 10) 96 mbottom, aC (cs 0) (am 11) 96 mat, aC (cs 0) (am 12) 100 mrw, aC (cs 0) (am 13) 100 mrh, aC (cs 0) (am 14) 100 mrp, aC (cs 0) (am 15) 20 mcf, aC (cs 0) (am 16) 20 mcn, aC (cs 0) (am 17) 8 mdry] (fun (z : Int) (u : Unit) => True) (fun u : Unit => [oM am mwide mhigh mborder mpattern mdoor mpieces mtiles mrests mcrates mmoves manyLaid mgrout mhour 1, aC (cs 0) (am 1) 96 mpillar, aC (cs 0) (am 2) 12 mshut, aC (cs 0) (am 3) 96 mpk, aC (cs 0) (am 4) 96 mpf, aC (cs 0) (am 5) 96 mpn, aC (cs 0) (am 6) 96 mpr, aC (cs 0) (am 7) 96 mleft, aC (cs 0) (am 8) 96 mright, aC (cs 0) (am 9) 96 mtop, aC (cs 0) (am 10) 96 mbottom, aC (cs 0) (am 11) 96 mat, aC (cs 0) (am 12) 100 mrw, aC (cs 0) (am 13) 100 mrh, aC (cs 0) (am 14) 100 mrp, aC (cs 0) (am 15) 20 mcf, aC (cs 0) (am 16) 20 mcn, aC (cs 0) (am 17) 8 mdry]) 0 0 := by
  refine Ci_of (cc := cX8_pieceAt) (nL := 3) (ret := (some .int)) (lv0 := [(0, .ref (am 0)), (1, .int (iI x)), (2, .int (iI y))]) RX8 "pieceAt" (by decide +kernel) rfl (Nat.le_of_ble_eq_true rfl) rfl (fun p9 e9 s9 m9 ar9 be9 me9 c9 A9 Q9 hQ hC => ?_)
  refine v_aload_n hC 1 0 dX8_pieceAt_0 rfl rfl rfl ?_
  refine v_aload_n hC 2 0 dX8_pieceAt_1 rfl rfl rfl ?_
  refine v_iload_n hC 3 1 dX8_pieceAt_2 rfl rfl rfl ?_
  refine v_iconst hC 4 dX8_pieceAt_3 rfl ?_
  refine v_bipush hC 6 dX8_pieceAt_4 rfl rfl ?_
  refine v_callVi hC 9 3 [0, 1, 2, 3, 4, 5, 6, 7, 8, 9, 10, 11, 12, 13, 14, 15, 16, 17] [] [] (As := [.int (iI x), .int (iI 0), .int (iI 11)]) (rest := [.ref (am 0)]) (c_X8_in lx D cs am mwide mhigh mborder mpattern mdoor mpieces mtiles mrests mcrates mmoves manyLaid mgrout mhour mthrown mpillar mshut mpk mpf mpn mpr mleft mright mtop mbottom mat mrw mrh mrp mcf mcn mdry x 0 11 (by omega) (by omega) (by omega)) dX8_pieceAt_6 rfl rfl 0 rfl rfl gX8_pieceAt_X8_in rfl rfl rfl (by decide +kernel) ⟨by decide, by decide⟩ rfl rfl rfl rfl (by decide) rfl (Nat.le_of_ble_eq_true rfl) ⟨rfl, rfl⟩ ⟨by decide, by decide⟩ (fun z6 u6 h6 => ?_)
  (try dsimp only at h6)
  obtain ⟨h6_1, h6_2⟩ := h6
  show V p9 lx e9 ({ frames := 2, cells := 0, slots := 0, locals := 47 }) s9 m9 ar9 be9 me9 c9 Q9 D A9 s9.heap 3 0 0 [oM am mwide mhigh mborder mpattern mdoor mpieces mtiles mrests mcrates mmoves manyLaid mgrout mhour mthrown, aC (cs 0) (am 1) 96 mpillar, aC (cs 0) (am 2) 12 mshut, aC (cs 0) (am 3) 96 mpk, aC (cs 0) (am 4) 96 mpf, aC (cs 0) (am 5) 96 mpn, aC (cs 0) (am 6) 96 mpr, aC (cs 0) (am 7) 96 mleft, aC (cs 0) (am 8) 96 mright, aC (cs 0) (am 9) 96 mtop, aC (cs 0) (am 10) 96 mbottom, aC (cs 0) (am 11) 96 mat, aC (cs 0) (am 12) 100 mrw, aC (cs 0) (am 13) 100 mrh, aC (cs 0) (am 14) 100 mrp, aC (cs 0) (am 15) 20 mcf, aC (cs 0) (am 16) 20 mcn, aC (cs 0) (am 17) 8 mdry] [(0, .ref (am 0)), (1, .int (iI x)), (2, .int (iI y))] 9 [.int (iI z6), .ref (am 0)]
  refine v_if_eq hC 27 12 dX8_pieceAt_9 (by decide) rfl (by omega) (fun c_9 => ?_) (fun c_9 => ?_)
  · skip
    refine v_iconst hC 28 dX8_pieceAt_27 rfl ?_
    refine v_callVi hC 31 1 [0, 1, 2, 3, 4, 5, 6, 7, 8, 9, 10, 11, 12, 13, 14, 15, 16, 17] [] [] (As := [.int (iI 1)]) (rest := []) (c_X8_holds lx D cs am mwide mhigh mborder mpattern mdoor mpieces mtiles mrests mcrates mmoves manyLaid mgrout mhour mthrown mpillar mshut mpk mpf mpn mpr mleft mright mtop mbottom mat mrw mrh mrp mcf mcn mdry 1 (by omega)) dX8_pieceAt_28 rfl rfl 0 rfl rfl gX8_pieceAt_X8_holds rfl rfl rfl (by decide +kernel) ⟨by decide, by decide⟩ rfl rfl rfl rfl (by decide) rfl (Nat.le_of_ble_eq_true rfl) ⟨rfl, rfl⟩ ⟨by decide, by decide⟩ (fun z28 u28 h28 => ?_)
    (try dsimp only at h28)
    obtain ⟨h28_1, h28_2⟩ := h28
    show V p9 lx e9 ({ frames := 2, cells := 0, slots := 0, locals := 47 }) s9 m9 ar9 be9 me9 c9 Q9 D A9 s9.heap 3 0 0 [oM am mwide mhigh mborder mpattern mdoor mpieces mtiles mrests mcrates mmoves manyLaid mgrout mhour 1, aC (cs 0) (am 1) 96 mpillar, aC (cs 0) (am 2) 12 mshut, aC (cs 0) (am 3) 96 mpk, aC (cs 0) (am 4) 96 mpf, aC (cs 0) (am 5) 96 mpn, aC (cs 0) (am 6) 96 mpr, aC (cs 0) (am 7) 96 mleft, aC (cs 0) (am 8) 96 mright, aC (cs 0) (am 9) 96 mtop, aC (cs 0) (am 10) 96 mbottom, aC (cs 0) (am 11) 96 mat, aC (cs 0) (am 12) 100 mrw, aC (cs 0) (am 13) 100 mrh, aC (cs 0) (am 14) 100 mrp, aC (cs 0) (am 15) 20 mcf, aC (cs 0) (am 16) 20 mcn, aC (cs 0) (am 17) 8 mdry] [(0, .ref (am 0)), (1, .int (iI x)), (2, .int (iI y))] 31 [.int (iI z28)]
    refine v_if_eq hC 38 34 dX8_pieceAt_31 (by decide) rfl (by omega) (fun c_31 => ?_) (fun c_31 => ?_)
    · exfalso; omega
    · skip
      refine v_iconst hC 35 dX8_pieceAt_34 rfl ?_
      refine v_goto hC 49 dX8_pieceAt_35 (by decide) ?_
      exact v_iret hC hQ () [0, 1, 2, 3, 4, 5, 6, 7, 8, 9, 10, 11, 12, 13, 14, 15, 16, 17] dX8_pieceAt_49 rfl rfl ⟨by decide, by decide⟩ trivial
  · skip
    refine v_aload_n hC 13 0 dX8_pieceAt_12 rfl rfl rfl ?_
    refine v_iload_n hC 14 2 dX8_pieceAt_13 rfl rfl rfl ?_
    refine v_iconst hC 15 dX8_pieceAt_14 rfl ?_
    refine v_bipush hC 17 dX8_pieceAt_15 rfl rfl ?_
    refine v_callVi hC 20 3 [0, 1, 2, 3, 4, 5, 6, 7, 8, 9, 10, 11, 12, 13, 14, 15, 16, 17] [] [] (As := [.int (iI y), .int (iI 0), .int (iI 7)]) (rest := [.ref (am 0)]) (c_X8_in lx D cs am mwide mhigh mborder mpattern mdoor mpieces mtiles mrests mcrates mmoves manyLaid mgrout mhour mthrown mpillar mshut mpk mpf mpn mpr mleft mright mtop mbottom mat mrw mrh mrp mcf mcn mdry y 0 7 (by omega) (by omega) (by omega)) dX8_pieceAt_17 rfl rfl 0 rfl rfl gX8_pieceAt_X8_in rfl rfl rfl (by decide +kernel) ⟨by decide, by decide⟩ rfl rfl rfl rfl (by decide) rfl (Nat.le_of_ble_eq_true rfl) ⟨rfl, rfl⟩ ⟨by decide, by decide⟩ (fun z17 u17 h17 => ?_)
    (try dsimp only at h17)
    obtain ⟨h17_1, h17_2⟩ := h17
    show V p9 lx e9 ({ frames := 2, cells := 0, slots := 0, locals := 47 }) s9 m9 ar9 be9 me9 c9 Q9 D A9 s9.heap 3 0 0 [oM am mwide mhigh mborder mpattern mdoor mpieces mtiles mrests mcrates mmoves manyLaid mgrout mhour mthrown, aC (cs 0) (am 1) 96 mpillar, aC (cs 0) (am 2) 12 mshut, aC (cs 0) (am 3) 96 mpk, aC (cs 0) (am 4) 96 mpf, aC (cs 0) (am 5) 96 mpn, aC (cs 0) (am 6) 96 mpr, aC (cs 0) (am 7) 96 mleft, aC (cs 0) (am 8) 96 mright, aC (cs 0) (am 9) 96 mtop, aC (cs 0) (am 10) 96 mbottom, aC (cs 0) (am 11) 96 mat, aC (cs 0) (am 12) 100 mrw, aC (cs 0) (am 13) 100 mrh, aC (cs 0) (am 14) 100 mrp, aC (cs 0) (am 15) 20 mcf, aC (cs 0) (am 16) 20 mcn, aC (cs 0) (am 17) 8 mdry] [(0, .ref (am 0)), (1, .int (iI x)), (2, .int (iI y))] 20 [.int (iI z17), .ref (am 0)]
    refine v_if_eq hC 27 23 dX8_pieceAt_20 (by decide) rfl (by omega) (fun c_20 => ?_) (fun c_20 => ?_)
    · skip
      refine v_iconst hC 28 dX8_pieceAt_27 rfl ?_
      refine v_callVi hC 31 1 [0, 1, 2, 3, 4, 5, 6, 7, 8, 9, 10, 11, 12, 13, 14, 15, 16, 17] [] [] (As := [.int (iI 1)]) (rest := []) (c_X8_holds lx D cs am mwide mhigh mborder mpattern mdoor mpieces mtiles mrests mcrates mmoves manyLaid mgrout mhour mthrown mpillar mshut mpk mpf mpn mpr mleft mright mtop mbottom mat mrw mrh mrp mcf mcn mdry 1 (by omega)) dX8_pieceAt_28 rfl rfl 0 rfl rfl gX8_pieceAt_X8_holds rfl rfl rfl (by decide +kernel) ⟨by decide, by decide⟩ rfl rfl rfl rfl (by decide) rfl (Nat.le_of_ble_eq_true rfl) ⟨rfl, rfl⟩ ⟨by decide, by decide⟩ (fun z28 u28 h28 => ?_)
      (try dsimp only at h28)
      obtain ⟨h28_1, h28_2⟩ := h28
      show V p9 lx e9 ({ frames := 2, cells := 0, slots := 0, locals := 47 }) s9 m9 ar9 be9 me9 c9 Q9 D A9 s9.heap 3 0 0 [oM am mwide mhigh mborder mpattern mdoor mpieces mtiles mrests mcrates mmoves manyLaid mgrout mhour 1, aC (cs 0) (am 1) 96 mpillar, aC (cs 0) (am 2) 12 mshut, aC (cs 0) (am 3) 96 mpk, aC (cs 0) (am 4) 96 mpf, aC (cs 0) (am 5) 96 mpn, aC (cs 0) (am 6) 96 mpr, aC (cs 0) (am 7) 96 mleft, aC (cs 0) (am 8) 96 mright, aC (cs 0) (am 9) 96 mtop, aC (cs 0) (am 10) 96 mbottom, aC (cs 0) (am 11) 96 mat, aC (cs 0) (am 12) 100 mrw, aC (cs 0) (am 13) 100 mrh, aC (cs 0) (am 14) 100 mrp, aC (cs 0) (am 15) 20 mcf, aC (cs 0) (am 16) 20 mcn, aC (cs 0) (am 17) 8 mdry] [(0, .ref (am 0)), (1, .int (iI x)), (2, .int (iI y))] 31 [.int (iI z28)]
      refine v_if_eq hC 38 34 dX8_pieceAt_31 (by decide) rfl (by omega) (fun c_31 => ?_) (fun c_31 => ?_)
      · exfalso; omega
      · skip
        refine v_iconst hC 35 dX8_pieceAt_34 rfl ?_
        refine v_goto hC 49 dX8_pieceAt_35 (by decide) ?_
        exact v_iret hC hQ () [0, 1, 2, 3, 4, 5, 6, 7, 8, 9, 10, 11, 12, 13, 14, 15, 16, 17] dX8_pieceAt_49 rfl rfl ⟨by decide, by decide⟩ trivial
    · exfalso; omega

set_option maxHeartbeats 4000000 in
set_option maxRecDepth 100000 in
theorem c_X8_piecesAnew (lx : Launch) (D : va_G) (cs : Nat → ClassId) (am : Nat → Nat) (mwide : Int) (mhigh : Int) (mborder : Int) (mpattern : Int) (mdoor : Int) (mpieces : Int) (mtiles : Int) (mrests : Int) (mcrates : Int) (mmoves : Int) (manyLaid : Int) (mgrout : Int) (mhour : Int) (mthrown : Int) (mpillar : Int → Int) (mshut : Int → Int) (mpk : Int → Int) (mpf : Int → Int) (mpn : Int → Int) (mpr : Int → Int) (mleft : Int → Int) (mright : Int → Int) (mtop : Int → Int) (mbottom : Int → Int) (mat : Int → Int) (mrw : Int → Int) (mrh : Int → Int) (mrp : Int → Int) (mcf : Int → Int) (mcn : Int → Int) (mdry : Int → Int)  : Ci lx D cs yX8_piecesAnew wsX8_piecesAnew ({ frames := 2, cells := 0, slots := 0, locals := 45 }) [.ref (am 0)] [oM am mwide mhigh mborder mpattern mdoor mpieces mtiles mrests mcrates mmoves manyLaid mgrout mhour mthrown, aC (cs 0) (am 1) 96 mpillar, aC (cs 0) (am 2) 12 mshut, aC (cs 0) (am 3) 96 mpk, aC (cs 0) (am 4) 96 mpf, aC (cs 0) (am 5) 96 mpn, aC (cs 0) (am 6) 96 mpr, aC (cs 0) (am 7) 96 mleft, aC (cs 0) (am 8) 96 mright, aC (cs 0) (am 9) 96 mtop, aC (cs 0) (am 10) 96 mbottom, aC (cs 0) (am 11) 96 mat, aC (cs 0) (am 12) 100 mrw, aC (cs 0) (am 13) 100 mrh, aC (cs 0) (am 14) 100 mrp, aC (cs 0) (am 15) 20 mcf, aC (cs 0) (am 16) 20 mcn, aC (cs 0) (am 17) 8 mdry] (fun (z : Int) (u : Unit) => (z = mpieces)) (fun u : Unit => [oM am mwide mhigh mborder mpattern mdoor mpieces mtiles mrests mcrates mmoves manyLaid mgrout mhour 0, aC (cs 0) (am 1) 96 mpillar, aC (cs 0) (am 2) 12 mshut, aC (cs 0) (am 3) 96 mpk, aC (cs 0) (am 4) 96 mpf, aC (cs 0) (am 5) 96 mpn, aC (cs 0) (am 6) 96 mpr, aC (cs 0) (am 7) 96 mleft, aC (cs 0) (am 8) 96 mright, aC (cs 0) (am 9) 96 mtop, aC (cs 0) (am 10) 96 mbottom, aC (cs 0) (am 11) 96 mat, aC (cs 0) (am 12) 100 mrw, aC (cs 0) (am 13) 100 mrh, aC (cs 0) (am 14) 100 mrp, aC (cs 0) (am 15) 20 mcf, aC (cs 0) (am 16) 20 mcn, aC (cs 0) (am 17) 8 mdry]) 0 0 := by
  refine Ci_of (cc := cX8_piecesAnew) (nL := 1) (ret := (some .int)) (lv0 := [(0, .ref (am 0))]) RX8 "piecesAnew" (by decide +kernel) rfl (Nat.le_of_ble_eq_true rfl) rfl (fun p9 e9 s9 m9 ar9 be9 me9 c9 A9 Q9 hQ hC => ?_)
  have iX8 : ∀ w ∈ wsX80, w ∈ wsX8_piecesAnew := by decide +kernel
  have L0 : Cond.fieldLink RX8 94 "GroutlineModel" "pieces" "I" ∈ wsX8_piecesAnew := by decide +kernel
  refine v_aload_n hC 1 0 dX8_piecesAnew_0 rfl rfl rfl ?_
  refine v_iconst hC 2 dX8_piecesAnew_1 rfl ?_
  refine v_callVi hC 5 1 [0, 1, 2, 3, 4, 5, 6, 7, 8, 9, 10, 11, 12, 13, 14, 15, 16, 17] [] [] (As := [.int (iI 0)]) (rest := []) (c_X8_holds lx D cs am mwide mhigh mborder mpattern mdoor mpieces mtiles mrests mcrates mmoves manyLaid mgrout mhour mthrown mpillar mshut mpk mpf mpn mpr mleft mright mtop mbottom mat mrw mrh mrp mcf mcn mdry 0 (by omega)) dX8_piecesAnew_2 rfl rfl 0 rfl rfl gX8_piecesAnew_X8_holds rfl rfl rfl (by decide +kernel) ⟨by decide, by decide⟩ rfl rfl rfl rfl (by decide) rfl (Nat.le_of_ble_eq_true rfl) ⟨rfl, rfl⟩ ⟨by decide, by decide⟩ (fun z2 u2 h2 => ?_)
  (try dsimp only at h2)
  obtain ⟨h2_1, h2_2⟩ := h2
  show V p9 lx e9 ({ frames := 2, cells := 0, slots := 0, locals := 45 }) s9 m9 ar9 be9 me9 c9 Q9 D A9 s9.heap 1 0 0 [oM am mwide mhigh mborder mpattern mdoor mpieces mtiles mrests mcrates mmoves manyLaid mgrout mhour 0, aC (cs 0) (am 1) 96 mpillar, aC (cs 0) (am 2) 12 mshut, aC (cs 0) (am 3) 96 mpk, aC (cs 0) (am 4) 96 mpf, aC (cs 0) (am 5) 96 mpn, aC (cs 0) (am 6) 96 mpr, aC (cs 0) (am 7) 96 mleft, aC (cs 0) (am 8) 96 mright, aC (cs 0) (am 9) 96 mtop, aC (cs 0) (am 10) 96 mbottom, aC (cs 0) (am 11) 96 mat, aC (cs 0) (am 12) 100 mrw, aC (cs 0) (am 13) 100 mrh, aC (cs 0) (am 14) 100 mrp, aC (cs 0) (am 15) 20 mcf, aC (cs 0) (am 16) 20 mcn, aC (cs 0) (am 17) 8 mdry] [(0, .ref (am 0))] 5 [.int (iI z2)]
  refine v_pop hC 6 dX8_piecesAnew_5 rfl rfl ?_
  refine v_aload_n hC 7 0 dX8_piecesAnew_6 rfl rfl rfl ?_
  refine v_get hC 10 0 16 (C := RX8) (T := TX8) (N := 31) dX8_piecesAnew_7 rfl iX8 L0 rfl rfl (by decide) rfl ?_
  exact v_iret hC hQ () [0, 1, 2, 3, 4, 5, 6, 7, 8, 9, 10, 11, 12, 13, 14, 15, 16, 17] dX8_piecesAnew_10 rfl rfl ⟨by decide, by decide⟩ (by (try dsimp only); all_goals (first | rfl | omega))

set_option maxHeartbeats 4000000 in
set_option maxRecDepth 100000 in
theorem c_X8_tiles (lx : Launch) (D : va_G) (cs : Nat → ClassId) (am : Nat → Nat) (mwide : Int) (mhigh : Int) (mborder : Int) (mpattern : Int) (mdoor : Int) (mpieces : Int) (mtiles : Int) (mrests : Int) (mcrates : Int) (mmoves : Int) (manyLaid : Int) (mgrout : Int) (mhour : Int) (mthrown : Int) (mpillar : Int → Int) (mshut : Int → Int) (mpk : Int → Int) (mpf : Int → Int) (mpn : Int → Int) (mpr : Int → Int) (mleft : Int → Int) (mright : Int → Int) (mtop : Int → Int) (mbottom : Int → Int) (mat : Int → Int) (mrw : Int → Int) (mrh : Int → Int) (mrp : Int → Int) (mcf : Int → Int) (mcn : Int → Int) (mdry : Int → Int)  : Ci lx D cs yX8_tiles wsX8_tiles ({ frames := 2, cells := 0, slots := 0, locals := 45 }) [.ref (am 0)] [oM am mwide mhigh mborder mpattern mdoor mpieces mtiles mrests mcrates mmoves manyLaid mgrout mhour mthrown, aC (cs 0) (am 1) 96 mpillar, aC (cs 0) (am 2) 12 mshut, aC (cs 0) (am 3) 96 mpk, aC (cs 0) (am 4) 96 mpf, aC (cs 0) (am 5) 96 mpn, aC (cs 0) (am 6) 96 mpr, aC (cs 0) (am 7) 96 mleft, aC (cs 0) (am 8) 96 mright, aC (cs 0) (am 9) 96 mtop, aC (cs 0) (am 10) 96 mbottom, aC (cs 0) (am 11) 96 mat, aC (cs 0) (am 12) 100 mrw, aC (cs 0) (am 13) 100 mrh, aC (cs 0) (am 14) 100 mrp, aC (cs 0) (am 15) 20 mcf, aC (cs 0) (am 16) 20 mcn, aC (cs 0) (am 17) 8 mdry] (fun (z : Int) (u : Unit) => (z = mtiles)) (fun u : Unit => [oM am mwide mhigh mborder mpattern mdoor mpieces mtiles mrests mcrates mmoves manyLaid mgrout mhour 0, aC (cs 0) (am 1) 96 mpillar, aC (cs 0) (am 2) 12 mshut, aC (cs 0) (am 3) 96 mpk, aC (cs 0) (am 4) 96 mpf, aC (cs 0) (am 5) 96 mpn, aC (cs 0) (am 6) 96 mpr, aC (cs 0) (am 7) 96 mleft, aC (cs 0) (am 8) 96 mright, aC (cs 0) (am 9) 96 mtop, aC (cs 0) (am 10) 96 mbottom, aC (cs 0) (am 11) 96 mat, aC (cs 0) (am 12) 100 mrw, aC (cs 0) (am 13) 100 mrh, aC (cs 0) (am 14) 100 mrp, aC (cs 0) (am 15) 20 mcf, aC (cs 0) (am 16) 20 mcn, aC (cs 0) (am 17) 8 mdry]) 0 0 := by
  refine Ci_of (cc := cX8_tiles) (nL := 1) (ret := (some .int)) (lv0 := [(0, .ref (am 0))]) RX8 "tiles" (by decide +kernel) rfl (Nat.le_of_ble_eq_true rfl) rfl (fun p9 e9 s9 m9 ar9 be9 me9 c9 A9 Q9 hQ hC => ?_)
  have iX8 : ∀ w ∈ wsX80, w ∈ wsX8_tiles := by decide +kernel
  have L0 : Cond.fieldLink RX8 110 "GroutlineModel" "tiles" "I" ∈ wsX8_tiles := by decide +kernel
  refine v_aload_n hC 1 0 dX8_tiles_0 rfl rfl rfl ?_
  refine v_iconst hC 2 dX8_tiles_1 rfl ?_
  refine v_callVi hC 5 1 [0, 1, 2, 3, 4, 5, 6, 7, 8, 9, 10, 11, 12, 13, 14, 15, 16, 17] [] [] (As := [.int (iI 0)]) (rest := []) (c_X8_holds lx D cs am mwide mhigh mborder mpattern mdoor mpieces mtiles mrests mcrates mmoves manyLaid mgrout mhour mthrown mpillar mshut mpk mpf mpn mpr mleft mright mtop mbottom mat mrw mrh mrp mcf mcn mdry 0 (by omega)) dX8_tiles_2 rfl rfl 0 rfl rfl gX8_tiles_X8_holds rfl rfl rfl (by decide +kernel) ⟨by decide, by decide⟩ rfl rfl rfl rfl (by decide) rfl (Nat.le_of_ble_eq_true rfl) ⟨rfl, rfl⟩ ⟨by decide, by decide⟩ (fun z2 u2 h2 => ?_)
  (try dsimp only at h2)
  obtain ⟨h2_1, h2_2⟩ := h2
  show V p9 lx e9 ({ frames := 2, cells := 0, slots := 0, locals := 45 }) s9 m9 ar9 be9 me9 c9 Q9 D A9 s9.heap 1 0 0 [oM am mwide mhigh mborder mpattern mdoor mpieces mtiles mrests mcrates mmoves manyLaid mgrout mhour 0, aC (cs 0) (am 1) 96 mpillar, aC (cs 0) (am 2) 12 mshut, aC (cs 0) (am 3) 96 mpk, aC (cs 0) (am 4) 96 mpf, aC (cs 0) (am 5) 96 mpn, aC (cs 0) (am 6) 96 mpr, aC (cs 0) (am 7) 96 mleft, aC (cs 0) (am 8) 96 mright, aC (cs 0) (am 9) 96 mtop, aC (cs 0) (am 10) 96 mbottom, aC (cs 0) (am 11) 96 mat, aC (cs 0) (am 12) 100 mrw, aC (cs 0) (am 13) 100 mrh, aC (cs 0) (am 14) 100 mrp, aC (cs 0) (am 15) 20 mcf, aC (cs 0) (am 16) 20 mcn, aC (cs 0) (am 17) 8 mdry] [(0, .ref (am 0))] 5 [.int (iI z2)]
  refine v_pop hC 6 dX8_tiles_5 rfl rfl ?_
  refine v_aload_n hC 7 0 dX8_tiles_6 rfl rfl rfl ?_
  refine v_get hC 10 0 17 (C := RX8) (T := TX8) (N := 31) dX8_tiles_7 rfl iX8 L0 rfl rfl (by decide) rfl ?_
  exact v_iret hC hQ () [0, 1, 2, 3, 4, 5, 6, 7, 8, 9, 10, 11, 12, 13, 14, 15, 16, 17] dX8_tiles_10 rfl rfl ⟨by decide, by decide⟩ (by (try dsimp only); all_goals (first | rfl | omega))

set_option maxHeartbeats 4000000 in
set_option maxRecDepth 100000 in
theorem c_X8_moves (lx : Launch) (D : va_G) (cs : Nat → ClassId) (am : Nat → Nat) (mwide : Int) (mhigh : Int) (mborder : Int) (mpattern : Int) (mdoor : Int) (mpieces : Int) (mtiles : Int) (mrests : Int) (mcrates : Int) (mmoves : Int) (manyLaid : Int) (mgrout : Int) (mhour : Int) (mthrown : Int) (mpillar : Int → Int) (mshut : Int → Int) (mpk : Int → Int) (mpf : Int → Int) (mpn : Int → Int) (mpr : Int → Int) (mleft : Int → Int) (mright : Int → Int) (mtop : Int → Int) (mbottom : Int → Int) (mat : Int → Int) (mrw : Int → Int) (mrh : Int → Int) (mrp : Int → Int) (mcf : Int → Int) (mcn : Int → Int) (mdry : Int → Int)  : Ci lx D cs yX8_moves wsX8_moves ({ frames := 2, cells := 0, slots := 0, locals := 45 }) [.ref (am 0)] [oM am mwide mhigh mborder mpattern mdoor mpieces mtiles mrests mcrates mmoves manyLaid mgrout mhour mthrown, aC (cs 0) (am 1) 96 mpillar, aC (cs 0) (am 2) 12 mshut, aC (cs 0) (am 3) 96 mpk, aC (cs 0) (am 4) 96 mpf, aC (cs 0) (am 5) 96 mpn, aC (cs 0) (am 6) 96 mpr, aC (cs 0) (am 7) 96 mleft, aC (cs 0) (am 8) 96 mright, aC (cs 0) (am 9) 96 mtop, aC (cs 0) (am 10) 96 mbottom, aC (cs 0) (am 11) 96 mat, aC (cs 0) (am 12) 100 mrw, aC (cs 0) (am 13) 100 mrh, aC (cs 0) (am 14) 100 mrp, aC (cs 0) (am 15) 20 mcf, aC (cs 0) (am 16) 20 mcn, aC (cs 0) (am 17) 8 mdry] (fun (z : Int) (u : Unit) => (z = mmoves)) (fun u : Unit => [oM am mwide mhigh mborder mpattern mdoor mpieces mtiles mrests mcrates mmoves manyLaid mgrout mhour 0, aC (cs 0) (am 1) 96 mpillar, aC (cs 0) (am 2) 12 mshut, aC (cs 0) (am 3) 96 mpk, aC (cs 0) (am 4) 96 mpf, aC (cs 0) (am 5) 96 mpn, aC (cs 0) (am 6) 96 mpr, aC (cs 0) (am 7) 96 mleft, aC (cs 0) (am 8) 96 mright, aC (cs 0) (am 9) 96 mtop, aC (cs 0) (am 10) 96 mbottom, aC (cs 0) (am 11) 96 mat, aC (cs 0) (am 12) 100 mrw, aC (cs 0) (am 13) 100 mrh, aC (cs 0) (am 14) 100 mrp, aC (cs 0) (am 15) 20 mcf, aC (cs 0) (am 16) 20 mcn, aC (cs 0) (am 17) 8 mdry]) 0 0 := by
  refine Ci_of (cc := cX8_moves) (nL := 1) (ret := (some .int)) (lv0 := [(0, .ref (am 0))]) RX8 "moves" (by decide +kernel) rfl (Nat.le_of_ble_eq_true rfl) rfl (fun p9 e9 s9 m9 ar9 be9 me9 c9 A9 Q9 hQ hC => ?_)
  have iX8 : ∀ w ∈ wsX80, w ∈ wsX8_moves := by decide +kernel
  have L0 : Cond.fieldLink RX8 145 "GroutlineModel" "moves" "I" ∈ wsX8_moves := by decide +kernel
  refine v_aload_n hC 1 0 dX8_moves_0 rfl rfl rfl ?_
  refine v_iconst hC 2 dX8_moves_1 rfl ?_
  refine v_callVi hC 5 1 [0, 1, 2, 3, 4, 5, 6, 7, 8, 9, 10, 11, 12, 13, 14, 15, 16, 17] [] [] (As := [.int (iI 0)]) (rest := []) (c_X8_holds lx D cs am mwide mhigh mborder mpattern mdoor mpieces mtiles mrests mcrates mmoves manyLaid mgrout mhour mthrown mpillar mshut mpk mpf mpn mpr mleft mright mtop mbottom mat mrw mrh mrp mcf mcn mdry 0 (by omega)) dX8_moves_2 rfl rfl 0 rfl rfl gX8_moves_X8_holds rfl rfl rfl (by decide +kernel) ⟨by decide, by decide⟩ rfl rfl rfl rfl (by decide) rfl (Nat.le_of_ble_eq_true rfl) ⟨rfl, rfl⟩ ⟨by decide, by decide⟩ (fun z2 u2 h2 => ?_)
  (try dsimp only at h2)
  obtain ⟨h2_1, h2_2⟩ := h2
  show V p9 lx e9 ({ frames := 2, cells := 0, slots := 0, locals := 45 }) s9 m9 ar9 be9 me9 c9 Q9 D A9 s9.heap 1 0 0 [oM am mwide mhigh mborder mpattern mdoor mpieces mtiles mrests mcrates mmoves manyLaid mgrout mhour 0, aC (cs 0) (am 1) 96 mpillar, aC (cs 0) (am 2) 12 mshut, aC (cs 0) (am 3) 96 mpk, aC (cs 0) (am 4) 96 mpf, aC (cs 0) (am 5) 96 mpn, aC (cs 0) (am 6) 96 mpr, aC (cs 0) (am 7) 96 mleft, aC (cs 0) (am 8) 96 mright, aC (cs 0) (am 9) 96 mtop, aC (cs 0) (am 10) 96 mbottom, aC (cs 0) (am 11) 96 mat, aC (cs 0) (am 12) 100 mrw, aC (cs 0) (am 13) 100 mrh, aC (cs 0) (am 14) 100 mrp, aC (cs 0) (am 15) 20 mcf, aC (cs 0) (am 16) 20 mcn, aC (cs 0) (am 17) 8 mdry] [(0, .ref (am 0))] 5 [.int (iI z2)]
  refine v_pop hC 6 dX8_moves_5 rfl rfl ?_
  refine v_aload_n hC 7 0 dX8_moves_6 rfl rfl rfl ?_
  refine v_get hC 10 0 25 (C := RX8) (T := TX8) (N := 31) dX8_moves_7 rfl iX8 L0 rfl rfl (by decide) rfl ?_
  exact v_iret hC hQ () [0, 1, 2, 3, 4, 5, 6, 7, 8, 9, 10, 11, 12, 13, 14, 15, 16, 17] dX8_moves_10 rfl rfl ⟨by decide, by decide⟩ (by (try dsimp only); all_goals (first | rfl | omega))

set_option maxHeartbeats 4000000 in
set_option maxRecDepth 100000 in
theorem c_X8_strips (lx : Launch) (D : va_G) (cs : Nat → ClassId) (am : Nat → Nat) (mwide : Int) (mhigh : Int) (mborder : Int) (mpattern : Int) (mdoor : Int) (mpieces : Int) (mtiles : Int) (mrests : Int) (mcrates : Int) (mmoves : Int) (manyLaid : Int) (mgrout : Int) (mhour : Int) (mthrown : Int) (mpillar : Int → Int) (mshut : Int → Int) (mpk : Int → Int) (mpf : Int → Int) (mpn : Int → Int) (mpr : Int → Int) (mleft : Int → Int) (mright : Int → Int) (mtop : Int → Int) (mbottom : Int → Int) (mat : Int → Int) (mrw : Int → Int) (mrh : Int → Int) (mrp : Int → Int) (mcf : Int → Int) (mcn : Int → Int) (mdry : Int → Int) (hh : 1 ≤ mhigh ∧ mhigh ≤ 4) (hb : 0 ≤ mborder ∧ mborder ≤ 2) : Ci lx D cs yX8_strips wsX8_strips ({ frames := 3, cells := 0, slots := 0, locals := 64 }) [.ref (am 0)] [oM am mwide mhigh mborder mpattern mdoor mpieces mtiles mrests mcrates mmoves manyLaid mgrout mhour mthrown, aC (cs 0) (am 1) 96 mpillar, aC (cs 0) (am 2) 12 mshut, aC (cs 0) (am 3) 96 mpk, aC (cs 0) (am 4) 96 mpf, aC (cs 0) (am 5) 96 mpn, aC (cs 0) (am 6) 96 mpr, aC (cs 0) (am 7) 96 mleft, aC (cs 0) (am 8) 96 mright, aC (cs 0) (am 9) 96 mtop, aC (cs 0) (am 10) 96 mbottom, aC (cs 0) (am 11) 96 mat, aC (cs 0) (am 12) 100 mrw, aC (cs 0) (am 13) 100 mrh, aC (cs 0) (am 14) 100 mrp, aC (cs 0) (am 15) 20 mcf, aC (cs 0) (am 16) 20 mcn, aC (cs 0) (am 17) 8 mdry] (fun (z : Int) (u : Unit) => (z = nS mhigh mborder)) (fun u : Unit => [oM am mwide mhigh mborder mpattern mdoor mpieces mtiles mrests mcrates mmoves manyLaid mgrout mhour 0, aC (cs 0) (am 1) 96 mpillar, aC (cs 0) (am 2) 12 mshut, aC (cs 0) (am 3) 96 mpk, aC (cs 0) (am 4) 96 mpf, aC (cs 0) (am 5) 96 mpn, aC (cs 0) (am 6) 96 mpr, aC (cs 0) (am 7) 96 mleft, aC (cs 0) (am 8) 96 mright, aC (cs 0) (am 9) 96 mtop, aC (cs 0) (am 10) 96 mbottom, aC (cs 0) (am 11) 96 mat, aC (cs 0) (am 12) 100 mrw, aC (cs 0) (am 13) 100 mrh, aC (cs 0) (am 14) 100 mrp, aC (cs 0) (am 15) 20 mcf, aC (cs 0) (am 16) 20 mcn, aC (cs 0) (am 17) 8 mdry]) 0 0 := by
  refine Ci_of (cc := cX8_strips) (nL := 1) (ret := (some .int)) (lv0 := [(0, .ref (am 0))]) RX8 "strips" (by decide +kernel) rfl (Nat.le_of_ble_eq_true rfl) rfl (fun p9 e9 s9 m9 ar9 be9 me9 c9 A9 Q9 hQ hC => ?_)
  refine v_aload_n hC 1 0 dX8_strips_0 rfl rfl rfl ?_
  refine v_iconst hC 2 dX8_strips_1 rfl ?_
  refine v_callVi hC 5 1 [0, 1, 2, 3, 4, 5, 6, 7, 8, 9, 10, 11, 12, 13, 14, 15, 16, 17] [] [] (As := [.int (iI 0)]) (rest := []) (c_X8_holds lx D cs am mwide mhigh mborder mpattern mdoor mpieces mtiles mrests mcrates mmoves manyLaid mgrout mhour mthrown mpillar mshut mpk mpf mpn mpr mleft mright mtop mbottom mat mrw mrh mrp mcf mcn mdry 0 (by omega)) dX8_strips_2 rfl rfl 0 rfl rfl gX8_strips_X8_holds rfl rfl rfl (by decide +kernel) ⟨by decide, by decide⟩ rfl rfl rfl rfl (by decide) rfl (Nat.le_of_ble_eq_true rfl) ⟨rfl, rfl⟩ ⟨by decide, by decide⟩ (fun z2 u2 h2 => ?_)
  (try dsimp only at h2)
  obtain ⟨h2_1, h2_2⟩ := h2
  show V p9 lx e9 ({ frames := 3, cells := 0, slots := 0, locals := 64 }) s9 m9 ar9 be9 me9 c9 Q9 D A9 s9.heap 1 0 0 [oM am mwide mhigh mborder mpattern mdoor mpieces mtiles mrests mcrates mmoves manyLaid mgrout mhour 0, aC (cs 0) (am 1) 96 mpillar, aC (cs 0) (am 2) 12 mshut, aC (cs 0) (am 3) 96 mpk, aC (cs 0) (am 4) 96 mpf, aC (cs 0) (am 5) 96 mpn, aC (cs 0) (am 6) 96 mpr, aC (cs 0) (am 7) 96 mleft, aC (cs 0) (am 8) 96 mright, aC (cs 0) (am 9) 96 mtop, aC (cs 0) (am 10) 96 mbottom, aC (cs 0) (am 11) 96 mat, aC (cs 0) (am 12) 100 mrw, aC (cs 0) (am 13) 100 mrh, aC (cs 0) (am 14) 100 mrp, aC (cs 0) (am 15) 20 mcf, aC (cs 0) (am 16) 20 mcn, aC (cs 0) (am 17) 8 mdry] [(0, .ref (am 0))] 5 [.int (iI z2)]
  refine v_pop hC 6 dX8_strips_5 rfl rfl ?_
  refine v_aload_n hC 7 0 dX8_strips_6 rfl rfl rfl ?_
  refine v_callVi hC 10 0 [0, 1, 2, 3, 4, 5, 6, 7, 8, 9, 10, 11, 12, 13, 14, 15, 16, 17] [] [] (As := []) (rest := []) (c_X8_stripCount lx D cs am mwide mhigh mborder mpattern mdoor mpieces mtiles mrests mcrates mmoves manyLaid mgrout mhour 0 mpillar mshut mpk mpf mpn mpr mleft mright mtop mbottom mat mrw mrh mrp mcf mcn mdry (by omega) (by omega)) dX8_strips_7 rfl rfl 0 rfl rfl gX8_strips_X8_stripCount rfl rfl rfl (by decide +kernel) ⟨by decide, by decide⟩ rfl rfl rfl rfl (by decide) rfl (Nat.le_of_ble_eq_true rfl) ⟨rfl, rfl⟩ ⟨by decide, by decide⟩ (fun z7 u7 h7 => ?_)
  (try dsimp only at h7)
  subst h7
  show V p9 lx e9 ({ frames := 3, cells := 0, slots := 0, locals := 64 }) s9 m9 ar9 be9 me9 c9 Q9 D A9 s9.heap 1 0 0 [oM am mwide mhigh mborder mpattern mdoor mpieces mtiles mrests mcrates mmoves manyLaid mgrout mhour 0, aC (cs 0) (am 1) 96 mpillar, aC (cs 0) (am 2) 12 mshut, aC (cs 0) (am 3) 96 mpk, aC (cs 0) (am 4) 96 mpf, aC (cs 0) (am 5) 96 mpn, aC (cs 0) (am 6) 96 mpr, aC (cs 0) (am 7) 96 mleft, aC (cs 0) (am 8) 96 mright, aC (cs 0) (am 9) 96 mtop, aC (cs 0) (am 10) 96 mbottom, aC (cs 0) (am 11) 96 mat, aC (cs 0) (am 12) 100 mrw, aC (cs 0) (am 13) 100 mrh, aC (cs 0) (am 14) 100 mrp, aC (cs 0) (am 15) 20 mcf, aC (cs 0) (am 16) 20 mcn, aC (cs 0) (am 17) 8 mdry] [(0, .ref (am 0))] 10 [.int (iI (nS mhigh mborder))]
  exact v_iret hC hQ () [0, 1, 2, 3, 4, 5, 6, 7, 8, 9, 10, 11, 12, 13, 14, 15, 16, 17] dX8_strips_10 rfl rfl ⟨by decide, by decide⟩ (by (try dsimp only); all_goals (first | rfl | omega))

set_option maxHeartbeats 4000000 in
set_option maxRecDepth 100000 in
theorem c_X8_rest (lx : Launch) (D : va_G) (cs : Nat → ClassId) (am : Nat → Nat) (mwide : Int) (mhigh : Int) (mborder : Int) (mpattern : Int) (mdoor : Int) (mpieces : Int) (mtiles : Int) (mrests : Int) (mcrates : Int) (mmoves : Int) (manyLaid : Int) (mgrout : Int) (mhour : Int) (mthrown : Int) (mpillar : Int → Int) (mshut : Int → Int) (mpk : Int → Int) (mpf : Int → Int) (mpn : Int → Int) (mpr : Int → Int) (mleft : Int → Int) (mright : Int → Int) (mtop : Int → Int) (mbottom : Int → Int) (mat : Int → Int) (mrw : Int → Int) (mrh : Int → Int) (mrp : Int → Int) (mcf : Int → Int) (mcn : Int → Int) (mdry : Int → Int) (x : Int) (r1 : -2147483648 ≤ x ∧ x < 2147483648) (hok : 0 ≤ x) (hrc : 0 ≤ mrests ∧ mrests ≤ 96) : Ci lx D cs yX8_rest wsX8_rest ({ frames := 2, cells := 0, slots := 0, locals := 45 }) [.ref (am 0), .int (iI x)] [oM am mwide mhigh mborder mpattern mdoor mpieces mtiles mrests mcrates mmoves manyLaid mgrout mhour mthrown, aC (cs 0) (am 1) 96 mpillar, aC (cs 0) (am 2) 12 mshut, aC (cs 0) (am 3) 96 mpk, aC (cs 0) (am 4) 96 mpf, aC (cs 0) (am 5) 96 mpn, aC (cs 0) (am 6) 96 mpr, aC (cs 0) (am 7) 96 mleft, aC (cs 0) (am 8) 96 mright, aC (cs 0) (am 9) 96 mtop, aC (cs 0) (am 10) 96 mbottom, aC (cs 0) (am 11) 96 mat, aC (cs 0) (am 12) 100 mrw, aC (cs 0) (am 13) 100 mrh, aC (cs 0) (am 14) 100 mrp, aC (cs 0) (am 15) 20 mcf, aC (cs 0) (am 16) 20 mcn, aC (cs 0) (am 17) 8 mdry] (fun (z : Int) (u : Unit) => (x < mrests → z = 10 * mrw x + mrh x) ∧ (mrests ≤ x → z = -1)) (fun u : Unit => [oM am mwide mhigh mborder mpattern mdoor mpieces mtiles mrests mcrates mmoves manyLaid mgrout mhour 0, aC (cs 0) (am 1) 96 mpillar, aC (cs 0) (am 2) 12 mshut, aC (cs 0) (am 3) 96 mpk, aC (cs 0) (am 4) 96 mpf, aC (cs 0) (am 5) 96 mpn, aC (cs 0) (am 6) 96 mpr, aC (cs 0) (am 7) 96 mleft, aC (cs 0) (am 8) 96 mright, aC (cs 0) (am 9) 96 mtop, aC (cs 0) (am 10) 96 mbottom, aC (cs 0) (am 11) 96 mat, aC (cs 0) (am 12) 100 mrw, aC (cs 0) (am 13) 100 mrh, aC (cs 0) (am 14) 100 mrp, aC (cs 0) (am 15) 20 mcf, aC (cs 0) (am 16) 20 mcn, aC (cs 0) (am 17) 8 mdry]) 0 0 := by
  refine Ci_of (cc := cX8_rest) (nL := 2) (ret := (some .int)) (lv0 := [(0, .ref (am 0)), (1, .int (iI x))]) RX8 "rest" (by decide +kernel) rfl (Nat.le_of_ble_eq_true rfl) rfl (fun p9 e9 s9 m9 ar9 be9 me9 c9 A9 Q9 hQ hC => ?_)
  have iX8 : ∀ w ∈ wsX80, w ∈ wsX8_rest := by decide +kernel
  have L0 : Cond.fieldLink RX8 107 "GroutlineModel" "rests" "I" ∈ wsX8_rest := by decide +kernel
  have L1 : Cond.fieldLink RX8 50 "GroutlineModel" "rw" "[I" ∈ wsX8_rest := by decide +kernel
  have L2 : Cond.fieldLink RX8 53 "GroutlineModel" "rh" "[I" ∈ wsX8_rest := by decide +kernel
  refine v_aload_n hC 1 0 dX8_rest_0 rfl rfl rfl ?_
  refine v_iload_n hC 2 1 dX8_rest_1 rfl rfl rfl ?_
  refine v_if_ge hC 9 5 dX8_rest_2 (by decide) rfl (by omega) (fun c_2 => ?_) (fun c_2 => ?_)
  · skip
    refine v_iconst hC 10 dX8_rest_9 rfl ?_
    refine v_callVi hC 13 1 [0, 1, 2, 3, 4, 5, 6, 7, 8, 9, 10, 11, 12, 13, 14, 15, 16, 17] [] [] (As := [.int (iI 0)]) (rest := []) (c_X8_holds lx D cs am mwide mhigh mborder mpattern mdoor mpieces mtiles mrests mcrates mmoves manyLaid mgrout mhour mthrown mpillar mshut mpk mpf mpn mpr mleft mright mtop mbottom mat mrw mrh mrp mcf mcn mdry 0 (by omega)) dX8_rest_10 rfl rfl 0 rfl rfl gX8_rest_X8_holds rfl rfl rfl (by decide +kernel) ⟨by decide, by decide⟩ rfl rfl rfl rfl (by decide) rfl (Nat.le_of_ble_eq_true rfl) ⟨rfl, rfl⟩ ⟨by decide, by decide⟩ (fun z10 u10 h10 => ?_)
    (try dsimp only at h10)
    obtain ⟨h10_1, h10_2⟩ := h10
    show V p9 lx e9 ({ frames := 2, cells := 0, slots := 0, locals := 45 }) s9 m9 ar9 be9 me9 c9 Q9 D A9 s9.heap 2 0 0 [oM am mwide mhigh mborder mpattern mdoor mpieces mtiles mrests mcrates mmoves manyLaid mgrout mhour 0, aC (cs 0) (am 1) 96 mpillar, aC (cs 0) (am 2) 12 mshut, aC (cs 0) (am 3) 96 mpk, aC (cs 0) (am 4) 96 mpf, aC (cs 0) (am 5) 96 mpn, aC (cs 0) (am 6) 96 mpr, aC (cs 0) (am 7) 96 mleft, aC (cs 0) (am 8) 96 mright, aC (cs 0) (am 9) 96 mtop, aC (cs 0) (am 10) 96 mbottom, aC (cs 0) (am 11) 96 mat, aC (cs 0) (am 12) 100 mrw, aC (cs 0) (am 13) 100 mrh, aC (cs 0) (am 14) 100 mrp, aC (cs 0) (am 15) 20 mcf, aC (cs 0) (am 16) 20 mcn, aC (cs 0) (am 17) 8 mdry] [(0, .ref (am 0)), (1, .int (iI x))] 13 [.int (iI z10)]
    refine v_if_eq hC 18 16 dX8_rest_13 (by decide) rfl (by omega) (fun c_13 => ?_) (fun c_13 => ?_)
    · skip
      refine v_iload_n hC 19 1 dX8_rest_18 rfl rfl rfl ?_
      refine v_aload_n hC 20 0 dX8_rest_19 rfl rfl rfl ?_
      refine v_get hC 23 0 21 (C := RX8) (T := TX8) (N := 31) dX8_rest_20 rfl iX8 L0 rfl rfl (by decide) rfl ?_
      refine v_icmp_ge hC 45 26 dX8_rest_23 (by decide) rfl (by omega) (by omega) (fun c_23 => ?_) (fun c_23 => ?_)
      · skip
        refine v_iconst hC 46 dX8_rest_45 rfl ?_
        exact v_iret hC hQ () [0, 1, 2, 3, 4, 5, 6, 7, 8, 9, 10, 11, 12, 13, 14, 15, 16, 17] dX8_rest_46 rfl rfl ⟨by decide, by decide⟩ ⟨by (try dsimp only); all_goals (intro _; first | rfl | (exfalso; omega)), by (try dsimp only); all_goals (intro _; first | rfl | (exfalso; omega))⟩
      · skip
        refine v_bipush hC 28 dX8_rest_26 rfl rfl ?_
        refine v_aload_n hC 29 0 dX8_rest_28 rfl rfl rfl ?_
        refine v_get hC 32 0 18 (C := RX8) (T := TX8) (N := 31) dX8_rest_29 rfl iX8 L1 rfl rfl (by decide) rfl ?_
        refine v_iload_n hC 33 1 dX8_rest_32 rfl rfl rfl ?_
        refine v_iald hC 34 12 dX8_rest_33 rfl rfl (by decide) (by omega) ?_
        refine v_imul hC 35 (10 * (mrw x)) dX8_rest_34 rfl rfl ?_
        refine v_aload_n hC 36 0 dX8_rest_35 rfl rfl rfl ?_
        refine v_get hC 39 0 19 (C := RX8) (T := TX8) (N := 31) dX8_rest_36 rfl iX8 L2 rfl rfl (by decide) rfl ?_
        refine v_iload_n hC 40 1 dX8_rest_39 rfl rfl rfl ?_
        refine v_iald hC 41 13 dX8_rest_40 rfl rfl (by decide) (by omega) ?_
        refine v_iadd hC 42 (10 * (mrw x) + (mrh x)) dX8_rest_41 rfl rfl ?_
        refine v_goto hC 46 dX8_rest_42 (by decide) ?_
        exact v_iret hC hQ () [0, 1, 2, 3, 4, 5, 6, 7, 8, 9, 10, 11, 12, 13, 14, 15, 16, 17] dX8_rest_46 rfl rfl ⟨by decide, by decide⟩ ⟨by (try dsimp only); all_goals (intro _; first | rfl | (exfalso; omega)), by (try dsimp only); all_goals (intro _; first | rfl | (exfalso; omega))⟩
    · exfalso; omega
  · exfalso; omega

set_option maxHeartbeats 4000000 in
set_option maxRecDepth 100000 in
theorem n_X8_rest (lx : Launch) (D : va_G) (cs : Nat → ClassId) (am : Nat → Nat) (mwide : Int) (mhigh : Int) (mborder : Int) (mpattern : Int) (mdoor : Int) (mpieces : Int) (mtiles : Int) (mrests : Int) (mcrates : Int) (mmoves : Int) (manyLaid : Int) (mgrout : Int) (mhour : Int) (mthrown : Int) (mpillar : Int → Int) (mshut : Int → Int) (mpk : Int → Int) (mpf : Int → Int) (mpn : Int → Int) (mpr : Int → Int) (mleft : Int → Int) (mright : Int → Int) (mtop : Int → Int) (mbottom : Int → Int) (mat : Int → Int) (mrw : Int → Int) (mrh : Int → Int) (mrp : Int → Int) (mcf : Int → Int) (mcn : Int → Int) (mdry : Int → Int) (x : Int) (r1 : -2147483648 ≤ x ∧ x < 2147483648) (hno : x < 0) : Ci lx D cs yX8_rest wsX8_rest ({ frames := 2, cells := 0, slots := 0, locals := 45 }) [.ref (am 0), .int (iI x)] [oM am mwide mhigh mborder mpattern mdoor mpieces mtiles mrests mcrates mmoves manyLaid mgrout mhour mthrown, aC (cs 0) (am 1) 96 mpillar, aC (cs 0) (am 2) 12 mshut, aC (cs 0) (am 3) 96 mpk, aC (cs 0) (am 4) 96 mpf, aC (cs 0) (am 5) 96 mpn, aC (cs 0) (am 6) 96 mpr, aC (cs 0) (am 7) 96 mleft, aC (cs 0) (am 8) 96 mright, aC (cs 0) (am 9) 96 mtop, aC (cs 0) (am 10) 96 mbottom, aC (cs 0) (am 11) 96 mat, aC (cs 0) (am 12) 100 mrw, aC (cs 0) (am 13) 100 mrh, aC (cs 0) (am 14) 100 mrp, aC (cs 0) (am 15) 20 mcf, aC (cs 0) (am 16) 20 mcn, aC (cs 0) (am 17) 8 mdry] (fun (z : Int) (u : Unit) => True) (fun u : Unit => [oM am mwide mhigh mborder mpattern mdoor mpieces mtiles mrests mcrates mmoves manyLaid mgrout mhour 1, aC (cs 0) (am 1) 96 mpillar, aC (cs 0) (am 2) 12 mshut, aC (cs 0) (am 3) 96 mpk, aC (cs 0) (am 4) 96 mpf, aC (cs 0) (am 5) 96 mpn, aC (cs 0) (am 6) 96 mpr, aC (cs 0) (am 7) 96 mleft, aC (cs 0) (am 8) 96 mright, aC (cs 0) (am 9) 96 mtop, aC (cs 0) (am 10) 96 mbottom, aC (cs 0) (am 11) 96 mat, aC (cs 0) (am 12) 100 mrw, aC (cs 0) (am 13) 100 mrh, aC (cs 0) (am 14) 100 mrp, aC (cs 0) (am 15) 20 mcf, aC (cs 0) (am 16) 20 mcn, aC (cs 0) (am 17) 8 mdry]) 0 0 := by
  refine Ci_of (cc := cX8_rest) (nL := 2) (ret := (some .int)) (lv0 := [(0, .ref (am 0)), (1, .int (iI x))]) RX8 "rest" (by decide +kernel) rfl (Nat.le_of_ble_eq_true rfl) rfl (fun p9 e9 s9 m9 ar9 be9 me9 c9 A9 Q9 hQ hC => ?_)
  refine v_aload_n hC 1 0 dX8_rest_0 rfl rfl rfl ?_
  refine v_iload_n hC 2 1 dX8_rest_1 rfl rfl rfl ?_
  refine v_if_ge hC 9 5 dX8_rest_2 (by decide) rfl (by omega) (fun c_2 => ?_) (fun c_2 => ?_)
  · exfalso; omega
  · skip
    refine v_iconst hC 6 dX8_rest_5 rfl ?_
    refine v_goto hC 10 dX8_rest_6 (by decide) ?_
    refine v_callVi hC 13 1 [0, 1, 2, 3, 4, 5, 6, 7, 8, 9, 10, 11, 12, 13, 14, 15, 16, 17] [] [] (As := [.int (iI 1)]) (rest := []) (c_X8_holds lx D cs am mwide mhigh mborder mpattern mdoor mpieces mtiles mrests mcrates mmoves manyLaid mgrout mhour mthrown mpillar mshut mpk mpf mpn mpr mleft mright mtop mbottom mat mrw mrh mrp mcf mcn mdry 1 (by omega)) dX8_rest_10 rfl rfl 0 rfl rfl gX8_rest_X8_holds rfl rfl rfl (by decide +kernel) ⟨by decide, by decide⟩ rfl rfl rfl rfl (by decide) rfl (Nat.le_of_ble_eq_true rfl) ⟨rfl, rfl⟩ ⟨by decide, by decide⟩ (fun z10 u10 h10 => ?_)
    (try dsimp only at h10)
    obtain ⟨h10_1, h10_2⟩ := h10
    show V p9 lx e9 ({ frames := 2, cells := 0, slots := 0, locals := 45 }) s9 m9 ar9 be9 me9 c9 Q9 D A9 s9.heap 2 0 0 [oM am mwide mhigh mborder mpattern mdoor mpieces mtiles mrests mcrates mmoves manyLaid mgrout mhour 1, aC (cs 0) (am 1) 96 mpillar, aC (cs 0) (am 2) 12 mshut, aC (cs 0) (am 3) 96 mpk, aC (cs 0) (am 4) 96 mpf, aC (cs 0) (am 5) 96 mpn, aC (cs 0) (am 6) 96 mpr, aC (cs 0) (am 7) 96 mleft, aC (cs 0) (am 8) 96 mright, aC (cs 0) (am 9) 96 mtop, aC (cs 0) (am 10) 96 mbottom, aC (cs 0) (am 11) 96 mat, aC (cs 0) (am 12) 100 mrw, aC (cs 0) (am 13) 100 mrh, aC (cs 0) (am 14) 100 mrp, aC (cs 0) (am 15) 20 mcf, aC (cs 0) (am 16) 20 mcn, aC (cs 0) (am 17) 8 mdry] [(0, .ref (am 0)), (1, .int (iI x))] 13 [.int (iI z10)]
    refine v_if_eq hC 18 16 dX8_rest_13 (by decide) rfl (by omega) (fun c_13 => ?_) (fun c_13 => ?_)
    · exfalso; omega
    · skip
      refine v_iconst hC 17 dX8_rest_16 rfl ?_
      exact v_iret hC hQ () [0, 1, 2, 3, 4, 5, 6, 7, 8, 9, 10, 11, 12, 13, 14, 15, 16, 17] dX8_rest_17 rfl rfl ⟨by decide, by decide⟩ trivial

set_option maxHeartbeats 4000000 in
set_option maxRecDepth 100000 in
theorem c_X8_crate (lx : Launch) (D : va_G) (cs : Nat → ClassId) (am : Nat → Nat) (mwide : Int) (mhigh : Int) (mborder : Int) (mpattern : Int) (mdoor : Int) (mpieces : Int) (mtiles : Int) (mrests : Int) (mcrates : Int) (mmoves : Int) (manyLaid : Int) (mgrout : Int) (mhour : Int) (mthrown : Int) (mpillar : Int → Int) (mshut : Int → Int) (mpk : Int → Int) (mpf : Int → Int) (mpn : Int → Int) (mpr : Int → Int) (mleft : Int → Int) (mright : Int → Int) (mtop : Int → Int) (mbottom : Int → Int) (mat : Int → Int) (mrw : Int → Int) (mrh : Int → Int) (mrp : Int → Int) (mcf : Int → Int) (mcn : Int → Int) (mdry : Int → Int) (x : Int) (y : Int) (r1 : -2147483648 ≤ x ∧ x < 2147483648) (r2 : -2147483648 ≤ y ∧ y < 2147483648) (hcr : 0 ≤ mcrates ∧ mcrates ≤ 20) (hok : ((0 ≤ x ∧ x ≤ 9) ∧ 1 ≤ y ∧ y ≤ 100)) (hfull : mcrates < 20) : Ci lx D cs yX8_crate wsX8_crate ({ frames := 2, cells := 0, slots := 0, locals := 47 }) [.ref (am 0), .int (iI x), .int (iI y)] [oM am mwide mhigh mborder mpattern mdoor mpieces mtiles mrests mcrates mmoves manyLaid mgrout mhour mthrown, aC (cs 0) (am 1) 96 mpillar, aC (cs 0) (am 2) 12 mshut, aC (cs 0) (am 3) 96 mpk, aC (cs 0) (am 4) 96 mpf, aC (cs 0) (am 5) 96 mpn, aC (cs 0) (am 6) 96 mpr, aC (cs 0) (am 7) 96 mleft, aC (cs 0) (am 8) 96 mright, aC (cs 0) (am 9) 96 mtop, aC (cs 0) (am 10) 96 mbottom, aC (cs 0) (am 11) 96 mat, aC (cs 0) (am 12) 100 mrw, aC (cs 0) (am 13) 100 mrh, aC (cs 0) (am 14) 100 mrp, aC (cs 0) (am 15) 20 mcf, aC (cs 0) (am 16) 20 mcn, aC (cs 0) (am 17) 8 mdry] (fun (z : Int) (u : Unit) => (z = mcrates + 1)) (fun u : Unit => [oM am mwide mhigh mborder mpattern mdoor mpieces mtiles mrests (mcrates + 1) mmoves manyLaid mgrout mhour 0, aC (cs 0) (am 1) 96 mpillar, aC (cs 0) (am 2) 12 mshut, aC (cs 0) (am 3) 96 mpk, aC (cs 0) (am 4) 96 mpf, aC (cs 0) (am 5) 96 mpn, aC (cs 0) (am 6) 96 mpr, aC (cs 0) (am 7) 96 mleft, aC (cs 0) (am 8) 96 mright, aC (cs 0) (am 9) 96 mtop, aC (cs 0) (am 10) 96 mbottom, aC (cs 0) (am 11) 96 mat, aC (cs 0) (am 12) 100 mrw, aC (cs 0) (am 13) 100 mrh, aC (cs 0) (am 14) 100 mrp, aC (cs 0) (am 15) 20 (uI mcf mcrates x), aC (cs 0) (am 16) 20 (uI mcn mcrates y), aC (cs 0) (am 17) 8 mdry]) 0 0 := by
  refine Ci_of (cc := cX8_crate) (nL := 3) (ret := (some .int)) (lv0 := [(0, .ref (am 0)), (1, .int (iI x)), (2, .int (iI y))]) RX8 "crate" (by decide +kernel) rfl (Nat.le_of_ble_eq_true rfl) rfl (fun p9 e9 s9 m9 ar9 be9 me9 c9 A9 Q9 hQ hC => ?_)
  have iX8 : ∀ w ∈ wsX80, w ∈ wsX8_crate := by decide +kernel
  have L0 : Cond.fieldLink RX8 142 "GroutlineModel" "crates" "I" ∈ wsX8_crate := by decide +kernel
  have L1 : Cond.fieldLink RX8 59 "GroutlineModel" "cf" "[I" ∈ wsX8_crate := by decide +kernel
  have L2 : Cond.fieldLink RX8 62 "GroutlineModel" "cn" "[I" ∈ wsX8_crate := by decide +kernel
  refine v_aload_n hC 1 0 dX8_crate_0 rfl rfl rfl ?_
  refine v_aload_n hC 2 0 dX8_crate_1 rfl rfl rfl ?_
  refine v_iload_n hC 3 1 dX8_crate_2 rfl rfl rfl ?_
  refine v_iconst hC 4 dX8_crate_3 rfl ?_
  refine v_bipush hC 6 dX8_crate_4 rfl rfl ?_
  refine v_callVi hC 9 3 [0, 1, 2, 3, 4, 5, 6, 7, 8, 9, 10, 11, 12, 13, 14, 15, 16, 17] [] [] (As := [.int (iI x), .int (iI 0), .int (iI 9)]) (rest := [.ref (am 0)]) (c_X8_in lx D cs am mwide mhigh mborder mpattern mdoor mpieces mtiles mrests mcrates mmoves manyLaid mgrout mhour mthrown mpillar mshut mpk mpf mpn mpr mleft mright mtop mbottom mat mrw mrh mrp mcf mcn mdry x 0 9 (by omega) (by omega) (by omega)) dX8_crate_6 rfl rfl 0 rfl rfl gX8_crate_X8_in rfl rfl rfl (by decide +kernel) ⟨by decide, by decide⟩ rfl rfl rfl rfl (by decide) rfl (Nat.le_of_ble_eq_true rfl) ⟨rfl, rfl⟩ ⟨by decide, by decide⟩ (fun z6 u6 h6 => ?_)
  (try dsimp only at h6)
  obtain ⟨h6_1, h6_2⟩ := h6
  show V p9 lx e9 ({ frames := 2, cells := 0, slots := 0, locals := 47 }) s9 m9 ar9 be9 me9 c9 Q9 D A9 s9.heap 3 0 0 [oM am mwide mhigh mborder mpattern mdoor mpieces mtiles mrests mcrates mmoves manyLaid mgrout mhour mthrown, aC (cs 0) (am 1) 96 mpillar, aC (cs 0) (am 2) 12 mshut, aC (cs 0) (am 3) 96 mpk, aC (cs 0) (am 4) 96 mpf, aC (cs 0) (am 5) 96 mpn, aC (cs 0) (am 6) 96 mpr, aC (cs 0) (am 7) 96 mleft, aC (cs 0) (am 8) 96 mright, aC (cs 0) (am 9) 96 mtop, aC (cs 0) (am 10) 96 mbottom, aC (cs 0) (am 11) 96 mat, aC (cs 0) (am 12) 100 mrw, aC (cs 0) (am 13) 100 mrh, aC (cs 0) (am 14) 100 mrp, aC (cs 0) (am 15) 20 mcf, aC (cs 0) (am 16) 20 mcn, aC (cs 0) (am 17) 8 mdry] [(0, .ref (am 0)), (1, .int (iI x)), (2, .int (iI y))] 9 [.int (iI z6), .ref (am 0)]
  refine v_if_eq hC 23 12 dX8_crate_9 (by decide) rfl (by omega) (fun c_9 => ?_) (fun c_9 => ?_)
  · exfalso; omega
  · skip
    refine v_aload_n hC 13 0 dX8_crate_12 rfl rfl rfl ?_
    refine v_iload_n hC 14 2 dX8_crate_13 rfl rfl rfl ?_
    refine v_iconst hC 15 dX8_crate_14 rfl ?_
    refine v_bipush hC 17 dX8_crate_15 rfl rfl ?_
    refine v_callVi hC 20 3 [0, 1, 2, 3, 4, 5, 6, 7, 8, 9, 10, 11, 12, 13, 14, 15, 16, 17] [] [] (As := [.int (iI y), .int (iI 1), .int (iI 100)]) (rest := [.ref (am 0)]) (c_X8_in lx D cs am mwide mhigh mborder mpattern mdoor mpieces mtiles mrests mcrates mmoves manyLaid mgrout mhour mthrown mpillar mshut mpk mpf mpn mpr mleft mright mtop mbottom mat mrw mrh mrp mcf mcn mdry y 1 100 (by omega) (by omega) (by omega)) dX8_crate_17 rfl rfl 0 rfl rfl gX8_crate_X8_in rfl rfl rfl (by decide +kernel) ⟨by decide, by decide⟩ rfl rfl rfl rfl (by decide) rfl (Nat.le_of_ble_eq_true rfl) ⟨rfl, rfl⟩ ⟨by decide, by decide⟩ (fun z17 u17 h17 => ?_)
    (try dsimp only at h17)
    obtain ⟨h17_1, h17_2⟩ := h17
    show V p9 lx e9 ({ frames := 2, cells := 0, slots := 0, locals := 47 }) s9 m9 ar9 be9 me9 c9 Q9 D A9 s9.heap 3 0 0 [oM am mwide mhigh mborder mpattern mdoor mpieces mtiles mrests mcrates mmoves manyLaid mgrout mhour mthrown, aC (cs 0) (am 1) 96 mpillar, aC (cs 0) (am 2) 12 mshut, aC (cs 0) (am 3) 96 mpk, aC (cs 0) (am 4) 96 mpf, aC (cs 0) (am 5) 96 mpn, aC (cs 0) (am 6) 96 mpr, aC (cs 0) (am 7) 96 mleft, aC (cs 0) (am 8) 96 mright, aC (cs 0) (am 9) 96 mtop, aC (cs 0) (am 10) 96 mbottom, aC (cs 0) (am 11) 96 mat, aC (cs 0) (am 12) 100 mrw, aC (cs 0) (am 13) 100 mrh, aC (cs 0) (am 14) 100 mrp, aC (cs 0) (am 15) 20 mcf, aC (cs 0) (am 16) 20 mcn, aC (cs 0) (am 17) 8 mdry] [(0, .ref (am 0)), (1, .int (iI x)), (2, .int (iI y))] 20 [.int (iI z17), .ref (am 0)]
    refine v_if_ne hC 27 23 dX8_crate_20 (by decide) rfl (by omega) (fun c_20 => ?_) (fun c_20 => ?_)
    · skip
      refine v_aload_n hC 28 0 dX8_crate_27 rfl rfl rfl ?_
      refine v_get hC 31 0 24 (C := RX8) (T := TX8) (N := 31) dX8_crate_28 rfl iX8 L0 rfl rfl (by decide) rfl ?_
      refine v_bipush hC 33 dX8_crate_31 rfl rfl ?_
      refine v_icmp_ne hC 40 36 dX8_crate_33 (by decide) rfl (by omega) (by omega) (fun c_33 => ?_) (fun c_33 => ?_)
      · skip
        refine v_iconst hC 41 dX8_crate_40 rfl ?_
        refine v_callVi hC 44 1 [0, 1, 2, 3, 4, 5, 6, 7, 8, 9, 10, 11, 12, 13, 14, 15, 16, 17] [] [] (As := [.int (iI 0)]) (rest := []) (c_X8_holds lx D cs am mwide mhigh mborder mpattern mdoor mpieces mtiles mrests mcrates mmoves manyLaid mgrout mhour mthrown mpillar mshut mpk mpf mpn mpr mleft mright mtop mbottom mat mrw mrh mrp mcf mcn mdry 0 (by omega)) dX8_crate_41 rfl rfl 0 rfl rfl gX8_crate_X8_holds rfl rfl rfl (by decide +kernel) ⟨by decide, by decide⟩ rfl rfl rfl rfl (by decide) rfl (Nat.le_of_ble_eq_true rfl) ⟨rfl, rfl⟩ ⟨by decide, by decide⟩ (fun z41 u41 h41 => ?_)
        (try dsimp only at h41)
        obtain ⟨h41_1, h41_2⟩ := h41
        show V p9 lx e9 ({ frames := 2, cells := 0, slots := 0, locals := 47 }) s9 m9 ar9 be9 me9 c9 Q9 D A9 s9.heap 3 0 0 [oM am mwide mhigh mborder mpattern mdoor mpieces mtiles mrests mcrates mmoves manyLaid mgrout mhour 0, aC (cs 0) (am 1) 96 mpillar, aC (cs 0) (am 2) 12 mshut, aC (cs 0) (am 3) 96 mpk, aC (cs 0) (am 4) 96 mpf, aC (cs 0) (am 5) 96 mpn, aC (cs 0) (am 6) 96 mpr, aC (cs 0) (am 7) 96 mleft, aC (cs 0) (am 8) 96 mright, aC (cs 0) (am 9) 96 mtop, aC (cs 0) (am 10) 96 mbottom, aC (cs 0) (am 11) 96 mat, aC (cs 0) (am 12) 100 mrw, aC (cs 0) (am 13) 100 mrh, aC (cs 0) (am 14) 100 mrp, aC (cs 0) (am 15) 20 mcf, aC (cs 0) (am 16) 20 mcn, aC (cs 0) (am 17) 8 mdry] [(0, .ref (am 0)), (1, .int (iI x)), (2, .int (iI y))] 44 [.int (iI z41)]
        refine v_if_eq hC 49 47 dX8_crate_44 (by decide) rfl (by omega) (fun c_44 => ?_) (fun c_44 => ?_)
        · skip
          refine v_aload_n hC 50 0 dX8_crate_49 rfl rfl rfl ?_
          refine v_get hC 53 0 22 (C := RX8) (T := TX8) (N := 31) dX8_crate_50 rfl iX8 L1 rfl rfl (by decide) rfl ?_
          refine v_aload_n hC 54 0 dX8_crate_53 rfl rfl rfl ?_
          refine v_get hC 57 0 24 (C := RX8) (T := TX8) (N := 31) dX8_crate_54 rfl iX8 L0 rfl rfl (by decide) rfl ?_
          refine v_iload_n hC 58 1 dX8_crate_57 rfl rfl rfl ?_
          refine v_iast hC 59 15 [oM am mwide mhigh mborder mpattern mdoor mpieces mtiles mrests mcrates mmoves manyLaid mgrout mhour 0, aC (cs 0) (am 1) 96 mpillar, aC (cs 0) (am 2) 12 mshut, aC (cs 0) (am 3) 96 mpk, aC (cs 0) (am 4) 96 mpf, aC (cs 0) (am 5) 96 mpn, aC (cs 0) (am 6) 96 mpr, aC (cs 0) (am 7) 96 mleft, aC (cs 0) (am 8) 96 mright, aC (cs 0) (am 9) 96 mtop, aC (cs 0) (am 10) 96 mbottom, aC (cs 0) (am 11) 96 mat, aC (cs 0) (am 12) 100 mrw, aC (cs 0) (am 13) 100 mrh, aC (cs 0) (am 14) 100 mrp, aC (cs 0) (am 15) 20 (uI mcf mcrates x), aC (cs 0) (am 16) 20 mcn, aC (cs 0) (am 17) 8 mdry] dX8_crate_58 rfl rfl (by decide) (by omega) rfl ?_
          refine v_aload_n hC 60 0 dX8_crate_59 rfl rfl rfl ?_
          refine v_get hC 63 0 23 (C := RX8) (T := TX8) (N := 31) dX8_crate_60 rfl iX8 L2 rfl rfl (by decide) rfl ?_
          refine v_aload_n hC 64 0 dX8_crate_63 rfl rfl rfl ?_
          refine v_get hC 67 0 24 (C := RX8) (T := TX8) (N := 31) dX8_crate_64 rfl iX8 L0 rfl rfl (by decide) rfl ?_
          refine v_iload_n hC 68 2 dX8_crate_67 rfl rfl rfl ?_
          refine v_iast hC 69 16 [oM am mwide mhigh mborder mpattern mdoor mpieces mtiles mrests mcrates mmoves manyLaid mgrout mhour 0, aC (cs 0) (am 1) 96 mpillar, aC (cs 0) (am 2) 12 mshut, aC (cs 0) (am 3) 96 mpk, aC (cs 0) (am 4) 96 mpf, aC (cs 0) (am 5) 96 mpn, aC (cs 0) (am 6) 96 mpr, aC (cs 0) (am 7) 96 mleft, aC (cs 0) (am 8) 96 mright, aC (cs 0) (am 9) 96 mtop, aC (cs 0) (am 10) 96 mbottom, aC (cs 0) (am 11) 96 mat, aC (cs 0) (am 12) 100 mrw, aC (cs 0) (am 13) 100 mrh, aC (cs 0) (am 14) 100 mrp, aC (cs 0) (am 15) 20 (uI mcf mcrates x), aC (cs 0) (am 16) 20 (uI mcn mcrates y), aC (cs 0) (am 17) 8 mdry] dX8_crate_68 rfl rfl (by decide) (by omega) rfl ?_
          refine v_aload_n hC 70 0 dX8_crate_69 rfl rfl rfl ?_
          refine v_dup hC 71 dX8_crate_70 rfl rfl ?_
          refine v_get hC 74 0 24 (C := RX8) (T := TX8) (N := 31) dX8_crate_71 rfl iX8 L0 rfl rfl (by decide) rfl ?_
          refine v_iconst hC 75 dX8_crate_74 rfl ?_
          refine v_iadd hC 76 (mcrates + 1) dX8_crate_75 rfl rfl ?_
          refine v_put hC 79 0 24 [oM am mwide mhigh mborder mpattern mdoor mpieces mtiles mrests (mcrates + 1) mmoves manyLaid mgrout mhour 0, aC (cs 0) (am 1) 96 mpillar, aC (cs 0) (am 2) 12 mshut, aC (cs 0) (am 3) 96 mpk, aC (cs 0) (am 4) 96 mpf, aC (cs 0) (am 5) 96 mpn, aC (cs 0) (am 6) 96 mpr, aC (cs 0) (am 7) 96 mleft, aC (cs 0) (am 8) 96 mright, aC (cs 0) (am 9) 96 mtop, aC (cs 0) (am 10) 96 mbottom, aC (cs 0) (am 11) 96 mat, aC (cs 0) (am 12) 100 mrw, aC (cs 0) (am 13) 100 mrh, aC (cs 0) (am 14) 100 mrp, aC (cs 0) (am 15) 20 (uI mcf mcrates x), aC (cs 0) (am 16) 20 (uI mcn mcrates y), aC (cs 0) (am 17) 8 mdry] (C := RX8) (T := TX8) (N := 31) dX8_crate_76 rfl iX8 tyX8_ok nmX8 L0 rfl rfl (by decide) rfl rfl rfl (Nat.le_of_ble_eq_true rfl) rfl ?_
          refine v_aload_n hC 80 0 dX8_crate_79 rfl rfl rfl ?_
          refine v_get hC 83 0 24 (C := RX8) (T := TX8) (N := 31) dX8_crate_80 rfl iX8 L0 rfl rfl (by decide) rfl ?_
          exact v_iret hC hQ () [0, 1, 2, 3, 4, 5, 6, 7, 8, 9, 10, 11, 12, 13, 14, 15, 16, 17] dX8_crate_83 rfl rfl ⟨by decide, by decide⟩ (by (try dsimp only); all_goals (first | rfl | omega))
        · exfalso; omega
      · exfalso; omega
    · exfalso; omega

set_option maxHeartbeats 4000000 in
set_option maxRecDepth 100000 in
theorem n_X8_crate (lx : Launch) (D : va_G) (cs : Nat → ClassId) (am : Nat → Nat) (mwide : Int) (mhigh : Int) (mborder : Int) (mpattern : Int) (mdoor : Int) (mpieces : Int) (mtiles : Int) (mrests : Int) (mcrates : Int) (mmoves : Int) (manyLaid : Int) (mgrout : Int) (mhour : Int) (mthrown : Int) (mpillar : Int → Int) (mshut : Int → Int) (mpk : Int → Int) (mpf : Int → Int) (mpn : Int → Int) (mpr : Int → Int) (mleft : Int → Int) (mright : Int → Int) (mtop : Int → Int) (mbottom : Int → Int) (mat : Int → Int) (mrw : Int → Int) (mrh : Int → Int) (mrp : Int → Int) (mcf : Int → Int) (mcn : Int → Int) (mdry : Int → Int) (x : Int) (y : Int) (k : Int) (r1 : -2147483648 ≤ x ∧ x < 2147483648) (r2 : -2147483648 ≤ y ∧ y < 2147483648) (hcr : 0 ≤ mcrates ∧ mcrates ≤ 20) (hno : (¬ ((0 ≤ x ∧ x ≤ 9) ∧ 1 ≤ y ∧ y ≤ 100) ∧ k = 1) ∨ (((0 ≤ x ∧ x ≤ 9) ∧ 1 ≤ y ∧ y ≤ 100) ∧ mcrates = 20 ∧ k = 2)) : Ci lx D cs yX8_crate wsX8_crate ({ frames := 2, cells := 0, slots := 0, locals := 47 }) [.ref (am 0), .int (iI x), .int (iI y)] [oM am mwide mhigh mborder mpattern mdoor mpieces mtiles mrests mcrates mmoves manyLaid mgrout mhour mthrown, aC (cs 0) (am 1) 96 mpillar, aC (cs 0) (am 2) 12 mshut, aC (cs 0) (am 3) 96 mpk, aC (cs 0) (am 4) 96 mpf, aC (cs 0) (am 5) 96 mpn, aC (cs 0) (am 6) 96 mpr, aC (cs 0) (am 7) 96 mleft, aC (cs 0) (am 8) 96 mright, aC (cs 0) (am 9) 96 mtop, aC (cs 0) (am 10) 96 mbottom, aC (cs 0) (am 11) 96 mat, aC (cs 0) (am 12) 100 mrw, aC (cs 0) (am 13) 100 mrh, aC (cs 0) (am 14) 100 mrp, aC (cs 0) (am 15) 20 mcf, aC (cs 0) (am 16) 20 mcn, aC (cs 0) (am 17) 8 mdry] (fun (z : Int) (u : Unit) => True) (fun u : Unit => [oM am mwide mhigh mborder mpattern mdoor mpieces mtiles mrests mcrates mmoves manyLaid mgrout mhour k, aC (cs 0) (am 1) 96 mpillar, aC (cs 0) (am 2) 12 mshut, aC (cs 0) (am 3) 96 mpk, aC (cs 0) (am 4) 96 mpf, aC (cs 0) (am 5) 96 mpn, aC (cs 0) (am 6) 96 mpr, aC (cs 0) (am 7) 96 mleft, aC (cs 0) (am 8) 96 mright, aC (cs 0) (am 9) 96 mtop, aC (cs 0) (am 10) 96 mbottom, aC (cs 0) (am 11) 96 mat, aC (cs 0) (am 12) 100 mrw, aC (cs 0) (am 13) 100 mrh, aC (cs 0) (am 14) 100 mrp, aC (cs 0) (am 15) 20 mcf, aC (cs 0) (am 16) 20 mcn, aC (cs 0) (am 17) 8 mdry]) 0 0 := by
  refine Ci_of (cc := cX8_crate) (nL := 3) (ret := (some .int)) (lv0 := [(0, .ref (am 0)), (1, .int (iI x)), (2, .int (iI y))]) RX8 "crate" (by decide +kernel) rfl (Nat.le_of_ble_eq_true rfl) rfl (fun p9 e9 s9 m9 ar9 be9 me9 c9 A9 Q9 hQ hC => ?_)
  have iX8 : ∀ w ∈ wsX80, w ∈ wsX8_crate := by decide +kernel
  have L0 : Cond.fieldLink RX8 142 "GroutlineModel" "crates" "I" ∈ wsX8_crate := by decide +kernel
  refine v_aload_n hC 1 0 dX8_crate_0 rfl rfl rfl ?_
  refine v_aload_n hC 2 0 dX8_crate_1 rfl rfl rfl ?_
  refine v_iload_n hC 3 1 dX8_crate_2 rfl rfl rfl ?_
  refine v_iconst hC 4 dX8_crate_3 rfl ?_
  refine v_bipush hC 6 dX8_crate_4 rfl rfl ?_
  refine v_callVi hC 9 3 [0, 1, 2, 3, 4, 5, 6, 7, 8, 9, 10, 11, 12, 13, 14, 15, 16, 17] [] [] (As := [.int (iI x), .int (iI 0), .int (iI 9)]) (rest := [.ref (am 0)]) (c_X8_in lx D cs am mwide mhigh mborder mpattern mdoor mpieces mtiles mrests mcrates mmoves manyLaid mgrout mhour mthrown mpillar mshut mpk mpf mpn mpr mleft mright mtop mbottom mat mrw mrh mrp mcf mcn mdry x 0 9 (by omega) (by omega) (by omega)) dX8_crate_6 rfl rfl 0 rfl rfl gX8_crate_X8_in rfl rfl rfl (by decide +kernel) ⟨by decide, by decide⟩ rfl rfl rfl rfl (by decide) rfl (Nat.le_of_ble_eq_true rfl) ⟨rfl, rfl⟩ ⟨by decide, by decide⟩ (fun z6 u6 h6 => ?_)
  (try dsimp only at h6)
  obtain ⟨h6_1, h6_2⟩ := h6
  show V p9 lx e9 ({ frames := 2, cells := 0, slots := 0, locals := 47 }) s9 m9 ar9 be9 me9 c9 Q9 D A9 s9.heap 3 0 0 [oM am mwide mhigh mborder mpattern mdoor mpieces mtiles mrests mcrates mmoves manyLaid mgrout mhour mthrown, aC (cs 0) (am 1) 96 mpillar, aC (cs 0) (am 2) 12 mshut, aC (cs 0) (am 3) 96 mpk, aC (cs 0) (am 4) 96 mpf, aC (cs 0) (am 5) 96 mpn, aC (cs 0) (am 6) 96 mpr, aC (cs 0) (am 7) 96 mleft, aC (cs 0) (am 8) 96 mright, aC (cs 0) (am 9) 96 mtop, aC (cs 0) (am 10) 96 mbottom, aC (cs 0) (am 11) 96 mat, aC (cs 0) (am 12) 100 mrw, aC (cs 0) (am 13) 100 mrh, aC (cs 0) (am 14) 100 mrp, aC (cs 0) (am 15) 20 mcf, aC (cs 0) (am 16) 20 mcn, aC (cs 0) (am 17) 8 mdry] [(0, .ref (am 0)), (1, .int (iI x)), (2, .int (iI y))] 9 [.int (iI z6), .ref (am 0)]
  refine v_if_eq hC 23 12 dX8_crate_9 (by decide) rfl (by omega) (fun c_9 => ?_) (fun c_9 => ?_)
  · skip
    refine v_iconst hC 24 dX8_crate_23 rfl ?_
    refine v_goto hC 41 dX8_crate_24 (by decide) ?_
    refine v_callVi hC 44 1 [0, 1, 2, 3, 4, 5, 6, 7, 8, 9, 10, 11, 12, 13, 14, 15, 16, 17] [] [] (As := [.int (iI 1)]) (rest := []) (c_X8_holds lx D cs am mwide mhigh mborder mpattern mdoor mpieces mtiles mrests mcrates mmoves manyLaid mgrout mhour mthrown mpillar mshut mpk mpf mpn mpr mleft mright mtop mbottom mat mrw mrh mrp mcf mcn mdry 1 (by omega)) dX8_crate_41 rfl rfl 0 rfl rfl gX8_crate_X8_holds rfl rfl rfl (by decide +kernel) ⟨by decide, by decide⟩ rfl rfl rfl rfl (by decide) rfl (Nat.le_of_ble_eq_true rfl) ⟨rfl, rfl⟩ ⟨by decide, by decide⟩ (fun z41 u41 h41 => ?_)
    (try dsimp only at h41)
    obtain ⟨h41_1, h41_2⟩ := h41
    show V p9 lx e9 ({ frames := 2, cells := 0, slots := 0, locals := 47 }) s9 m9 ar9 be9 me9 c9 Q9 D A9 s9.heap 3 0 0 [oM am mwide mhigh mborder mpattern mdoor mpieces mtiles mrests mcrates mmoves manyLaid mgrout mhour 1, aC (cs 0) (am 1) 96 mpillar, aC (cs 0) (am 2) 12 mshut, aC (cs 0) (am 3) 96 mpk, aC (cs 0) (am 4) 96 mpf, aC (cs 0) (am 5) 96 mpn, aC (cs 0) (am 6) 96 mpr, aC (cs 0) (am 7) 96 mleft, aC (cs 0) (am 8) 96 mright, aC (cs 0) (am 9) 96 mtop, aC (cs 0) (am 10) 96 mbottom, aC (cs 0) (am 11) 96 mat, aC (cs 0) (am 12) 100 mrw, aC (cs 0) (am 13) 100 mrh, aC (cs 0) (am 14) 100 mrp, aC (cs 0) (am 15) 20 mcf, aC (cs 0) (am 16) 20 mcn, aC (cs 0) (am 17) 8 mdry] [(0, .ref (am 0)), (1, .int (iI x)), (2, .int (iI y))] 44 [.int (iI z41)]
    refine v_if_eq hC 49 47 dX8_crate_44 (by decide) rfl (by omega) (fun c_44 => ?_) (fun c_44 => ?_)
    · exfalso; omega
    · skip
      refine v_iconst hC 48 dX8_crate_47 rfl ?_
      obtain rfl : k = 1 := by omega
      exact v_iret hC hQ () [0, 1, 2, 3, 4, 5, 6, 7, 8, 9, 10, 11, 12, 13, 14, 15, 16, 17] dX8_crate_48 rfl rfl ⟨by decide, by decide⟩ trivial
  · skip
    refine v_aload_n hC 13 0 dX8_crate_12 rfl rfl rfl ?_
    refine v_iload_n hC 14 2 dX8_crate_13 rfl rfl rfl ?_
    refine v_iconst hC 15 dX8_crate_14 rfl ?_
    refine v_bipush hC 17 dX8_crate_15 rfl rfl ?_
    refine v_callVi hC 20 3 [0, 1, 2, 3, 4, 5, 6, 7, 8, 9, 10, 11, 12, 13, 14, 15, 16, 17] [] [] (As := [.int (iI y), .int (iI 1), .int (iI 100)]) (rest := [.ref (am 0)]) (c_X8_in lx D cs am mwide mhigh mborder mpattern mdoor mpieces mtiles mrests mcrates mmoves manyLaid mgrout mhour mthrown mpillar mshut mpk mpf mpn mpr mleft mright mtop mbottom mat mrw mrh mrp mcf mcn mdry y 1 100 (by omega) (by omega) (by omega)) dX8_crate_17 rfl rfl 0 rfl rfl gX8_crate_X8_in rfl rfl rfl (by decide +kernel) ⟨by decide, by decide⟩ rfl rfl rfl rfl (by decide) rfl (Nat.le_of_ble_eq_true rfl) ⟨rfl, rfl⟩ ⟨by decide, by decide⟩ (fun z17 u17 h17 => ?_)
    (try dsimp only at h17)
    obtain ⟨h17_1, h17_2⟩ := h17
    show V p9 lx e9 ({ frames := 2, cells := 0, slots := 0, locals := 47 }) s9 m9 ar9 be9 me9 c9 Q9 D A9 s9.heap 3 0 0 [oM am mwide mhigh mborder mpattern mdoor mpieces mtiles mrests mcrates mmoves manyLaid mgrout mhour mthrown, aC (cs 0) (am 1) 96 mpillar, aC (cs 0) (am 2) 12 mshut, aC (cs 0) (am 3) 96 mpk, aC (cs 0) (am 4) 96 mpf, aC (cs 0) (am 5) 96 mpn, aC (cs 0) (am 6) 96 mpr, aC (cs 0) (am 7) 96 mleft, aC (cs 0) (am 8) 96 mright, aC (cs 0) (am 9) 96 mtop, aC (cs 0) (am 10) 96 mbottom, aC (cs 0) (am 11) 96 mat, aC (cs 0) (am 12) 100 mrw, aC (cs 0) (am 13) 100 mrh, aC (cs 0) (am 14) 100 mrp, aC (cs 0) (am 15) 20 mcf, aC (cs 0) (am 16) 20 mcn, aC (cs 0) (am 17) 8 mdry] [(0, .ref (am 0)), (1, .int (iI x)), (2, .int (iI y))] 20 [.int (iI z17), .ref (am 0)]
    refine v_if_ne hC 27 23 dX8_crate_20 (by decide) rfl (by omega) (fun c_20 => ?_) (fun c_20 => ?_)
    · skip
      refine v_aload_n hC 28 0 dX8_crate_27 rfl rfl rfl ?_
      refine v_get hC 31 0 24 (C := RX8) (T := TX8) (N := 31) dX8_crate_28 rfl iX8 L0 rfl rfl (by decide) rfl ?_
      refine v_bipush hC 33 dX8_crate_31 rfl rfl ?_
      refine v_icmp_ne hC 40 36 dX8_crate_33 (by decide) rfl (by omega) (by omega) (fun c_33 => ?_) (fun c_33 => ?_)
      · exfalso; omega
      · skip
        refine v_iconst hC 37 dX8_crate_36 rfl ?_
        refine v_goto hC 41 dX8_crate_37 (by decide) ?_
        refine v_callVi hC 44 1 [0, 1, 2, 3, 4, 5, 6, 7, 8, 9, 10, 11, 12, 13, 14, 15, 16, 17] [] [] (As := [.int (iI 2)]) (rest := []) (c_X8_holds lx D cs am mwide mhigh mborder mpattern mdoor mpieces mtiles mrests mcrates mmoves manyLaid mgrout mhour mthrown mpillar mshut mpk mpf mpn mpr mleft mright mtop mbottom mat mrw mrh mrp mcf mcn mdry 2 (by omega)) dX8_crate_41 rfl rfl 0 rfl rfl gX8_crate_X8_holds rfl rfl rfl (by decide +kernel) ⟨by decide, by decide⟩ rfl rfl rfl rfl (by decide) rfl (Nat.le_of_ble_eq_true rfl) ⟨rfl, rfl⟩ ⟨by decide, by decide⟩ (fun z41 u41 h41 => ?_)
        (try dsimp only at h41)
        obtain ⟨h41_1, h41_2⟩ := h41
        show V p9 lx e9 ({ frames := 2, cells := 0, slots := 0, locals := 47 }) s9 m9 ar9 be9 me9 c9 Q9 D A9 s9.heap 3 0 0 [oM am mwide mhigh mborder mpattern mdoor mpieces mtiles mrests mcrates mmoves manyLaid mgrout mhour 2, aC (cs 0) (am 1) 96 mpillar, aC (cs 0) (am 2) 12 mshut, aC (cs 0) (am 3) 96 mpk, aC (cs 0) (am 4) 96 mpf, aC (cs 0) (am 5) 96 mpn, aC (cs 0) (am 6) 96 mpr, aC (cs 0) (am 7) 96 mleft, aC (cs 0) (am 8) 96 mright, aC (cs 0) (am 9) 96 mtop, aC (cs 0) (am 10) 96 mbottom, aC (cs 0) (am 11) 96 mat, aC (cs 0) (am 12) 100 mrw, aC (cs 0) (am 13) 100 mrh, aC (cs 0) (am 14) 100 mrp, aC (cs 0) (am 15) 20 mcf, aC (cs 0) (am 16) 20 mcn, aC (cs 0) (am 17) 8 mdry] [(0, .ref (am 0)), (1, .int (iI x)), (2, .int (iI y))] 44 [.int (iI z41)]
        refine v_if_eq hC 49 47 dX8_crate_44 (by decide) rfl (by omega) (fun c_44 => ?_) (fun c_44 => ?_)
        · exfalso; omega
        · skip
          refine v_iconst hC 48 dX8_crate_47 rfl ?_
          obtain rfl : k = 2 := by omega
          exact v_iret hC hQ () [0, 1, 2, 3, 4, 5, 6, 7, 8, 9, 10, 11, 12, 13, 14, 15, 16, 17] dX8_crate_48 rfl rfl ⟨by decide, by decide⟩ trivial
    · skip
      refine v_iconst hC 24 dX8_crate_23 rfl ?_
      refine v_goto hC 41 dX8_crate_24 (by decide) ?_
      refine v_callVi hC 44 1 [0, 1, 2, 3, 4, 5, 6, 7, 8, 9, 10, 11, 12, 13, 14, 15, 16, 17] [] [] (As := [.int (iI 1)]) (rest := []) (c_X8_holds lx D cs am mwide mhigh mborder mpattern mdoor mpieces mtiles mrests mcrates mmoves manyLaid mgrout mhour mthrown mpillar mshut mpk mpf mpn mpr mleft mright mtop mbottom mat mrw mrh mrp mcf mcn mdry 1 (by omega)) dX8_crate_41 rfl rfl 0 rfl rfl gX8_crate_X8_holds rfl rfl rfl (by decide +kernel) ⟨by decide, by decide⟩ rfl rfl rfl rfl (by decide) rfl (Nat.le_of_ble_eq_true rfl) ⟨rfl, rfl⟩ ⟨by decide, by decide⟩ (fun z41 u41 h41 => ?_)
      (try dsimp only at h41)
      obtain ⟨h41_1, h41_2⟩ := h41
      show V p9 lx e9 ({ frames := 2, cells := 0, slots := 0, locals := 47 }) s9 m9 ar9 be9 me9 c9 Q9 D A9 s9.heap 3 0 0 [oM am mwide mhigh mborder mpattern mdoor mpieces mtiles mrests mcrates mmoves manyLaid mgrout mhour 1, aC (cs 0) (am 1) 96 mpillar, aC (cs 0) (am 2) 12 mshut, aC (cs 0) (am 3) 96 mpk, aC (cs 0) (am 4) 96 mpf, aC (cs 0) (am 5) 96 mpn, aC (cs 0) (am 6) 96 mpr, aC (cs 0) (am 7) 96 mleft, aC (cs 0) (am 8) 96 mright, aC (cs 0) (am 9) 96 mtop, aC (cs 0) (am 10) 96 mbottom, aC (cs 0) (am 11) 96 mat, aC (cs 0) (am 12) 100 mrw, aC (cs 0) (am 13) 100 mrh, aC (cs 0) (am 14) 100 mrp, aC (cs 0) (am 15) 20 mcf, aC (cs 0) (am 16) 20 mcn, aC (cs 0) (am 17) 8 mdry] [(0, .ref (am 0)), (1, .int (iI x)), (2, .int (iI y))] 44 [.int (iI z41)]
      refine v_if_eq hC 49 47 dX8_crate_44 (by decide) rfl (by omega) (fun c_44 => ?_) (fun c_44 => ?_)
      · exfalso; omega
      · skip
        refine v_iconst hC 48 dX8_crate_47 rfl ?_
        obtain rfl : k = 1 := by omega
        exact v_iret hC hQ () [0, 1, 2, 3, 4, 5, 6, 7, 8, 9, 10, 11, 12, 13, 14, 15, 16, 17] dX8_crate_48 rfl rfl ⟨by decide, by decide⟩ trivial

set_option maxHeartbeats 4000000 in
set_option maxRecDepth 100000 in
theorem c_X8_fetch (lx : Launch) (D : va_G) (cs : Nat → ClassId) (am : Nat → Nat) (mwide : Int) (mhigh : Int) (mborder : Int) (mpattern : Int) (mdoor : Int) (mpieces : Int) (mtiles : Int) (mrests : Int) (mcrates : Int) (mmoves : Int) (manyLaid : Int) (mgrout : Int) (mhour : Int) (mthrown : Int) (mpillar : Int → Int) (mshut : Int → Int) (mpk : Int → Int) (mpf : Int → Int) (mpn : Int → Int) (mpr : Int → Int) (mleft : Int → Int) (mright : Int → Int) (mtop : Int → Int) (mbottom : Int → Int) (mat : Int → Int) (mrw : Int → Int) (mrh : Int → Int) (mrp : Int → Int) (mcf : Int → Int) (mcn : Int → Int) (mdry : Int → Int) (x : Int) (r1 : -2147483648 ≤ x ∧ x < 2147483648) (hcr : 0 ≤ mcrates ∧ mcrates ≤ 20) (hmv : 0 ≤ mmoves ∧ mmoves ≤ 1000000) (hcf : Rn mcf 0 9) (hok : 0 ≤ x ∧ x ≤ 9) : Ci lx D cs yX8_fetch wsX8_fetch ({ frames := 2, cells := 0, slots := 0, locals := 47 }) [.ref (am 0), .int (iI x)] [oM am mwide mhigh mborder mpattern mdoor mpieces mtiles mrests mcrates mmoves manyLaid mgrout mhour mthrown, aC (cs 0) (am 1) 96 mpillar, aC (cs 0) (am 2) 12 mshut, aC (cs 0) (am 3) 96 mpk, aC (cs 0) (am 4) 96 mpf, aC (cs 0) (am 5) 96 mpn, aC (cs 0) (am 6) 96 mpr, aC (cs 0) (am 7) 96 mleft, aC (cs 0) (am 8) 96 mright, aC (cs 0) (am 9) 96 mtop, aC (cs 0) (am 10) 96 mbottom, aC (cs 0) (am 11) 96 mat, aC (cs 0) (am 12) 100 mrw, aC (cs 0) (am 13) 100 mrh, aC (cs 0) (am 14) 100 mrp, aC (cs 0) (am 15) 20 mcf, aC (cs 0) (am 16) 20 mcn, aC (cs 0) (am 17) 8 mdry] (fun (z : Int) (u : (Int → Int) × (Int → Int) × Int × Int) => (tp mcf x mcrates.toNat < 0 → z = -1 ∧ u.1 = mcf ∧ u.2.1 = mcn ∧ u.2.2.1 = mmoves ∧ u.2.2.2 = mcrates) ∧ (0 ≤ tp mcf x mcrates.toNat → z = mcn (tp mcf x mcrates.toNat) ∧ u.1 = sh mcf (tp mcf x mcrates.toNat) mcrates ∧ u.2.1 = sh mcn (tp mcf x mcrates.toNat) mcrates ∧ u.2.2.1 = mmoves + 2 * (mcrates - 1 - tp mcf x mcrates.toNat) ∧ u.2.2.2 = mcrates - 1)) (fun u : (Int → Int) × (Int → Int) × Int × Int => [oM am mwide mhigh mborder mpattern mdoor mpieces mtiles mrests u.2.2.2 u.2.2.1 manyLaid mgrout mhour 0, aC (cs 0) (am 1) 96 mpillar, aC (cs 0) (am 2) 12 mshut, aC (cs 0) (am 3) 96 mpk, aC (cs 0) (am 4) 96 mpf, aC (cs 0) (am 5) 96 mpn, aC (cs 0) (am 6) 96 mpr, aC (cs 0) (am 7) 96 mleft, aC (cs 0) (am 8) 96 mright, aC (cs 0) (am 9) 96 mtop, aC (cs 0) (am 10) 96 mbottom, aC (cs 0) (am 11) 96 mat, aC (cs 0) (am 12) 100 mrw, aC (cs 0) (am 13) 100 mrh, aC (cs 0) (am 14) 100 mrp, aC (cs 0) (am 15) 20 u.1, aC (cs 0) (am 16) 20 u.2.1, aC (cs 0) (am 17) 8 mdry]) 0 0 := by
  refine Ci_of (cc := cX8_fetch) (nL := 5) (ret := (some .int)) (lv0 := [(0, .ref (am 0)), (1, .int (iI x))]) RX8 "fetch" (by decide +kernel) rfl (Nat.le_of_ble_eq_true rfl) rfl (fun p9 e9 s9 m9 ar9 be9 me9 c9 A9 Q9 hQ hC => ?_)
  have iX8 : ∀ w ∈ wsX80, w ∈ wsX8_fetch := by decide +kernel
  have L0 : Cond.fieldLink RX8 142 "GroutlineModel" "crates" "I" ∈ wsX8_fetch := by decide +kernel
  have L1 : Cond.fieldLink RX8 62 "GroutlineModel" "cn" "[I" ∈ wsX8_fetch := by decide +kernel
  have L2 : Cond.fieldLink RX8 145 "GroutlineModel" "moves" "I" ∈ wsX8_fetch := by decide +kernel
  have L3 : Cond.fieldLink RX8 59 "GroutlineModel" "cf" "[I" ∈ wsX8_fetch := by decide +kernel
  refine v_aload_n hC 1 0 dX8_fetch_0 rfl rfl rfl ?_
  refine v_aload_n hC 2 0 dX8_fetch_1 rfl rfl rfl ?_
  refine v_iload_n hC 3 1 dX8_fetch_2 rfl rfl rfl ?_
  refine v_iconst hC 4 dX8_fetch_3 rfl ?_
  refine v_bipush hC 6 dX8_fetch_4 rfl rfl ?_
  refine v_callVi hC 9 3 [0, 1, 2, 3, 4, 5, 6, 7, 8, 9, 10, 11, 12, 13, 14, 15, 16, 17] [] [] (As := [.int (iI x), .int (iI 0), .int (iI 9)]) (rest := [.ref (am 0)]) (c_X8_in lx D cs am mwide mhigh mborder mpattern mdoor mpieces mtiles mrests mcrates mmoves manyLaid mgrout mhour mthrown mpillar mshut mpk mpf mpn mpr mleft mright mtop mbottom mat mrw mrh mrp mcf mcn mdry x 0 9 (by omega) (by omega) (by omega)) dX8_fetch_6 rfl rfl 0 rfl rfl gX8_fetch_X8_in rfl rfl rfl (by decide +kernel) ⟨by decide, by decide⟩ rfl rfl rfl rfl (by decide) rfl (Nat.le_of_ble_eq_true rfl) ⟨rfl, rfl⟩ ⟨by decide, by decide⟩ (fun z6 u6 h6 => ?_)
  (try dsimp only at h6)
  obtain ⟨h6_1, h6_2⟩ := h6
  show V p9 lx e9 ({ frames := 2, cells := 0, slots := 0, locals := 47 }) s9 m9 ar9 be9 me9 c9 Q9 D A9 s9.heap 5 0 0 [oM am mwide mhigh mborder mpattern mdoor mpieces mtiles mrests mcrates mmoves manyLaid mgrout mhour mthrown, aC (cs 0) (am 1) 96 mpillar, aC (cs 0) (am 2) 12 mshut, aC (cs 0) (am 3) 96 mpk, aC (cs 0) (am 4) 96 mpf, aC (cs 0) (am 5) 96 mpn, aC (cs 0) (am 6) 96 mpr, aC (cs 0) (am 7) 96 mleft, aC (cs 0) (am 8) 96 mright, aC (cs 0) (am 9) 96 mtop, aC (cs 0) (am 10) 96 mbottom, aC (cs 0) (am 11) 96 mat, aC (cs 0) (am 12) 100 mrw, aC (cs 0) (am 13) 100 mrh, aC (cs 0) (am 14) 100 mrp, aC (cs 0) (am 15) 20 mcf, aC (cs 0) (am 16) 20 mcn, aC (cs 0) (am 17) 8 mdry] [(0, .ref (am 0)), (1, .int (iI x))] 9 [.int (iI z6), .ref (am 0)]
  refine v_if_eq hC 16 12 dX8_fetch_9 (by decide) rfl (by omega) (fun c_9 => ?_) (fun c_9 => ?_)
  · exfalso; omega
  · skip
    refine v_iconst hC 13 dX8_fetch_12 rfl ?_
    refine v_goto hC 17 dX8_fetch_13 (by decide) ?_
    refine v_callVi hC 20 1 [0, 1, 2, 3, 4, 5, 6, 7, 8, 9, 10, 11, 12, 13, 14, 15, 16, 17] [] [] (As := [.int (iI 0)]) (rest := []) (c_X8_holds lx D cs am mwide mhigh mborder mpattern mdoor mpieces mtiles mrests mcrates mmoves manyLaid mgrout mhour mthrown mpillar mshut mpk mpf mpn mpr mleft mright mtop mbottom mat mrw mrh mrp mcf mcn mdry 0 (by omega)) dX8_fetch_17 rfl rfl 0 rfl rfl gX8_fetch_X8_holds rfl rfl rfl (by decide +kernel) ⟨by decide, by decide⟩ rfl rfl rfl rfl (by decide) rfl (Nat.le_of_ble_eq_true rfl) ⟨rfl, rfl⟩ ⟨by decide, by decide⟩ (fun z17 u17 h17 => ?_)
    (try dsimp only at h17)
    obtain ⟨h17_1, h17_2⟩ := h17
    show V p9 lx e9 ({ frames := 2, cells := 0, slots := 0, locals := 47 }) s9 m9 ar9 be9 me9 c9 Q9 D A9 s9.heap 5 0 0 [oM am mwide mhigh mborder mpattern mdoor mpieces mtiles mrests mcrates mmoves manyLaid mgrout mhour 0, aC (cs 0) (am 1) 96 mpillar, aC (cs 0) (am 2) 12 mshut, aC (cs 0) (am 3) 96 mpk, aC (cs 0) (am 4) 96 mpf, aC (cs 0) (am 5) 96 mpn, aC (cs 0) (am 6) 96 mpr, aC (cs 0) (am 7) 96 mleft, aC (cs 0) (am 8) 96 mright, aC (cs 0) (am 9) 96 mtop, aC (cs 0) (am 10) 96 mbottom, aC (cs 0) (am 11) 96 mat, aC (cs 0) (am 12) 100 mrw, aC (cs 0) (am 13) 100 mrh, aC (cs 0) (am 14) 100 mrp, aC (cs 0) (am 15) 20 mcf, aC (cs 0) (am 16) 20 mcn, aC (cs 0) (am 17) 8 mdry] [(0, .ref (am 0)), (1, .int (iI x))] 20 [.int (iI z17)]
    refine v_if_eq hC 25 23 dX8_fetch_20 (by decide) rfl (by omega) (fun c_20 => ?_) (fun c_20 => ?_)
    · skip
      refine v_iconst hC 26 dX8_fetch_25 rfl ?_
      refine v_istore_n hC 27 [(2, .int (iI (-1))), (0, .ref (am 0)), (1, .int (iI x))] dX8_fetch_26 rfl rfl (by decide) rfl ?_
      refine v_iconst hC 28 dX8_fetch_27 rfl ?_
      refine v_istore_n hC 29 [(3, .int (iI 0)), (2, .int (iI (-1))), (0, .ref (am 0)), (1, .int (iI x))] dX8_fetch_28 rfl rfl (by decide) rfl ?_
      have cut_29 : ∀ (n : Nat) (fd : Int) (k : Int), (0 ≤ k ∧ k ≤ mcrates) → (-1 ≤ fd ∧ fd < k) → (fd = tp mcf x k.toNat) → (mcrates - k < (n : Int)) → V p9 lx e9 ({ frames := 2, cells := 0, slots := 0, locals := 47 }) s9 m9 ar9 be9 me9 c9 Q9 D A9 s9.heap 5 0 0 [oM am mwide mhigh mborder mpattern mdoor mpieces mtiles mrests mcrates mmoves manyLaid mgrout mhour 0, aC (cs 0) (am 1) 96 mpillar, aC (cs 0) (am 2) 12 mshut, aC (cs 0) (am 3) 96 mpk, aC (cs 0) (am 4) 96 mpf, aC (cs 0) (am 5) 96 mpn, aC (cs 0) (am 6) 96 mpr, aC (cs 0) (am 7) 96 mleft, aC (cs 0) (am 8) 96 mright, aC (cs 0) (am 9) 96 mtop, aC (cs 0) (am 10) 96 mbottom, aC (cs 0) (am 11) 96 mat, aC (cs 0) (am 12) 100 mrw, aC (cs 0) (am 13) 100 mrh, aC (cs 0) (am 14) 100 mrp, aC (cs 0) (am 15) 20 mcf, aC (cs 0) (am 16) 20 mcn, aC (cs 0) (am 17) 8 mdry] [(0, .ref (am 0)), (1, .int (iI x)), (2, .int (iI fd)), (3, .int (iI k))] 29 [] := by
        intro n
        induction n with
        | zero =>
          intro fd k hk hf9 hfd hn
          exfalso; omega
        | succ n ih =>
          intro fd k hk hf9 hfd hn
          have ih_29 := ih
          clear ih
          refine v_iload_n hC 30 3 dX8_fetch_29 rfl rfl rfl ?_
          refine v_aload_n hC 31 0 dX8_fetch_30 rfl rfl rfl ?_
          refine v_get hC 34 0 24 (C := RX8) (T := TX8) (N := 31) dX8_fetch_31 rfl iX8 L0 rfl rfl (by decide) rfl ?_
          refine v_icmp_ge hC 59 37 dX8_fetch_34 (by decide) rfl (by omega) (by omega) (fun c_34 => ?_) (fun c_34 => ?_)
          · skip
            have ht9 : tp mcf x mcrates.toNat = fd := by rw [hfd, show k = mcrates by omega]
            refine v_iload_n hC 60 2 dX8_fetch_59 rfl rfl rfl ?_
            refine v_if_ge hC 65 63 dX8_fetch_60 (by decide) rfl (by omega) (fun c_60 => ?_) (fun c_60 => ?_)
            · skip
              refine v_aload_n hC 66 0 dX8_fetch_65 rfl rfl rfl ?_
              refine v_get hC 69 0 23 (C := RX8) (T := TX8) (N := 31) dX8_fetch_66 rfl iX8 L1 rfl rfl (by decide) rfl ?_
              refine v_iload_n hC 70 2 dX8_fetch_69 rfl rfl rfl ?_
              refine v_iald hC 71 16 dX8_fetch_70 rfl rfl (by decide) (by omega) ?_
              refine v_istore_n hC 72 [(3, .int (iI (mcn fd))), (0, .ref (am 0)), (1, .int (iI x)), (2, .int (iI fd))] dX8_fetch_71 rfl rfl (by decide) rfl ?_
              refine v_aload_n hC 73 1 dX8_fetch_72 rfl rfl rfl ?_
              refine v_dup hC 74 dX8_fetch_73 rfl rfl ?_
              refine v_get hC 77 0 24 (C := RX8) (T := TX8) (N := 31) dX8_fetch_74 rfl iX8 L0 rfl rfl (by decide) rfl ?_
              refine v_iconst hC 78 dX8_fetch_77 rfl ?_
              refine v_isub hC 79 (mcrates - 1) dX8_fetch_78 rfl rfl ?_
              refine v_put hC 82 0 24 [oM am mwide mhigh mborder mpattern mdoor mpieces mtiles mrests (mcrates - 1) mmoves manyLaid mgrout mhour 0, aC (cs 0) (am 1) 96 mpillar, aC (cs 0) (am 2) 12 mshut, aC (cs 0) (am 3) 96 mpk, aC (cs 0) (am 4) 96 mpf, aC (cs 0) (am 5) 96 mpn, aC (cs 0) (am 6) 96 mpr, aC (cs 0) (am 7) 96 mleft, aC (cs 0) (am 8) 96 mright, aC (cs 0) (am 9) 96 mtop, aC (cs 0) (am 10) 96 mbottom, aC (cs 0) (am 11) 96 mat, aC (cs 0) (am 12) 100 mrw, aC (cs 0) (am 13) 100 mrh, aC (cs 0) (am 14) 100 mrp, aC (cs 0) (am 15) 20 mcf, aC (cs 0) (am 16) 20 mcn, aC (cs 0) (am 17) 8 mdry] (C := RX8) (T := TX8) (N := 31) dX8_fetch_79 rfl iX8 tyX8_ok nmX8 L0 rfl rfl (by decide) rfl rfl rfl (Nat.le_of_ble_eq_true rfl) rfl ?_
              refine v_aload_n hC 83 1 dX8_fetch_82 rfl rfl rfl ?_
              refine v_dup hC 84 dX8_fetch_83 rfl rfl ?_
              refine v_get hC 87 0 25 (C := RX8) (T := TX8) (N := 31) dX8_fetch_84 rfl iX8 L2 rfl rfl (by decide) rfl ?_
              refine v_iconst hC 88 dX8_fetch_87 rfl ?_
              refine v_aload_n hC 89 1 dX8_fetch_88 rfl rfl rfl ?_
              refine v_get hC 92 0 24 (C := RX8) (T := TX8) (N := 31) dX8_fetch_89 rfl iX8 L0 rfl rfl (by decide) rfl ?_
              refine v_iload_n hC 93 3 dX8_fetch_92 rfl rfl rfl ?_
              refine v_isub hC 94 (mcrates - 1 - fd) dX8_fetch_93 rfl rfl ?_
              refine v_imul hC 95 (2 * (mcrates - 1 - fd)) dX8_fetch_94 rfl rfl ?_
              refine v_iadd hC 96 (mmoves + (2 * (mcrates - 1 - fd))) dX8_fetch_95 rfl rfl ?_
              refine v_put hC 99 0 25 [oM am mwide mhigh mborder mpattern mdoor mpieces mtiles mrests (mcrates - 1) (mmoves + (2 * (mcrates - 1 - fd))) manyLaid mgrout mhour 0, aC (cs 0) (am 1) 96 mpillar, aC (cs 0) (am 2) 12 mshut, aC (cs 0) (am 3) 96 mpk, aC (cs 0) (am 4) 96 mpf, aC (cs 0) (am 5) 96 mpn, aC (cs 0) (am 6) 96 mpr, aC (cs 0) (am 7) 96 mleft, aC (cs 0) (am 8) 96 mright, aC (cs 0) (am 9) 96 mtop, aC (cs 0) (am 10) 96 mbottom, aC (cs 0) (am 11) 96 mat, aC (cs 0) (am 12) 100 mrw, aC (cs 0) (am 13) 100 mrh, aC (cs 0) (am 14) 100 mrp, aC (cs 0) (am 15) 20 mcf, aC (cs 0) (am 16) 20 mcn, aC (cs 0) (am 17) 8 mdry] (C := RX8) (T := TX8) (N := 31) dX8_fetch_96 rfl iX8 tyX8_ok nmX8 L2 rfl rfl (by decide) rfl rfl rfl (Nat.le_of_ble_eq_true rfl) rfl ?_
              refine v_iload_n hC 100 3 dX8_fetch_99 rfl rfl rfl ?_
              refine v_istore hC 102 [(4, .int (iI fd)), (3, .int (iI (mcn fd))), (0, .ref (am 0)), (1, .int (iI x)), (2, .int (iI fd))] dX8_fetch_100 rfl (by decide) rfl ?_
              have cut_102 : ∀ (n : Nat) (k4 : Int) (cf2 : Int → Int) (cn2 : Int → Int), (fd ≤ k4 ∧ k4 ≤ mcrates - 1) → (cf2 = sh mcf fd (k4 + 1)) → (cn2 = sh mcn fd (k4 + 1)) → (mcrates - k4 < (n : Int)) → V p9 lx e9 ({ frames := 2, cells := 0, slots := 0, locals := 47 }) s9 m9 ar9 be9 me9 c9 Q9 D A9 s9.heap 5 0 0 [oM am mwide mhigh mborder mpattern mdoor mpieces mtiles mrests (mcrates - 1) (mmoves + (2 * (mcrates - 1 - fd))) manyLaid mgrout mhour 0, aC (cs 0) (am 1) 96 mpillar, aC (cs 0) (am 2) 12 mshut, aC (cs 0) (am 3) 96 mpk, aC (cs 0) (am 4) 96 mpf, aC (cs 0) (am 5) 96 mpn, aC (cs 0) (am 6) 96 mpr, aC (cs 0) (am 7) 96 mleft, aC (cs 0) (am 8) 96 mright, aC (cs 0) (am 9) 96 mtop, aC (cs 0) (am 10) 96 mbottom, aC (cs 0) (am 11) 96 mat, aC (cs 0) (am 12) 100 mrw, aC (cs 0) (am 13) 100 mrh, aC (cs 0) (am 14) 100 mrp, aC (cs 0) (am 15) 20 cf2, aC (cs 0) (am 16) 20 cn2, aC (cs 0) (am 17) 8 mdry] [(0, .ref (am 0)), (1, .int (iI x)), (2, .int (iI fd)), (3, .int (iI (mcn fd))), (4, .int (iI k4))] 102 [] := by
                intro n
                induction n with
                | zero =>
                  intro k4 cf2 cn2 hk4 hcf2 hcn2 hn
                  exfalso; omega
                | succ n ih =>
                  intro k4 cf2 cn2 hk4 hcf2 hcn2 hn
                  have ih_102 := ih
                  clear ih
                  refine v_iload hC 104 4 dX8_fetch_102 rfl rfl ?_
                  refine v_aload_n hC 105 0 dX8_fetch_104 rfl rfl rfl ?_
                  refine v_get hC 108 0 24 (C := RX8) (T := TX8) (N := 31) dX8_fetch_105 rfl iX8 L0 rfl rfl (by decide) rfl ?_
                  refine v_icmp_ge hC 149 111 dX8_fetch_108 (by decide) rfl (by omega) (by omega) (fun c_108 => ?_) (fun c_108 => ?_)
                  · skip
                    refine v_iload_n hC 150 3 dX8_fetch_149 rfl rfl rfl ?_
                    exact v_iret hC hQ (cf2, cn2, mmoves + (2 * (mcrates - 1 - fd)), mcrates - 1) [0, 1, 2, 3, 4, 5, 6, 7, 8, 9, 10, 11, 12, 13, 14, 15, 16, 17] dX8_fetch_150 rfl rfl ⟨by decide, by decide⟩ ⟨by (try dsimp only); all_goals (intro h; exfalso; omega), by (try dsimp only); all_goals (intro _; rw [ht9]; refine ⟨rfl, ?_, ?_, by omega, rfl⟩ <;> first | (rw [hcf2, show k4 + 1 = mcrates by omega]; done) | (rw [hcn2, show k4 + 1 = mcrates by omega]; done))⟩
                  · skip
                    refine v_aload_n hC 112 0 dX8_fetch_111 rfl rfl rfl ?_
                    refine v_get hC 115 0 22 (C := RX8) (T := TX8) (N := 31) dX8_fetch_112 rfl iX8 L3 rfl rfl (by decide) rfl ?_
                    refine v_iload hC 117 4 dX8_fetch_115 rfl rfl ?_
                    refine v_aload_n hC 118 0 dX8_fetch_117 rfl rfl rfl ?_
                    refine v_get hC 121 0 22 (C := RX8) (T := TX8) (N := 31) dX8_fetch_118 rfl iX8 L3 rfl rfl (by decide) rfl ?_
                    refine v_iload hC 123 4 dX8_fetch_121 rfl rfl ?_
                    refine v_iconst hC 124 dX8_fetch_123 rfl ?_
                    refine v_iadd hC 125 (k4 + 1) dX8_fetch_124 rfl rfl ?_
                    refine v_iald hC 126 15 dX8_fetch_125 rfl rfl (by decide) (by omega) ?_
                    refine v_iast hC 127 15 [oM am mwide mhigh mborder mpattern mdoor mpieces mtiles mrests (mcrates - 1) (mmoves + (2 * (mcrates - 1 - fd))) manyLaid mgrout mhour 0, aC (cs 0) (am 1) 96 mpillar, aC (cs 0) (am 2) 12 mshut, aC (cs 0) (am 3) 96 mpk, aC (cs 0) (am 4) 96 mpf, aC (cs 0) (am 5) 96 mpn, aC (cs 0) (am 6) 96 mpr, aC (cs 0) (am 7) 96 mleft, aC (cs 0) (am 8) 96 mright, aC (cs 0) (am 9) 96 mtop, aC (cs 0) (am 10) 96 mbottom, aC (cs 0) (am 11) 96 mat, aC (cs 0) (am 12) 100 mrw, aC (cs 0) (am 13) 100 mrh, aC (cs 0) (am 14) 100 mrp, aC (cs 0) (am 15) 20 (uI cf2 k4 (cf2 (k4 + 1))), aC (cs 0) (am 16) 20 cn2, aC (cs 0) (am 17) 8 mdry] dX8_fetch_126 rfl rfl (by decide) (by omega) rfl ?_
                    refine v_aload_n hC 128 0 dX8_fetch_127 rfl rfl rfl ?_
                    refine v_get hC 131 0 23 (C := RX8) (T := TX8) (N := 31) dX8_fetch_128 rfl iX8 L1 rfl rfl (by decide) rfl ?_
                    refine v_iload hC 133 4 dX8_fetch_131 rfl rfl ?_
                    refine v_aload_n hC 134 0 dX8_fetch_133 rfl rfl rfl ?_
                    refine v_get hC 137 0 23 (C := RX8) (T := TX8) (N := 31) dX8_fetch_134 rfl iX8 L1 rfl rfl (by decide) rfl ?_
                    refine v_iload hC 139 4 dX8_fetch_137 rfl rfl ?_
                    refine v_iconst hC 140 dX8_fetch_139 rfl ?_
                    refine v_iadd hC 141 (k4 + 1) dX8_fetch_140 rfl rfl ?_
                    refine v_iald hC 142 16 dX8_fetch_141 rfl rfl (by decide) (by omega) ?_
                    refine v_iast hC 143 16 [oM am mwide mhigh mborder mpattern mdoor mpieces mtiles mrests (mcrates - 1) (mmoves + (2 * (mcrates - 1 - fd))) manyLaid mgrout mhour 0, aC (cs 0) (am 1) 96 mpillar, aC (cs 0) (am 2) 12 mshut, aC (cs 0) (am 3) 96 mpk, aC (cs 0) (am 4) 96 mpf, aC (cs 0) (am 5) 96 mpn, aC (cs 0) (am 6) 96 mpr, aC (cs 0) (am 7) 96 mleft, aC (cs 0) (am 8) 96 mright, aC (cs 0) (am 9) 96 mtop, aC (cs 0) (am 10) 96 mbottom, aC (cs 0) (am 11) 96 mat, aC (cs 0) (am 12) 100 mrw, aC (cs 0) (am 13) 100 mrh, aC (cs 0) (am 14) 100 mrp, aC (cs 0) (am 15) 20 (uI cf2 k4 (cf2 (k4 + 1))), aC (cs 0) (am 16) 20 (uI cn2 k4 (cn2 (k4 + 1))), aC (cs 0) (am 17) 8 mdry] dX8_fetch_142 rfl rfl (by decide) (by omega) rfl ?_
                    refine v_iinc hC 146 4 [(4, .int (iI (k4 + 1))), (0, .ref (am 0)), (1, .int (iI x)), (2, .int (iI fd)), (3, .int (iI (mcn fd)))] dX8_fetch_143 rfl rfl (by decide) rfl ?_
                    refine v_goto hC 102 dX8_fetch_146 (by decide) ?_
                    exact v_sub [0, 1, 2, 3, 4, 5, 6, 7, 8, 9, 10, 11, 12, 13, 14, 15, 16, 17] [1, 2, 3, 4, 0] _ _ rfl rfl rfl (ih_102 (k4 + 1) (uI cf2 k4 (cf2 (k4 + 1))) (uI cn2 k4 (cn2 (k4 + 1))) (by omega) (by rw [hcf2, show sh mcf fd (k4 + 1) (k4 + 1) = mcf (k4 + 1) from sh_at mcf]; exact sh_step' mcf (by omega)) (by rw [hcn2, show sh mcn fd (k4 + 1) (k4 + 1) = mcn (k4 + 1) from sh_at mcn]; exact sh_step' mcn (by omega)) (by omega))
              exact v_sub [0, 1, 2, 3, 4, 5, 6, 7, 8, 9, 10, 11, 12, 13, 14, 15, 16, 17] [2, 3, 4, 1, 0] _ _ rfl rfl rfl (cut_102 (Int.toNat (mcrates - fd) + 1) fd mcf mcn (by omega) (by exact (sh_0 mcf fd).symm) (by exact (sh_0 mcn fd).symm) (by omega))
            · skip
              refine v_iconst hC 64 dX8_fetch_63 rfl ?_
              exact v_iret hC hQ (mcf, mcn, mmoves, mcrates) [0, 1, 2, 3, 4, 5, 6, 7, 8, 9, 10, 11, 12, 13, 14, 15, 16, 17] dX8_fetch_64 rfl rfl ⟨by decide, by decide⟩ ⟨by (try dsimp only); all_goals (intro _; exact ⟨rfl, rfl, rfl, rfl, rfl⟩), by (try dsimp only); all_goals (intro h; exfalso; omega)⟩
          · skip
            refine v_aload_n hC 38 0 dX8_fetch_37 rfl rfl rfl ?_
            refine v_get hC 41 0 22 (C := RX8) (T := TX8) (N := 31) dX8_fetch_38 rfl iX8 L3 rfl rfl (by decide) rfl ?_
            refine v_iload_n hC 42 3 dX8_fetch_41 rfl rfl rfl ?_
            refine v_iald hC 43 15 dX8_fetch_42 rfl rfl (by decide) (by omega) ?_
            have r_42 := hcf k
            refine v_iload_n hC 44 1 dX8_fetch_43 rfl rfl rfl ?_
            refine v_icmp_ne hC 51 47 dX8_fetch_44 (by decide) rfl (by omega) (by omega) (fun c_44 => ?_) (fun c_44 => ?_)
            · skip
              refine v_iload_n hC 52 2 dX8_fetch_51 rfl rfl rfl ?_
              refine v_istore_n hC 53 [(2, .int (iI fd)), (0, .ref (am 0)), (1, .int (iI x)), (3, .int (iI k))] dX8_fetch_52 rfl rfl (by decide) rfl ?_
              refine v_iinc hC 56 3 [(3, .int (iI (k + 1))), (2, .int (iI fd)), (0, .ref (am 0)), (1, .int (iI x))] dX8_fetch_53 rfl rfl (by decide) rfl ?_
              refine v_goto hC 29 dX8_fetch_56 (by decide) ?_
              exact v_sub [0, 1, 2, 3, 4, 5, 6, 7, 8, 9, 10, 11, 12, 13, 14, 15, 16, 17] [2, 3, 1, 0] _ _ rfl rfl rfl (ih_29 fd (k + 1) (by omega) (by omega) (by rw [tp_I hk.1, ← hfd]; first | (rw [if_pos (by omega)]; done) | (rw [if_neg (by omega)]; done)) (by omega))
            · skip
              refine v_iload_n hC 48 3 dX8_fetch_47 rfl rfl rfl ?_
              refine v_goto hC 52 dX8_fetch_48 (by decide) ?_
              refine v_istore_n hC 53 [(2, .int (iI k)), (0, .ref (am 0)), (1, .int (iI x)), (3, .int (iI k))] dX8_fetch_52 rfl rfl (by decide) rfl ?_
              refine v_iinc hC 56 3 [(3, .int (iI (k + 1))), (2, .int (iI k)), (0, .ref (am 0)), (1, .int (iI x))] dX8_fetch_53 rfl rfl (by decide) rfl ?_
              refine v_goto hC 29 dX8_fetch_56 (by decide) ?_
              exact v_sub [0, 1, 2, 3, 4, 5, 6, 7, 8, 9, 10, 11, 12, 13, 14, 15, 16, 17] [2, 3, 1, 0] _ _ rfl rfl rfl (ih_29 k (k + 1) (by omega) (by omega) (by rw [tp_I hk.1, ← hfd]; first | (rw [if_pos (by omega)]; done) | (rw [if_neg (by omega)]; done)) (by omega))
      exact v_sub [0, 1, 2, 3, 4, 5, 6, 7, 8, 9, 10, 11, 12, 13, 14, 15, 16, 17] [2, 3, 1, 0] _ _ rfl rfl rfl (cut_29 (Int.toNat (mcrates - 0) + 1) (-1) 0 (by omega) (by omega) (by rfl) (by omega))
    · exfalso; omega

set_option maxHeartbeats 4000000 in
set_option maxRecDepth 100000 in
theorem n_X8_fetch (lx : Launch) (D : va_G) (cs : Nat → ClassId) (am : Nat → Nat) (mwide : Int) (mhigh : Int) (mborder : Int) (mpattern : Int) (mdoor : Int) (mpieces : Int) (mtiles : Int) (mrests : Int) (mcrates : Int) (mmoves : Int) (manyLaid : Int) (mgrout : Int) (mhour : Int) (mthrown : Int) (mpillar : Int → Int) (mshut : Int → Int) (mpk : Int → Int) (mpf : Int → Int) (mpn : Int → Int) (mpr : Int → Int) (mleft : Int → Int) (mright : Int → Int) (mtop : Int → Int) (mbottom : Int → Int) (mat : Int → Int) (mrw : Int → Int) (mrh : Int → Int) (mrp : Int → Int) (mcf : Int → Int) (mcn : Int → Int) (mdry : Int → Int) (x : Int) (r1 : -2147483648 ≤ x ∧ x < 2147483648) (hno : ¬ (0 ≤ x ∧ x ≤ 9)) : Ci lx D cs yX8_fetch wsX8_fetch ({ frames := 2, cells := 0, slots := 0, locals := 47 }) [.ref (am 0), .int (iI x)] [oM am mwide mhigh mborder mpattern mdoor mpieces mtiles mrests mcrates mmoves manyLaid mgrout mhour mthrown, aC (cs 0) (am 1) 96 mpillar, aC (cs 0) (am 2) 12 mshut, aC (cs 0) (am 3) 96 mpk, aC (cs 0) (am 4) 96 mpf, aC (cs 0) (am 5) 96 mpn, aC (cs 0) (am 6) 96 mpr, aC (cs 0) (am 7) 96 mleft, aC (cs 0) (am 8) 96 mright, aC (cs 0) (am 9) 96 mtop, aC (cs 0) (am 10) 96 mbottom, aC (cs 0) (am 11) 96 mat, aC (cs 0) (am 12) 100 mrw, aC (cs 0) (am 13) 100 mrh, aC (cs 0) (am 14) 100 mrp, aC (cs 0) (am 15) 20 mcf, aC (cs 0) (am 16) 20 mcn, aC (cs 0) (am 17) 8 mdry] (fun (z : Int) (u : Unit) => True) (fun u : Unit => [oM am mwide mhigh mborder mpattern mdoor mpieces mtiles mrests mcrates mmoves manyLaid mgrout mhour 1, aC (cs 0) (am 1) 96 mpillar, aC (cs 0) (am 2) 12 mshut, aC (cs 0) (am 3) 96 mpk, aC (cs 0) (am 4) 96 mpf, aC (cs 0) (am 5) 96 mpn, aC (cs 0) (am 6) 96 mpr, aC (cs 0) (am 7) 96 mleft, aC (cs 0) (am 8) 96 mright, aC (cs 0) (am 9) 96 mtop, aC (cs 0) (am 10) 96 mbottom, aC (cs 0) (am 11) 96 mat, aC (cs 0) (am 12) 100 mrw, aC (cs 0) (am 13) 100 mrh, aC (cs 0) (am 14) 100 mrp, aC (cs 0) (am 15) 20 mcf, aC (cs 0) (am 16) 20 mcn, aC (cs 0) (am 17) 8 mdry]) 0 0 := by
  refine Ci_of (cc := cX8_fetch) (nL := 5) (ret := (some .int)) (lv0 := [(0, .ref (am 0)), (1, .int (iI x))]) RX8 "fetch" (by decide +kernel) rfl (Nat.le_of_ble_eq_true rfl) rfl (fun p9 e9 s9 m9 ar9 be9 me9 c9 A9 Q9 hQ hC => ?_)
  refine v_aload_n hC 1 0 dX8_fetch_0 rfl rfl rfl ?_
  refine v_aload_n hC 2 0 dX8_fetch_1 rfl rfl rfl ?_
  refine v_iload_n hC 3 1 dX8_fetch_2 rfl rfl rfl ?_
  refine v_iconst hC 4 dX8_fetch_3 rfl ?_
  refine v_bipush hC 6 dX8_fetch_4 rfl rfl ?_
  refine v_callVi hC 9 3 [0, 1, 2, 3, 4, 5, 6, 7, 8, 9, 10, 11, 12, 13, 14, 15, 16, 17] [] [] (As := [.int (iI x), .int (iI 0), .int (iI 9)]) (rest := [.ref (am 0)]) (c_X8_in lx D cs am mwide mhigh mborder mpattern mdoor mpieces mtiles mrests mcrates mmoves manyLaid mgrout mhour mthrown mpillar mshut mpk mpf mpn mpr mleft mright mtop mbottom mat mrw mrh mrp mcf mcn mdry x 0 9 (by omega) (by omega) (by omega)) dX8_fetch_6 rfl rfl 0 rfl rfl gX8_fetch_X8_in rfl rfl rfl (by decide +kernel) ⟨by decide, by decide⟩ rfl rfl rfl rfl (by decide) rfl (Nat.le_of_ble_eq_true rfl) ⟨rfl, rfl⟩ ⟨by decide, by decide⟩ (fun z6 u6 h6 => ?_)
  (try dsimp only at h6)
  obtain ⟨h6_1, h6_2⟩ := h6
  show V p9 lx e9 ({ frames := 2, cells := 0, slots := 0, locals := 47 }) s9 m9 ar9 be9 me9 c9 Q9 D A9 s9.heap 5 0 0 [oM am mwide mhigh mborder mpattern mdoor mpieces mtiles mrests mcrates mmoves manyLaid mgrout mhour mthrown, aC (cs 0) (am 1) 96 mpillar, aC (cs 0) (am 2) 12 mshut, aC (cs 0) (am 3) 96 mpk, aC (cs 0) (am 4) 96 mpf, aC (cs 0) (am 5) 96 mpn, aC (cs 0) (am 6) 96 mpr, aC (cs 0) (am 7) 96 mleft, aC (cs 0) (am 8) 96 mright, aC (cs 0) (am 9) 96 mtop, aC (cs 0) (am 10) 96 mbottom, aC (cs 0) (am 11) 96 mat, aC (cs 0) (am 12) 100 mrw, aC (cs 0) (am 13) 100 mrh, aC (cs 0) (am 14) 100 mrp, aC (cs 0) (am 15) 20 mcf, aC (cs 0) (am 16) 20 mcn, aC (cs 0) (am 17) 8 mdry] [(0, .ref (am 0)), (1, .int (iI x))] 9 [.int (iI z6), .ref (am 0)]
  refine v_if_eq hC 16 12 dX8_fetch_9 (by decide) rfl (by omega) (fun c_9 => ?_) (fun c_9 => ?_)
  · skip
    refine v_iconst hC 17 dX8_fetch_16 rfl ?_
    refine v_callVi hC 20 1 [0, 1, 2, 3, 4, 5, 6, 7, 8, 9, 10, 11, 12, 13, 14, 15, 16, 17] [] [] (As := [.int (iI 1)]) (rest := []) (c_X8_holds lx D cs am mwide mhigh mborder mpattern mdoor mpieces mtiles mrests mcrates mmoves manyLaid mgrout mhour mthrown mpillar mshut mpk mpf mpn mpr mleft mright mtop mbottom mat mrw mrh mrp mcf mcn mdry 1 (by omega)) dX8_fetch_17 rfl rfl 0 rfl rfl gX8_fetch_X8_holds rfl rfl rfl (by decide +kernel) ⟨by decide, by decide⟩ rfl rfl rfl rfl (by decide) rfl (Nat.le_of_ble_eq_true rfl) ⟨rfl, rfl⟩ ⟨by decide, by decide⟩ (fun z17 u17 h17 => ?_)
    (try dsimp only at h17)
    obtain ⟨h17_1, h17_2⟩ := h17
    show V p9 lx e9 ({ frames := 2, cells := 0, slots := 0, locals := 47 }) s9 m9 ar9 be9 me9 c9 Q9 D A9 s9.heap 5 0 0 [oM am mwide mhigh mborder mpattern mdoor mpieces mtiles mrests mcrates mmoves manyLaid mgrout mhour 1, aC (cs 0) (am 1) 96 mpillar, aC (cs 0) (am 2) 12 mshut, aC (cs 0) (am 3) 96 mpk, aC (cs 0) (am 4) 96 mpf, aC (cs 0) (am 5) 96 mpn, aC (cs 0) (am 6) 96 mpr, aC (cs 0) (am 7) 96 mleft, aC (cs 0) (am 8) 96 mright, aC (cs 0) (am 9) 96 mtop, aC (cs 0) (am 10) 96 mbottom, aC (cs 0) (am 11) 96 mat, aC (cs 0) (am 12) 100 mrw, aC (cs 0) (am 13) 100 mrh, aC (cs 0) (am 14) 100 mrp, aC (cs 0) (am 15) 20 mcf, aC (cs 0) (am 16) 20 mcn, aC (cs 0) (am 17) 8 mdry] [(0, .ref (am 0)), (1, .int (iI x))] 20 [.int (iI z17)]
    refine v_if_eq hC 25 23 dX8_fetch_20 (by decide) rfl (by omega) (fun c_20 => ?_) (fun c_20 => ?_)
    · exfalso; omega
    · skip
      refine v_iconst hC 24 dX8_fetch_23 rfl ?_
      exact v_iret hC hQ () [0, 1, 2, 3, 4, 5, 6, 7, 8, 9, 10, 11, 12, 13, 14, 15, 16, 17] dX8_fetch_24 rfl rfl ⟨by decide, by decide⟩ trivial
  · exfalso; omega

set_option maxHeartbeats 4000000 in
set_option maxRecDepth 100000 in
theorem c_X8_grout (lx : Launch) (D : va_G) (cs : Nat → ClassId) (am : Nat → Nat) (mwide : Int) (mhigh : Int) (mborder : Int) (mpattern : Int) (mdoor : Int) (mpieces : Int) (mtiles : Int) (mrests : Int) (mcrates : Int) (mmoves : Int) (manyLaid : Int) (mgrout : Int) (mhour : Int) (mthrown : Int) (mpillar : Int → Int) (mshut : Int → Int) (mpk : Int → Int) (mpf : Int → Int) (mpn : Int → Int) (mpr : Int → Int) (mleft : Int → Int) (mright : Int → Int) (mtop : Int → Int) (mbottom : Int → Int) (mat : Int → Int) (mrw : Int → Int) (mrh : Int → Int) (mrp : Int → Int) (mcf : Int → Int) (mcn : Int → Int) (mdry : Int → Int) (x : Int) (r1 : -2147483648 ≤ x ∧ x < 2147483648) (hok : 0 ≤ x ∧ x ≤ 48) : Ci lx D cs yX8_grout wsX8_grout ({ frames := 2, cells := 0, slots := 0, locals := 47 }) [.ref (am 0), .int (iI x)] [oM am mwide mhigh mborder mpattern mdoor mpieces mtiles mrests mcrates mmoves manyLaid mgrout mhour mthrown, aC (cs 0) (am 1) 96 mpillar, aC (cs 0) (am 2) 12 mshut, aC (cs 0) (am 3) 96 mpk, aC (cs 0) (am 4) 96 mpf, aC (cs 0) (am 5) 96 mpn, aC (cs 0) (am 6) 96 mpr, aC (cs 0) (am 7) 96 mleft, aC (cs 0) (am 8) 96 mright, aC (cs 0) (am 9) 96 mtop, aC (cs 0) (am 10) 96 mbottom, aC (cs 0) (am 11) 96 mat, aC (cs 0) (am 12) 100 mrw, aC (cs 0) (am 13) 100 mrh, aC (cs 0) (am 14) 100 mrp, aC (cs 0) (am 15) 20 mcf, aC (cs 0) (am 16) 20 mcn, aC (cs 0) (am 17) 8 mdry] (fun (z : Int) (u : Unit) => (z = mgrout)) (fun u : Unit => [oM am mwide mhigh mborder mpattern mdoor mpieces mtiles mrests mcrates mmoves manyLaid x mhour 0, aC (cs 0) (am 1) 96 mpillar, aC (cs 0) (am 2) 12 mshut, aC (cs 0) (am 3) 96 mpk, aC (cs 0) (am 4) 96 mpf, aC (cs 0) (am 5) 96 mpn, aC (cs 0) (am 6) 96 mpr, aC (cs 0) (am 7) 96 mleft, aC (cs 0) (am 8) 96 mright, aC (cs 0) (am 9) 96 mtop, aC (cs 0) (am 10) 96 mbottom, aC (cs 0) (am 11) 96 mat, aC (cs 0) (am 12) 100 mrw, aC (cs 0) (am 13) 100 mrh, aC (cs 0) (am 14) 100 mrp, aC (cs 0) (am 15) 20 mcf, aC (cs 0) (am 16) 20 mcn, aC (cs 0) (am 17) 8 mdry]) 0 0 := by
  refine Ci_of (cc := cX8_grout) (nL := 3) (ret := (some .int)) (lv0 := [(0, .ref (am 0)), (1, .int (iI x))]) RX8 "grout" (by decide +kernel) rfl (Nat.le_of_ble_eq_true rfl) rfl (fun p9 e9 s9 m9 ar9 be9 me9 c9 A9 Q9 hQ hC => ?_)
  have iX8 : ∀ w ∈ wsX80, w ∈ wsX8_grout := by decide +kernel
  have L0 : Cond.fieldLink RX8 68 "GroutlineModel" "grout" "I" ∈ wsX8_grout := by decide +kernel
  refine v_aload_n hC 1 0 dX8_grout_0 rfl rfl rfl ?_
  refine v_aload_n hC 2 0 dX8_grout_1 rfl rfl rfl ?_
  refine v_iload_n hC 3 1 dX8_grout_2 rfl rfl rfl ?_
  refine v_iconst hC 4 dX8_grout_3 rfl ?_
  refine v_bipush hC 6 dX8_grout_4 rfl rfl ?_
  refine v_callVi hC 9 3 [0, 1, 2, 3, 4, 5, 6, 7, 8, 9, 10, 11, 12, 13, 14, 15, 16, 17] [] [] (As := [.int (iI x), .int (iI 0), .int (iI 48)]) (rest := [.ref (am 0)]) (c_X8_in lx D cs am mwide mhigh mborder mpattern mdoor mpieces mtiles mrests mcrates mmoves manyLaid mgrout mhour mthrown mpillar mshut mpk mpf mpn mpr mleft mright mtop mbottom mat mrw mrh mrp mcf mcn mdry x 0 48 (by omega) (by omega) (by omega)) dX8_grout_6 rfl rfl 0 rfl rfl gX8_grout_X8_in rfl rfl rfl (by decide +kernel) ⟨by decide, by decide⟩ rfl rfl rfl rfl (by decide) rfl (Nat.le_of_ble_eq_true rfl) ⟨rfl, rfl⟩ ⟨by decide, by decide⟩ (fun z6 u6 h6 => ?_)
  (try dsimp only at h6)
  obtain ⟨h6_1, h6_2⟩ := h6
  show V p9 lx e9 ({ frames := 2, cells := 0, slots := 0, locals := 47 }) s9 m9 ar9 be9 me9 c9 Q9 D A9 s9.heap 3 0 0 [oM am mwide mhigh mborder mpattern mdoor mpieces mtiles mrests mcrates mmoves manyLaid mgrout mhour mthrown, aC (cs 0) (am 1) 96 mpillar, aC (cs 0) (am 2) 12 mshut, aC (cs 0) (am 3) 96 mpk, aC (cs 0) (am 4) 96 mpf, aC (cs 0) (am 5) 96 mpn, aC (cs 0) (am 6) 96 mpr, aC (cs 0) (am 7) 96 mleft, aC (cs 0) (am 8) 96 mright, aC (cs 0) (am 9) 96 mtop, aC (cs 0) (am 10) 96 mbottom, aC (cs 0) (am 11) 96 mat, aC (cs 0) (am 12) 100 mrw, aC (cs 0) (am 13) 100 mrh, aC (cs 0) (am 14) 100 mrp, aC (cs 0) (am 15) 20 mcf, aC (cs 0) (am 16) 20 mcn, aC (cs 0) (am 17) 8 mdry] [(0, .ref (am 0)), (1, .int (iI x))] 9 [.int (iI z6), .ref (am 0)]
  refine v_if_eq hC 16 12 dX8_grout_9 (by decide) rfl (by omega) (fun c_9 => ?_) (fun c_9 => ?_)
  · exfalso; omega
  · skip
    refine v_iconst hC 13 dX8_grout_12 rfl ?_
    refine v_goto hC 17 dX8_grout_13 (by decide) ?_
    refine v_callVi hC 20 1 [0, 1, 2, 3, 4, 5, 6, 7, 8, 9, 10, 11, 12, 13, 14, 15, 16, 17] [] [] (As := [.int (iI 0)]) (rest := []) (c_X8_holds lx D cs am mwide mhigh mborder mpattern mdoor mpieces mtiles mrests mcrates mmoves manyLaid mgrout mhour mthrown mpillar mshut mpk mpf mpn mpr mleft mright mtop mbottom mat mrw mrh mrp mcf mcn mdry 0 (by omega)) dX8_grout_17 rfl rfl 0 rfl rfl gX8_grout_X8_holds rfl rfl rfl (by decide +kernel) ⟨by decide, by decide⟩ rfl rfl rfl rfl (by decide) rfl (Nat.le_of_ble_eq_true rfl) ⟨rfl, rfl⟩ ⟨by decide, by decide⟩ (fun z17 u17 h17 => ?_)
    (try dsimp only at h17)
    obtain ⟨h17_1, h17_2⟩ := h17
    show V p9 lx e9 ({ frames := 2, cells := 0, slots := 0, locals := 47 }) s9 m9 ar9 be9 me9 c9 Q9 D A9 s9.heap 3 0 0 [oM am mwide mhigh mborder mpattern mdoor mpieces mtiles mrests mcrates mmoves manyLaid mgrout mhour 0, aC (cs 0) (am 1) 96 mpillar, aC (cs 0) (am 2) 12 mshut, aC (cs 0) (am 3) 96 mpk, aC (cs 0) (am 4) 96 mpf, aC (cs 0) (am 5) 96 mpn, aC (cs 0) (am 6) 96 mpr, aC (cs 0) (am 7) 96 mleft, aC (cs 0) (am 8) 96 mright, aC (cs 0) (am 9) 96 mtop, aC (cs 0) (am 10) 96 mbottom, aC (cs 0) (am 11) 96 mat, aC (cs 0) (am 12) 100 mrw, aC (cs 0) (am 13) 100 mrh, aC (cs 0) (am 14) 100 mrp, aC (cs 0) (am 15) 20 mcf, aC (cs 0) (am 16) 20 mcn, aC (cs 0) (am 17) 8 mdry] [(0, .ref (am 0)), (1, .int (iI x))] 20 [.int (iI z17)]
    refine v_if_eq hC 25 23 dX8_grout_20 (by decide) rfl (by omega) (fun c_20 => ?_) (fun c_20 => ?_)
    · skip
      refine v_aload_n hC 26 0 dX8_grout_25 rfl rfl rfl ?_
      refine v_get hC 29 0 28 (C := RX8) (T := TX8) (N := 31) dX8_grout_26 rfl iX8 L0 rfl rfl (by decide) rfl ?_
      refine v_istore_n hC 30 [(2, .int (iI mgrout)), (0, .ref (am 0)), (1, .int (iI x))] dX8_grout_29 rfl rfl (by decide) rfl ?_
      refine v_aload_n hC 31 1 dX8_grout_30 rfl rfl rfl ?_
      refine v_iload_n hC 32 2 dX8_grout_31 rfl rfl rfl ?_
      refine v_put hC 35 0 28 [oM am mwide mhigh mborder mpattern mdoor mpieces mtiles mrests mcrates mmoves manyLaid x mhour 0, aC (cs 0) (am 1) 96 mpillar, aC (cs 0) (am 2) 12 mshut, aC (cs 0) (am 3) 96 mpk, aC (cs 0) (am 4) 96 mpf, aC (cs 0) (am 5) 96 mpn, aC (cs 0) (am 6) 96 mpr, aC (cs 0) (am 7) 96 mleft, aC (cs 0) (am 8) 96 mright, aC (cs 0) (am 9) 96 mtop, aC (cs 0) (am 10) 96 mbottom, aC (cs 0) (am 11) 96 mat, aC (cs 0) (am 12) 100 mrw, aC (cs 0) (am 13) 100 mrh, aC (cs 0) (am 14) 100 mrp, aC (cs 0) (am 15) 20 mcf, aC (cs 0) (am 16) 20 mcn, aC (cs 0) (am 17) 8 mdry] (C := RX8) (T := TX8) (N := 31) dX8_grout_32 rfl iX8 tyX8_ok nmX8 L0 rfl rfl (by decide) rfl rfl rfl (Nat.le_of_ble_eq_true rfl) rfl ?_
      refine v_iload_n hC 36 0 dX8_grout_35 rfl rfl rfl ?_
      exact v_iret hC hQ () [0, 1, 2, 3, 4, 5, 6, 7, 8, 9, 10, 11, 12, 13, 14, 15, 16, 17] dX8_grout_36 rfl rfl ⟨by decide, by decide⟩ (by (try dsimp only); all_goals (first | rfl | omega))
    · exfalso; omega

set_option maxHeartbeats 4000000 in
set_option maxRecDepth 100000 in
theorem n_X8_grout (lx : Launch) (D : va_G) (cs : Nat → ClassId) (am : Nat → Nat) (mwide : Int) (mhigh : Int) (mborder : Int) (mpattern : Int) (mdoor : Int) (mpieces : Int) (mtiles : Int) (mrests : Int) (mcrates : Int) (mmoves : Int) (manyLaid : Int) (mgrout : Int) (mhour : Int) (mthrown : Int) (mpillar : Int → Int) (mshut : Int → Int) (mpk : Int → Int) (mpf : Int → Int) (mpn : Int → Int) (mpr : Int → Int) (mleft : Int → Int) (mright : Int → Int) (mtop : Int → Int) (mbottom : Int → Int) (mat : Int → Int) (mrw : Int → Int) (mrh : Int → Int) (mrp : Int → Int) (mcf : Int → Int) (mcn : Int → Int) (mdry : Int → Int) (x : Int) (r1 : -2147483648 ≤ x ∧ x < 2147483648) (hno : ¬ (0 ≤ x ∧ x ≤ 48)) : Ci lx D cs yX8_grout wsX8_grout ({ frames := 2, cells := 0, slots := 0, locals := 47 }) [.ref (am 0), .int (iI x)] [oM am mwide mhigh mborder mpattern mdoor mpieces mtiles mrests mcrates mmoves manyLaid mgrout mhour mthrown, aC (cs 0) (am 1) 96 mpillar, aC (cs 0) (am 2) 12 mshut, aC (cs 0) (am 3) 96 mpk, aC (cs 0) (am 4) 96 mpf, aC (cs 0) (am 5) 96 mpn, aC (cs 0) (am 6) 96 mpr, aC (cs 0) (am 7) 96 mleft, aC (cs 0) (am 8) 96 mright, aC (cs 0) (am 9) 96 mtop, aC (cs 0) (am 10) 96 mbottom, aC (cs 0) (am 11) 96 mat, aC (cs 0) (am 12) 100 mrw, aC (cs 0) (am 13) 100 mrh, aC (cs 0) (am 14) 100 mrp, aC (cs 0) (am 15) 20 mcf, aC (cs 0) (am 16) 20 mcn, aC (cs 0) (am 17) 8 mdry] (fun (z : Int) (u : Unit) => True) (fun u : Unit => [oM am mwide mhigh mborder mpattern mdoor mpieces mtiles mrests mcrates mmoves manyLaid mgrout mhour 1, aC (cs 0) (am 1) 96 mpillar, aC (cs 0) (am 2) 12 mshut, aC (cs 0) (am 3) 96 mpk, aC (cs 0) (am 4) 96 mpf, aC (cs 0) (am 5) 96 mpn, aC (cs 0) (am 6) 96 mpr, aC (cs 0) (am 7) 96 mleft, aC (cs 0) (am 8) 96 mright, aC (cs 0) (am 9) 96 mtop, aC (cs 0) (am 10) 96 mbottom, aC (cs 0) (am 11) 96 mat, aC (cs 0) (am 12) 100 mrw, aC (cs 0) (am 13) 100 mrh, aC (cs 0) (am 14) 100 mrp, aC (cs 0) (am 15) 20 mcf, aC (cs 0) (am 16) 20 mcn, aC (cs 0) (am 17) 8 mdry]) 0 0 := by
  refine Ci_of (cc := cX8_grout) (nL := 3) (ret := (some .int)) (lv0 := [(0, .ref (am 0)), (1, .int (iI x))]) RX8 "grout" (by decide +kernel) rfl (Nat.le_of_ble_eq_true rfl) rfl (fun p9 e9 s9 m9 ar9 be9 me9 c9 A9 Q9 hQ hC => ?_)
  refine v_aload_n hC 1 0 dX8_grout_0 rfl rfl rfl ?_
  refine v_aload_n hC 2 0 dX8_grout_1 rfl rfl rfl ?_
  refine v_iload_n hC 3 1 dX8_grout_2 rfl rfl rfl ?_
  refine v_iconst hC 4 dX8_grout_3 rfl ?_
  refine v_bipush hC 6 dX8_grout_4 rfl rfl ?_
  refine v_callVi hC 9 3 [0, 1, 2, 3, 4, 5, 6, 7, 8, 9, 10, 11, 12, 13, 14, 15, 16, 17] [] [] (As := [.int (iI x), .int (iI 0), .int (iI 48)]) (rest := [.ref (am 0)]) (c_X8_in lx D cs am mwide mhigh mborder mpattern mdoor mpieces mtiles mrests mcrates mmoves manyLaid mgrout mhour mthrown mpillar mshut mpk mpf mpn mpr mleft mright mtop mbottom mat mrw mrh mrp mcf mcn mdry x 0 48 (by omega) (by omega) (by omega)) dX8_grout_6 rfl rfl 0 rfl rfl gX8_grout_X8_in rfl rfl rfl (by decide +kernel) ⟨by decide, by decide⟩ rfl rfl rfl rfl (by decide) rfl (Nat.le_of_ble_eq_true rfl) ⟨rfl, rfl⟩ ⟨by decide, by decide⟩ (fun z6 u6 h6 => ?_)
  (try dsimp only at h6)
  obtain ⟨h6_1, h6_2⟩ := h6
  show V p9 lx e9 ({ frames := 2, cells := 0, slots := 0, locals := 47 }) s9 m9 ar9 be9 me9 c9 Q9 D A9 s9.heap 3 0 0 [oM am mwide mhigh mborder mpattern mdoor mpieces mtiles mrests mcrates mmoves manyLaid mgrout mhour mthrown, aC (cs 0) (am 1) 96 mpillar, aC (cs 0) (am 2) 12 mshut, aC (cs 0) (am 3) 96 mpk, aC (cs 0) (am 4) 96 mpf, aC (cs 0) (am 5) 96 mpn, aC (cs 0) (am 6) 96 mpr, aC (cs 0) (am 7) 96 mleft, aC (cs 0) (am 8) 96 mright, aC (cs 0) (am 9) 96 mtop, aC (cs 0) (am 10) 96 mbottom, aC (cs 0) (am 11) 96 mat, aC (cs 0) (am 12) 100 mrw, aC (cs 0) (am 13) 100 mrh, aC (cs 0) (am 14) 100 mrp, aC (cs 0) (am 15) 20 mcf, aC (cs 0) (am 16) 20 mcn, aC (cs 0) (am 17) 8 mdry] [(0, .ref (am 0)), (1, .int (iI x))] 9 [.int (iI z6), .ref (am 0)]
  refine v_if_eq hC 16 12 dX8_grout_9 (by decide) rfl (by omega) (fun c_9 => ?_) (fun c_9 => ?_)
  · skip
    refine v_iconst hC 17 dX8_grout_16 rfl ?_
    refine v_callVi hC 20 1 [0, 1, 2, 3, 4, 5, 6, 7, 8, 9, 10, 11, 12, 13, 14, 15, 16, 17] [] [] (As := [.int (iI 1)]) (rest := []) (c_X8_holds lx D cs am mwide mhigh mborder mpattern mdoor mpieces mtiles mrests mcrates mmoves manyLaid mgrout mhour mthrown mpillar mshut mpk mpf mpn mpr mleft mright mtop mbottom mat mrw mrh mrp mcf mcn mdry 1 (by omega)) dX8_grout_17 rfl rfl 0 rfl rfl gX8_grout_X8_holds rfl rfl rfl (by decide +kernel) ⟨by decide, by decide⟩ rfl rfl rfl rfl (by decide) rfl (Nat.le_of_ble_eq_true rfl) ⟨rfl, rfl⟩ ⟨by decide, by decide⟩ (fun z17 u17 h17 => ?_)
    (try dsimp only at h17)
    obtain ⟨h17_1, h17_2⟩ := h17
    show V p9 lx e9 ({ frames := 2, cells := 0, slots := 0, locals := 47 }) s9 m9 ar9 be9 me9 c9 Q9 D A9 s9.heap 3 0 0 [oM am mwide mhigh mborder mpattern mdoor mpieces mtiles mrests mcrates mmoves manyLaid mgrout mhour 1, aC (cs 0) (am 1) 96 mpillar, aC (cs 0) (am 2) 12 mshut, aC (cs 0) (am 3) 96 mpk, aC (cs 0) (am 4) 96 mpf, aC (cs 0) (am 5) 96 mpn, aC (cs 0) (am 6) 96 mpr, aC (cs 0) (am 7) 96 mleft, aC (cs 0) (am 8) 96 mright, aC (cs 0) (am 9) 96 mtop, aC (cs 0) (am 10) 96 mbottom, aC (cs 0) (am 11) 96 mat, aC (cs 0) (am 12) 100 mrw, aC (cs 0) (am 13) 100 mrh, aC (cs 0) (am 14) 100 mrp, aC (cs 0) (am 15) 20 mcf, aC (cs 0) (am 16) 20 mcn, aC (cs 0) (am 17) 8 mdry] [(0, .ref (am 0)), (1, .int (iI x))] 20 [.int (iI z17)]
    refine v_if_eq hC 25 23 dX8_grout_20 (by decide) rfl (by omega) (fun c_20 => ?_) (fun c_20 => ?_)
    · exfalso; omega
    · skip
      refine v_iconst hC 24 dX8_grout_23 rfl ?_
      exact v_iret hC hQ () [0, 1, 2, 3, 4, 5, 6, 7, 8, 9, 10, 11, 12, 13, 14, 15, 16, 17] dX8_grout_24 rfl rfl ⟨by decide, by decide⟩ trivial
  · exfalso; omega

set_option maxHeartbeats 4000000 in
set_option maxRecDepth 100000 in
theorem c_X8_pass (lx : Launch) (D : va_G) (cs : Nat → ClassId) (am : Nat → Nat) (mwide : Int) (mhigh : Int) (mborder : Int) (mpattern : Int) (mdoor : Int) (mpieces : Int) (mtiles : Int) (mrests : Int) (mcrates : Int) (mmoves : Int) (manyLaid : Int) (mgrout : Int) (mhour : Int) (mthrown : Int) (mpillar : Int → Int) (mshut : Int → Int) (mpk : Int → Int) (mpf : Int → Int) (mpn : Int → Int) (mpr : Int → Int) (mleft : Int → Int) (mright : Int → Int) (mtop : Int → Int) (mbottom : Int → Int) (mat : Int → Int) (mrw : Int → Int) (mrh : Int → Int) (mrp : Int → Int) (mcf : Int → Int) (mcn : Int → Int) (mdry : Int → Int) (x : Int) (r1 : -2147483648 ≤ x ∧ x < 2147483648) (hok : 1 ≤ x ∧ x ≤ 100) : Ci lx D cs yX8_pass wsX8_pass ({ frames := 2, cells := 0, slots := 0, locals := 47 }) [.ref (am 0), .int (iI x)] [oM am mwide mhigh mborder mpattern mdoor mpieces mtiles mrests mcrates mmoves manyLaid mgrout mhour mthrown, aC (cs 0) (am 1) 96 mpillar, aC (cs 0) (am 2) 12 mshut, aC (cs 0) (am 3) 96 mpk, aC (cs 0) (am 4) 96 mpf, aC (cs 0) (am 5) 96 mpn, aC (cs 0) (am 6) 96 mpr, aC (cs 0) (am 7) 96 mleft, aC (cs 0) (am 8) 96 mright, aC (cs 0) (am 9) 96 mtop, aC (cs 0) (am 10) 96 mbottom, aC (cs 0) (am 11) 96 mat, aC (cs 0) (am 12) 100 mrw, aC (cs 0) (am 13) 100 mrh, aC (cs 0) (am 14) 100 mrp, aC (cs 0) (am 15) 20 mcf, aC (cs 0) (am 16) 20 mcn, aC (cs 0) (am 17) 8 mdry] (fun (z : Int) (u : Unit) => (z = mhour + x)) (fun u : Unit => [oM am mwide mhigh mborder mpattern mdoor mpieces mtiles mrests mcrates mmoves manyLaid mgrout (mhour + x) 0, aC (cs 0) (am 1) 96 mpillar, aC (cs 0) (am 2) 12 mshut, aC (cs 0) (am 3) 96 mpk, aC (cs 0) (am 4) 96 mpf, aC (cs 0) (am 5) 96 mpn, aC (cs 0) (am 6) 96 mpr, aC (cs 0) (am 7) 96 mleft, aC (cs 0) (am 8) 96 mright, aC (cs 0) (am 9) 96 mtop, aC (cs 0) (am 10) 96 mbottom, aC (cs 0) (am 11) 96 mat, aC (cs 0) (am 12) 100 mrw, aC (cs 0) (am 13) 100 mrh, aC (cs 0) (am 14) 100 mrp, aC (cs 0) (am 15) 20 mcf, aC (cs 0) (am 16) 20 mcn, aC (cs 0) (am 17) 8 mdry]) 0 0 := by
  refine Ci_of (cc := cX8_pass) (nL := 2) (ret := (some .int)) (lv0 := [(0, .ref (am 0)), (1, .int (iI x))]) RX8 "pass" (by decide +kernel) rfl (Nat.le_of_ble_eq_true rfl) rfl (fun p9 e9 s9 m9 ar9 be9 me9 c9 A9 Q9 hQ hC => ?_)
  have iX8 : ∀ w ∈ wsX80, w ∈ wsX8_pass := by decide +kernel
  have L0 : Cond.fieldLink RX8 148 "GroutlineModel" "hour" "I" ∈ wsX8_pass := by decide +kernel
  refine v_aload_n hC 1 0 dX8_pass_0 rfl rfl rfl ?_
  refine v_aload_n hC 2 0 dX8_pass_1 rfl rfl rfl ?_
  refine v_iload_n hC 3 1 dX8_pass_2 rfl rfl rfl ?_
  refine v_iconst hC 4 dX8_pass_3 rfl ?_
  refine v_bipush hC 6 dX8_pass_4 rfl rfl ?_
  refine v_callVi hC 9 3 [0, 1, 2, 3, 4, 5, 6, 7, 8, 9, 10, 11, 12, 13, 14, 15, 16, 17] [] [] (As := [.int (iI x), .int (iI 1), .int (iI 100)]) (rest := [.ref (am 0)]) (c_X8_in lx D cs am mwide mhigh mborder mpattern mdoor mpieces mtiles mrests mcrates mmoves manyLaid mgrout mhour mthrown mpillar mshut mpk mpf mpn mpr mleft mright mtop mbottom mat mrw mrh mrp mcf mcn mdry x 1 100 (by omega) (by omega) (by omega)) dX8_pass_6 rfl rfl 0 rfl rfl gX8_pass_X8_in rfl rfl rfl (by decide +kernel) ⟨by decide, by decide⟩ rfl rfl rfl rfl (by decide) rfl (Nat.le_of_ble_eq_true rfl) ⟨rfl, rfl⟩ ⟨by decide, by decide⟩ (fun z6 u6 h6 => ?_)
  (try dsimp only at h6)
  obtain ⟨h6_1, h6_2⟩ := h6
  show V p9 lx e9 ({ frames := 2, cells := 0, slots := 0, locals := 47 }) s9 m9 ar9 be9 me9 c9 Q9 D A9 s9.heap 2 0 0 [oM am mwide mhigh mborder mpattern mdoor mpieces mtiles mrests mcrates mmoves manyLaid mgrout mhour mthrown, aC (cs 0) (am 1) 96 mpillar, aC (cs 0) (am 2) 12 mshut, aC (cs 0) (am 3) 96 mpk, aC (cs 0) (am 4) 96 mpf, aC (cs 0) (am 5) 96 mpn, aC (cs 0) (am 6) 96 mpr, aC (cs 0) (am 7) 96 mleft, aC (cs 0) (am 8) 96 mright, aC (cs 0) (am 9) 96 mtop, aC (cs 0) (am 10) 96 mbottom, aC (cs 0) (am 11) 96 mat, aC (cs 0) (am 12) 100 mrw, aC (cs 0) (am 13) 100 mrh, aC (cs 0) (am 14) 100 mrp, aC (cs 0) (am 15) 20 mcf, aC (cs 0) (am 16) 20 mcn, aC (cs 0) (am 17) 8 mdry] [(0, .ref (am 0)), (1, .int (iI x))] 9 [.int (iI z6), .ref (am 0)]
  refine v_if_eq hC 16 12 dX8_pass_9 (by decide) rfl (by omega) (fun c_9 => ?_) (fun c_9 => ?_)
  · exfalso; omega
  · skip
    refine v_iconst hC 13 dX8_pass_12 rfl ?_
    refine v_goto hC 17 dX8_pass_13 (by decide) ?_
    refine v_callVi hC 20 1 [0, 1, 2, 3, 4, 5, 6, 7, 8, 9, 10, 11, 12, 13, 14, 15, 16, 17] [] [] (As := [.int (iI 0)]) (rest := []) (c_X8_holds lx D cs am mwide mhigh mborder mpattern mdoor mpieces mtiles mrests mcrates mmoves manyLaid mgrout mhour mthrown mpillar mshut mpk mpf mpn mpr mleft mright mtop mbottom mat mrw mrh mrp mcf mcn mdry 0 (by omega)) dX8_pass_17 rfl rfl 0 rfl rfl gX8_pass_X8_holds rfl rfl rfl (by decide +kernel) ⟨by decide, by decide⟩ rfl rfl rfl rfl (by decide) rfl (Nat.le_of_ble_eq_true rfl) ⟨rfl, rfl⟩ ⟨by decide, by decide⟩ (fun z17 u17 h17 => ?_)
    (try dsimp only at h17)
    obtain ⟨h17_1, h17_2⟩ := h17
    show V p9 lx e9 ({ frames := 2, cells := 0, slots := 0, locals := 47 }) s9 m9 ar9 be9 me9 c9 Q9 D A9 s9.heap 2 0 0 [oM am mwide mhigh mborder mpattern mdoor mpieces mtiles mrests mcrates mmoves manyLaid mgrout mhour 0, aC (cs 0) (am 1) 96 mpillar, aC (cs 0) (am 2) 12 mshut, aC (cs 0) (am 3) 96 mpk, aC (cs 0) (am 4) 96 mpf, aC (cs 0) (am 5) 96 mpn, aC (cs 0) (am 6) 96 mpr, aC (cs 0) (am 7) 96 mleft, aC (cs 0) (am 8) 96 mright, aC (cs 0) (am 9) 96 mtop, aC (cs 0) (am 10) 96 mbottom, aC (cs 0) (am 11) 96 mat, aC (cs 0) (am 12) 100 mrw, aC (cs 0) (am 13) 100 mrh, aC (cs 0) (am 14) 100 mrp, aC (cs 0) (am 15) 20 mcf, aC (cs 0) (am 16) 20 mcn, aC (cs 0) (am 17) 8 mdry] [(0, .ref (am 0)), (1, .int (iI x))] 20 [.int (iI z17)]
    refine v_if_eq hC 25 23 dX8_pass_20 (by decide) rfl (by omega) (fun c_20 => ?_) (fun c_20 => ?_)
    · skip
      refine v_aload_n hC 26 0 dX8_pass_25 rfl rfl rfl ?_
      refine v_dup hC 27 dX8_pass_26 rfl rfl ?_
      refine v_get hC 30 0 29 (C := RX8) (T := TX8) (N := 31) dX8_pass_27 rfl iX8 L0 rfl rfl (by decide) rfl ?_
      refine v_iload_n hC 31 1 dX8_pass_30 rfl rfl rfl ?_
      refine v_iadd hC 32 (mhour + x) dX8_pass_31 rfl rfl ?_
      refine v_put hC 35 0 29 [oM am mwide mhigh mborder mpattern mdoor mpieces mtiles mrests mcrates mmoves manyLaid mgrout (mhour + x) 0, aC (cs 0) (am 1) 96 mpillar, aC (cs 0) (am 2) 12 mshut, aC (cs 0) (am 3) 96 mpk, aC (cs 0) (am 4) 96 mpf, aC (cs 0) (am 5) 96 mpn, aC (cs 0) (am 6) 96 mpr, aC (cs 0) (am 7) 96 mleft, aC (cs 0) (am 8) 96 mright, aC (cs 0) (am 9) 96 mtop, aC (cs 0) (am 10) 96 mbottom, aC (cs 0) (am 11) 96 mat, aC (cs 0) (am 12) 100 mrw, aC (cs 0) (am 13) 100 mrh, aC (cs 0) (am 14) 100 mrp, aC (cs 0) (am 15) 20 mcf, aC (cs 0) (am 16) 20 mcn, aC (cs 0) (am 17) 8 mdry] (C := RX8) (T := TX8) (N := 31) dX8_pass_32 rfl iX8 tyX8_ok nmX8 L0 rfl rfl (by decide) rfl rfl rfl (Nat.le_of_ble_eq_true rfl) rfl ?_
      refine v_aload_n hC 36 0 dX8_pass_35 rfl rfl rfl ?_
      refine v_get hC 39 0 29 (C := RX8) (T := TX8) (N := 31) dX8_pass_36 rfl iX8 L0 rfl rfl (by decide) rfl ?_
      exact v_iret hC hQ () [0, 1, 2, 3, 4, 5, 6, 7, 8, 9, 10, 11, 12, 13, 14, 15, 16, 17] dX8_pass_39 rfl rfl ⟨by decide, by decide⟩ (by (try dsimp only); all_goals (first | rfl | omega))
    · exfalso; omega

set_option maxHeartbeats 4000000 in
set_option maxRecDepth 100000 in
theorem n_X8_pass (lx : Launch) (D : va_G) (cs : Nat → ClassId) (am : Nat → Nat) (mwide : Int) (mhigh : Int) (mborder : Int) (mpattern : Int) (mdoor : Int) (mpieces : Int) (mtiles : Int) (mrests : Int) (mcrates : Int) (mmoves : Int) (manyLaid : Int) (mgrout : Int) (mhour : Int) (mthrown : Int) (mpillar : Int → Int) (mshut : Int → Int) (mpk : Int → Int) (mpf : Int → Int) (mpn : Int → Int) (mpr : Int → Int) (mleft : Int → Int) (mright : Int → Int) (mtop : Int → Int) (mbottom : Int → Int) (mat : Int → Int) (mrw : Int → Int) (mrh : Int → Int) (mrp : Int → Int) (mcf : Int → Int) (mcn : Int → Int) (mdry : Int → Int) (x : Int) (r1 : -2147483648 ≤ x ∧ x < 2147483648) (hno : ¬ (1 ≤ x ∧ x ≤ 100)) : Ci lx D cs yX8_pass wsX8_pass ({ frames := 2, cells := 0, slots := 0, locals := 47 }) [.ref (am 0), .int (iI x)] [oM am mwide mhigh mborder mpattern mdoor mpieces mtiles mrests mcrates mmoves manyLaid mgrout mhour mthrown, aC (cs 0) (am 1) 96 mpillar, aC (cs 0) (am 2) 12 mshut, aC (cs 0) (am 3) 96 mpk, aC (cs 0) (am 4) 96 mpf, aC (cs 0) (am 5) 96 mpn, aC (cs 0) (am 6) 96 mpr, aC (cs 0) (am 7) 96 mleft, aC (cs 0) (am 8) 96 mright, aC (cs 0) (am 9) 96 mtop, aC (cs 0) (am 10) 96 mbottom, aC (cs 0) (am 11) 96 mat, aC (cs 0) (am 12) 100 mrw, aC (cs 0) (am 13) 100 mrh, aC (cs 0) (am 14) 100 mrp, aC (cs 0) (am 15) 20 mcf, aC (cs 0) (am 16) 20 mcn, aC (cs 0) (am 17) 8 mdry] (fun (z : Int) (u : Unit) => True) (fun u : Unit => [oM am mwide mhigh mborder mpattern mdoor mpieces mtiles mrests mcrates mmoves manyLaid mgrout mhour 1, aC (cs 0) (am 1) 96 mpillar, aC (cs 0) (am 2) 12 mshut, aC (cs 0) (am 3) 96 mpk, aC (cs 0) (am 4) 96 mpf, aC (cs 0) (am 5) 96 mpn, aC (cs 0) (am 6) 96 mpr, aC (cs 0) (am 7) 96 mleft, aC (cs 0) (am 8) 96 mright, aC (cs 0) (am 9) 96 mtop, aC (cs 0) (am 10) 96 mbottom, aC (cs 0) (am 11) 96 mat, aC (cs 0) (am 12) 100 mrw, aC (cs 0) (am 13) 100 mrh, aC (cs 0) (am 14) 100 mrp, aC (cs 0) (am 15) 20 mcf, aC (cs 0) (am 16) 20 mcn, aC (cs 0) (am 17) 8 mdry]) 0 0 := by
  refine Ci_of (cc := cX8_pass) (nL := 2) (ret := (some .int)) (lv0 := [(0, .ref (am 0)), (1, .int (iI x))]) RX8 "pass" (by decide +kernel) rfl (Nat.le_of_ble_eq_true rfl) rfl (fun p9 e9 s9 m9 ar9 be9 me9 c9 A9 Q9 hQ hC => ?_)
  refine v_aload_n hC 1 0 dX8_pass_0 rfl rfl rfl ?_
  refine v_aload_n hC 2 0 dX8_pass_1 rfl rfl rfl ?_
  refine v_iload_n hC 3 1 dX8_pass_2 rfl rfl rfl ?_
  refine v_iconst hC 4 dX8_pass_3 rfl ?_
  refine v_bipush hC 6 dX8_pass_4 rfl rfl ?_
  refine v_callVi hC 9 3 [0, 1, 2, 3, 4, 5, 6, 7, 8, 9, 10, 11, 12, 13, 14, 15, 16, 17] [] [] (As := [.int (iI x), .int (iI 1), .int (iI 100)]) (rest := [.ref (am 0)]) (c_X8_in lx D cs am mwide mhigh mborder mpattern mdoor mpieces mtiles mrests mcrates mmoves manyLaid mgrout mhour mthrown mpillar mshut mpk mpf mpn mpr mleft mright mtop mbottom mat mrw mrh mrp mcf mcn mdry x 1 100 (by omega) (by omega) (by omega)) dX8_pass_6 rfl rfl 0 rfl rfl gX8_pass_X8_in rfl rfl rfl (by decide +kernel) ⟨by decide, by decide⟩ rfl rfl rfl rfl (by decide) rfl (Nat.le_of_ble_eq_true rfl) ⟨rfl, rfl⟩ ⟨by decide, by decide⟩ (fun z6 u6 h6 => ?_)
  (try dsimp only at h6)
  obtain ⟨h6_1, h6_2⟩ := h6
  show V p9 lx e9 ({ frames := 2, cells := 0, slots := 0, locals := 47 }) s9 m9 ar9 be9 me9 c9 Q9 D A9 s9.heap 2 0 0 [oM am mwide mhigh mborder mpattern mdoor mpieces mtiles mrests mcrates mmoves manyLaid mgrout mhour mthrown, aC (cs 0) (am 1) 96 mpillar, aC (cs 0) (am 2) 12 mshut, aC (cs 0) (am 3) 96 mpk, aC (cs 0) (am 4) 96 mpf, aC (cs 0) (am 5) 96 mpn, aC (cs 0) (am 6) 96 mpr, aC (cs 0) (am 7) 96 mleft, aC (cs 0) (am 8) 96 mright, aC (cs 0) (am 9) 96 mtop, aC (cs 0) (am 10) 96 mbottom, aC (cs 0) (am 11) 96 mat, aC (cs 0) (am 12) 100 mrw, aC (cs 0) (am 13) 100 mrh, aC (cs 0) (am 14) 100 mrp, aC (cs 0) (am 15) 20 mcf, aC (cs 0) (am 16) 20 mcn, aC (cs 0) (am 17) 8 mdry] [(0, .ref (am 0)), (1, .int (iI x))] 9 [.int (iI z6), .ref (am 0)]
  refine v_if_eq hC 16 12 dX8_pass_9 (by decide) rfl (by omega) (fun c_9 => ?_) (fun c_9 => ?_)
  · skip
    refine v_iconst hC 17 dX8_pass_16 rfl ?_
    refine v_callVi hC 20 1 [0, 1, 2, 3, 4, 5, 6, 7, 8, 9, 10, 11, 12, 13, 14, 15, 16, 17] [] [] (As := [.int (iI 1)]) (rest := []) (c_X8_holds lx D cs am mwide mhigh mborder mpattern mdoor mpieces mtiles mrests mcrates mmoves manyLaid mgrout mhour mthrown mpillar mshut mpk mpf mpn mpr mleft mright mtop mbottom mat mrw mrh mrp mcf mcn mdry 1 (by omega)) dX8_pass_17 rfl rfl 0 rfl rfl gX8_pass_X8_holds rfl rfl rfl (by decide +kernel) ⟨by decide, by decide⟩ rfl rfl rfl rfl (by decide) rfl (Nat.le_of_ble_eq_true rfl) ⟨rfl, rfl⟩ ⟨by decide, by decide⟩ (fun z17 u17 h17 => ?_)
    (try dsimp only at h17)
    obtain ⟨h17_1, h17_2⟩ := h17
    show V p9 lx e9 ({ frames := 2, cells := 0, slots := 0, locals := 47 }) s9 m9 ar9 be9 me9 c9 Q9 D A9 s9.heap 2 0 0 [oM am mwide mhigh mborder mpattern mdoor mpieces mtiles mrests mcrates mmoves manyLaid mgrout mhour 1, aC (cs 0) (am 1) 96 mpillar, aC (cs 0) (am 2) 12 mshut, aC (cs 0) (am 3) 96 mpk, aC (cs 0) (am 4) 96 mpf, aC (cs 0) (am 5) 96 mpn, aC (cs 0) (am 6) 96 mpr, aC (cs 0) (am 7) 96 mleft, aC (cs 0) (am 8) 96 mright, aC (cs 0) (am 9) 96 mtop, aC (cs 0) (am 10) 96 mbottom, aC (cs 0) (am 11) 96 mat, aC (cs 0) (am 12) 100 mrw, aC (cs 0) (am 13) 100 mrh, aC (cs 0) (am 14) 100 mrp, aC (cs 0) (am 15) 20 mcf, aC (cs 0) (am 16) 20 mcn, aC (cs 0) (am 17) 8 mdry] [(0, .ref (am 0)), (1, .int (iI x))] 20 [.int (iI z17)]
    refine v_if_eq hC 25 23 dX8_pass_20 (by decide) rfl (by omega) (fun c_20 => ?_) (fun c_20 => ?_)
    · exfalso; omega
    · skip
      refine v_iconst hC 24 dX8_pass_23 rfl ?_
      exact v_iret hC hQ () [0, 1, 2, 3, 4, 5, 6, 7, 8, 9, 10, 11, 12, 13, 14, 15, 16, 17] dX8_pass_24 rfl rfl ⟨by decide, by decide⟩ trivial
  · exfalso; omega

set_option maxHeartbeats 4000000 in
set_option maxRecDepth 100000 in
theorem c_X8_lay (lx : Launch) (D : va_G) (cs : Nat → ClassId) (am : Nat → Nat) (mwide : Int) (mhigh : Int) (mborder : Int) (mpattern : Int) (mdoor : Int) (mpieces : Int) (mtiles : Int) (mrests : Int) (mcrates : Int) (mmoves : Int) (manyLaid : Int) (mgrout : Int) (mhour : Int) (mthrown : Int) (mpillar : Int → Int) (mshut : Int → Int) (mpk : Int → Int) (mpf : Int → Int) (mpn : Int → Int) (mpr : Int → Int) (mleft : Int → Int) (mright : Int → Int) (mtop : Int → Int) (mbottom : Int → Int) (mat : Int → Int) (mrw : Int → Int) (mrh : Int → Int) (mrp : Int → Int) (mcf : Int → Int) (mcn : Int → Int) (mdry : Int → Int) (x : Int) (r1 : -2147483648 ≤ x ∧ x < 2147483648) (hh : 1 ≤ mhigh ∧ mhigh ≤ 4) (hb : 0 ≤ mborder ∧ mborder ≤ 2) (hdr : Rn mdry (-1) 1000000) (hhr : 0 ≤ mhour ∧ mhour ≤ 1000000) (hok : (0 ≤ x ∧ x < nS mhigh mborder)) (hx : mdry x < 0) (hw9 : ¬ (∃ j : Int, (0 ≤ j ∧ j < x) ∧ mhour < mdry j)) (hcnt : 0 ≤ mpieces ∧ mpieces ≤ 96) (hpf : ∀ j : Int, 0 ≤ j → j < mpieces → 0 ≤ mpf j ∧ mpf j < 96) : Ci lx D cs yX8_lay wsX8_lay ({ frames := 4, cells := 0, slots := 0, locals := 88 }) [.ref (am 0), .int (iI x)] [oM am mwide mhigh mborder mpattern mdoor mpieces mtiles mrests mcrates mmoves manyLaid mgrout mhour mthrown, aC (cs 0) (am 1) 96 mpillar, aC (cs 0) (am 2) 12 mshut, aC (cs 0) (am 3) 96 mpk, aC (cs 0) (am 4) 96 mpf, aC (cs 0) (am 5) 96 mpn, aC (cs 0) (am 6) 96 mpr, aC (cs 0) (am 7) 96 mleft, aC (cs 0) (am 8) 96 mright, aC (cs 0) (am 9) 96 mtop, aC (cs 0) (am 10) 96 mbottom, aC (cs 0) (am 11) 96 mat, aC (cs 0) (am 12) 100 mrw, aC (cs 0) (am 13) 100 mrh, aC (cs 0) (am 14) 100 mrp, aC (cs 0) (am 15) 20 mcf, aC (cs 0) (am 16) 20 mcn, aC (cs 0) (am 17) 8 mdry] (fun (z : Int) (u : Unit) => (z = mhour + (pcn mhigh mborder (rowOf mpf) x mpieces.toNat + 3) / 4)) (fun u : Unit => [oM am mwide mhigh mborder mpattern mdoor mpieces mtiles mrests mcrates mmoves 1 mgrout (mhour + (pcn mhigh mborder (rowOf mpf) x mpieces.toNat + 3) / 4) 0, aC (cs 0) (am 1) 96 mpillar, aC (cs 0) (am 2) 12 mshut, aC (cs 0) (am 3) 96 mpk, aC (cs 0) (am 4) 96 mpf, aC (cs 0) (am 5) 96 mpn, aC (cs 0) (am 6) 96 mpr, aC (cs 0) (am 7) 96 mleft, aC (cs 0) (am 8) 96 mright, aC (cs 0) (am 9) 96 mtop, aC (cs 0) (am 10) 96 mbottom, aC (cs 0) (am 11) 96 mat, aC (cs 0) (am 12) 100 mrw, aC (cs 0) (am 13) 100 mrh, aC (cs 0) (am 14) 100 mrp, aC (cs 0) (am 15) 20 mcf, aC (cs 0) (am 16) 20 mcn, aC (cs 0) (am 17) 8 (uI mdry x (mhour + (pcn mhigh mborder (rowOf mpf) x mpieces.toNat + 3) / 4 + mgrout))]) 0 0 := by
  refine Ci_of (cc := cX8_lay) (nL := 3) (ret := (some .int)) (lv0 := [(0, .ref (am 0)), (1, .int (iI x))]) RX8 "lay" (by decide +kernel) rfl (Nat.le_of_ble_eq_true rfl) rfl (fun p9 e9 s9 m9 ar9 be9 me9 c9 A9 Q9 hQ hC => ?_)
  have hn9 := nS_rng hh hb
  have iX8 : ∀ w ∈ wsX80, w ∈ wsX8_lay := by decide +kernel
  have L0 : Cond.fieldLink RX8 65 "GroutlineModel" "dry" "[I" ∈ wsX8_lay := by decide +kernel
  have L1 : Cond.fieldLink RX8 148 "GroutlineModel" "hour" "I" ∈ wsX8_lay := by decide +kernel
  have L2 : Cond.fieldLink RX8 68 "GroutlineModel" "grout" "I" ∈ wsX8_lay := by decide +kernel
  have L3 : Cond.fieldLink RX8 129 "GroutlineModel" "anyLaid" "Z" ∈ wsX8_lay := by decide +kernel
  refine v_aload_n hC 1 0 dX8_lay_0 rfl rfl rfl ?_
  refine v_iload_n hC 2 1 dX8_lay_1 rfl rfl rfl ?_
  refine v_callVi hC 5 1 [0, 1, 2, 3, 4, 5, 6, 7, 8, 9, 10, 11, 12, 13, 14, 15, 16, 17] [] [] (As := [.int (iI x)]) (rest := []) (c_X8_isStrip lx D cs am mwide mhigh mborder mpattern mdoor mpieces mtiles mrests mcrates mmoves manyLaid mgrout mhour mthrown mpillar mshut mpk mpf mpn mpr mleft mright mtop mbottom mat mrw mrh mrp mcf mcn mdry x (by omega) (by omega) (by omega)) dX8_lay_2 rfl rfl 0 rfl rfl gX8_lay_X8_isStrip rfl rfl rfl (by decide +kernel) ⟨by decide, by decide⟩ rfl rfl rfl rfl (by decide) rfl (Nat.le_of_ble_eq_true rfl) ⟨rfl, rfl⟩ ⟨by decide, by decide⟩ (fun z2 u2 h2 => ?_)
  (try dsimp only at h2)
  obtain ⟨h2_1, h2_2⟩ := h2
  show V p9 lx e9 ({ frames := 4, cells := 0, slots := 0, locals := 88 }) s9 m9 ar9 be9 me9 c9 Q9 D A9 s9.heap 3 0 0 [oM am mwide mhigh mborder mpattern mdoor mpieces mtiles mrests mcrates mmoves manyLaid mgrout mhour mthrown, aC (cs 0) (am 1) 96 mpillar, aC (cs 0) (am 2) 12 mshut, aC (cs 0) (am 3) 96 mpk, aC (cs 0) (am 4) 96 mpf, aC (cs 0) (am 5) 96 mpn, aC (cs 0) (am 6) 96 mpr, aC (cs 0) (am 7) 96 mleft, aC (cs 0) (am 8) 96 mright, aC (cs 0) (am 9) 96 mtop, aC (cs 0) (am 10) 96 mbottom, aC (cs 0) (am 11) 96 mat, aC (cs 0) (am 12) 100 mrw, aC (cs 0) (am 13) 100 mrh, aC (cs 0) (am 14) 100 mrp, aC (cs 0) (am 15) 20 mcf, aC (cs 0) (am 16) 20 mcn, aC (cs 0) (am 17) 8 mdry] [(0, .ref (am 0)), (1, .int (iI x))] 5 [.int (iI z2)]
  refine v_istore_n hC 6 [(2, .int (iI z2)), (0, .ref (am 0)), (1, .int (iI x))] dX8_lay_5 rfl rfl (by decide) rfl ?_
  refine v_aload_n hC 7 1 dX8_lay_6 rfl rfl rfl ?_
  refine v_iload_n hC 8 0 dX8_lay_7 rfl rfl rfl ?_
  refine v_if_ne hC 15 11 dX8_lay_8 (by decide) rfl (by omega) (fun c_8 => ?_) (fun c_8 => ?_)
  · skip
    refine v_aload_n hC 16 1 dX8_lay_15 rfl rfl rfl ?_
    refine v_get hC 19 0 26 (C := RX8) (T := TX8) (N := 31) dX8_lay_16 rfl iX8 L0 rfl rfl (by decide) rfl ?_
    refine v_iload_n hC 20 2 dX8_lay_19 rfl rfl rfl ?_
    refine v_iald hC 21 17 dX8_lay_20 rfl rfl (by decide) (by omega) ?_
    have r_20 := hdr x
    refine v_if_ge hC 32 24 dX8_lay_21 (by decide) rfl (by omega) (fun c_21 => ?_) (fun c_21 => ?_)
    · exfalso; omega
    · skip
      refine v_aload_n hC 25 1 dX8_lay_24 rfl rfl rfl ?_
      refine v_iload_n hC 26 2 dX8_lay_25 rfl rfl rfl ?_
      refine v_callVi hC 29 1 [0, 1, 2, 3, 4, 5, 6, 7, 8, 9, 10, 11, 12, 13, 14, 15, 16, 17] [] [] (As := [.int (iI x)]) (rest := [.ref (am 0)]) (c_X8_isWet lx D cs am mwide mhigh mborder mpattern mdoor mpieces mtiles mrests mcrates mmoves manyLaid mgrout mhour mthrown mpillar mshut mpk mpf mpn mpr mleft mright mtop mbottom mat mrw mrh mrp mcf mcn mdry x (by omega) (by exact hdr) (by omega)) dX8_lay_26 rfl rfl 0 rfl rfl gX8_lay_X8_isWet rfl rfl rfl (by decide +kernel) ⟨by decide, by decide⟩ rfl rfl rfl rfl (by decide) rfl (Nat.le_of_ble_eq_true rfl) ⟨rfl, rfl⟩ ⟨by decide, by decide⟩ (fun z26 u26 h26 => ?_)
      (try dsimp only at h26)
      obtain ⟨h26_1, h26_2⟩ := h26
      show V p9 lx e9 ({ frames := 4, cells := 0, slots := 0, locals := 88 }) s9 m9 ar9 be9 me9 c9 Q9 D A9 s9.heap 3 0 0 [oM am mwide mhigh mborder mpattern mdoor mpieces mtiles mrests mcrates mmoves manyLaid mgrout mhour mthrown, aC (cs 0) (am 1) 96 mpillar, aC (cs 0) (am 2) 12 mshut, aC (cs 0) (am 3) 96 mpk, aC (cs 0) (am 4) 96 mpf, aC (cs 0) (am 5) 96 mpn, aC (cs 0) (am 6) 96 mpr, aC (cs 0) (am 7) 96 mleft, aC (cs 0) (am 8) 96 mright, aC (cs 0) (am 9) 96 mtop, aC (cs 0) (am 10) 96 mbottom, aC (cs 0) (am 11) 96 mat, aC (cs 0) (am 12) 100 mrw, aC (cs 0) (am 13) 100 mrh, aC (cs 0) (am 14) 100 mrp, aC (cs 0) (am 15) 20 mcf, aC (cs 0) (am 16) 20 mcn, aC (cs 0) (am 17) 8 mdry] [(2, .int (iI z2)), (0, .ref (am 0)), (1, .int (iI x))] 29 [.int (iI z26), .ref (am 0)]
      refine v_if_eq hC 36 32 dX8_lay_29 (by decide) rfl (by omega) (fun c_29 => ?_) (fun c_29 => ?_)
      · skip
        refine v_iconst hC 37 dX8_lay_36 rfl ?_
        refine v_callVi hC 40 1 [0, 1, 2, 3, 4, 5, 6, 7, 8, 9, 10, 11, 12, 13, 14, 15, 16, 17] [] [] (As := [.int (iI 0)]) (rest := []) (c_X8_holds lx D cs am mwide mhigh mborder mpattern mdoor mpieces mtiles mrests mcrates mmoves manyLaid mgrout mhour mthrown mpillar mshut mpk mpf mpn mpr mleft mright mtop mbottom mat mrw mrh mrp mcf mcn mdry 0 (by omega)) dX8_lay_37 rfl rfl 0 rfl rfl gX8_lay_X8_holds rfl rfl rfl (by decide +kernel) ⟨by decide, by decide⟩ rfl rfl rfl rfl (by decide) rfl (Nat.le_of_ble_eq_true rfl) ⟨rfl, rfl⟩ ⟨by decide, by decide⟩ (fun z37 u37 h37 => ?_)
        (try dsimp only at h37)
        obtain ⟨h37_1, h37_2⟩ := h37
        show V p9 lx e9 ({ frames := 4, cells := 0, slots := 0, locals := 88 }) s9 m9 ar9 be9 me9 c9 Q9 D A9 s9.heap 3 0 0 [oM am mwide mhigh mborder mpattern mdoor mpieces mtiles mrests mcrates mmoves manyLaid mgrout mhour 0, aC (cs 0) (am 1) 96 mpillar, aC (cs 0) (am 2) 12 mshut, aC (cs 0) (am 3) 96 mpk, aC (cs 0) (am 4) 96 mpf, aC (cs 0) (am 5) 96 mpn, aC (cs 0) (am 6) 96 mpr, aC (cs 0) (am 7) 96 mleft, aC (cs 0) (am 8) 96 mright, aC (cs 0) (am 9) 96 mtop, aC (cs 0) (am 10) 96 mbottom, aC (cs 0) (am 11) 96 mat, aC (cs 0) (am 12) 100 mrw, aC (cs 0) (am 13) 100 mrh, aC (cs 0) (am 14) 100 mrp, aC (cs 0) (am 15) 20 mcf, aC (cs 0) (am 16) 20 mcn, aC (cs 0) (am 17) 8 mdry] [(2, .int (iI z2)), (0, .ref (am 0)), (1, .int (iI x))] 40 [.int (iI z37)]
        refine v_if_eq hC 45 43 dX8_lay_40 (by decide) rfl (by omega) (fun c_40 => ?_) (fun c_40 => ?_)
        · skip
          refine v_aload_n hC 46 1 dX8_lay_45 rfl rfl rfl ?_
          refine v_dup hC 47 dX8_lay_46 rfl rfl ?_
          refine v_get hC 50 0 29 (C := RX8) (T := TX8) (N := 31) dX8_lay_47 rfl iX8 L1 rfl rfl (by decide) rfl ?_
          refine v_aload_n hC 51 1 dX8_lay_50 rfl rfl rfl ?_
          refine v_iload_n hC 52 2 dX8_lay_51 rfl rfl rfl ?_
          refine v_callVi hC 55 1 [0, 1, 2, 3, 4, 5, 6, 7, 8, 9, 10, 11, 12, 13, 14, 15, 16, 17] [] [] (As := [.int (iI x)]) (rest := [.int (iI mhour), .ref (am 0)]) (c_X8_piecesOf lx D cs am mwide mhigh mborder mpattern mdoor mpieces mtiles mrests mcrates mmoves manyLaid mgrout mhour 0 mpillar mshut mpk mpf mpn mpr mleft mright mtop mbottom mat mrw mrh mrp mcf mcn mdry x (by omega) (by omega) (by omega) (by omega) (by omega)) dX8_lay_52 rfl rfl 0 rfl rfl gX8_lay_X8_piecesOf rfl rfl rfl (by decide +kernel) ⟨by decide, by decide⟩ rfl rfl rfl rfl (by decide) rfl (Nat.le_of_ble_eq_true rfl) ⟨rfl, rfl⟩ ⟨by decide, by decide⟩ (fun z52 u52 h52 => ?_)
          (try dsimp only at h52)
          subst h52
          have pc9 := pcn_rng (high := mhigh) (border := mborder) (s := x) (row := rowOf mpf) mpieces.toNat
          show V p9 lx e9 ({ frames := 4, cells := 0, slots := 0, locals := 88 }) s9 m9 ar9 be9 me9 c9 Q9 D A9 s9.heap 3 0 0 [oM am mwide mhigh mborder mpattern mdoor mpieces mtiles mrests mcrates mmoves manyLaid mgrout mhour 0, aC (cs 0) (am 1) 96 mpillar, aC (cs 0) (am 2) 12 mshut, aC (cs 0) (am 3) 96 mpk, aC (cs 0) (am 4) 96 mpf, aC (cs 0) (am 5) 96 mpn, aC (cs 0) (am 6) 96 mpr, aC (cs 0) (am 7) 96 mleft, aC (cs 0) (am 8) 96 mright, aC (cs 0) (am 9) 96 mtop, aC (cs 0) (am 10) 96 mbottom, aC (cs 0) (am 11) 96 mat, aC (cs 0) (am 12) 100 mrw, aC (cs 0) (am 13) 100 mrh, aC (cs 0) (am 14) 100 mrp, aC (cs 0) (am 15) 20 mcf, aC (cs 0) (am 16) 20 mcn, aC (cs 0) (am 17) 8 mdry] [(2, .int (iI z2)), (0, .ref (am 0)), (1, .int (iI x))] 55 [.int (iI (pcn mhigh mborder (rowOf mpf) x mpieces.toNat)), .int (iI mhour), .ref (am 0)]
          refine v_iconst hC 56 dX8_lay_55 rfl ?_
          refine v_iadd hC 57 (pcn mhigh mborder (rowOf mpf) x mpieces.toNat + 3) dX8_lay_56 rfl rfl ?_
          refine v_iconst hC 58 dX8_lay_57 rfl ?_
          refine v_idiv hC 59 ((pcn mhigh mborder (rowOf mpf) x mpieces.toNat + 3) / 4) dX8_lay_58 rfl (by omega) (by omega) rfl ?_
          refine v_iadd hC 60 (mhour + ((pcn mhigh mborder (rowOf mpf) x mpieces.toNat + 3) / 4)) dX8_lay_59 rfl rfl ?_
          refine v_put hC 63 0 29 [oM am mwide mhigh mborder mpattern mdoor mpieces mtiles mrests mcrates mmoves manyLaid mgrout (mhour + ((pcn mhigh mborder (rowOf mpf) x mpieces.toNat + 3) / 4)) 0, aC (cs 0) (am 1) 96 mpillar, aC (cs 0) (am 2) 12 mshut, aC (cs 0) (am 3) 96 mpk, aC (cs 0) (am 4) 96 mpf, aC (cs 0) (am 5) 96 mpn, aC (cs 0) (am 6) 96 mpr, aC (cs 0) (am 7) 96 mleft, aC (cs 0) (am 8) 96 mright, aC (cs 0) (am 9) 96 mtop, aC (cs 0) (am 10) 96 mbottom, aC (cs 0) (am 11) 96 mat, aC (cs 0) (am 12) 100 mrw, aC (cs 0) (am 13) 100 mrh, aC (cs 0) (am 14) 100 mrp, aC (cs 0) (am 15) 20 mcf, aC (cs 0) (am 16) 20 mcn, aC (cs 0) (am 17) 8 mdry] (C := RX8) (T := TX8) (N := 31) dX8_lay_60 rfl iX8 tyX8_ok nmX8 L1 rfl rfl (by decide) rfl rfl rfl (Nat.le_of_ble_eq_true rfl) rfl ?_
          refine v_aload_n hC 64 1 dX8_lay_63 rfl rfl rfl ?_
          refine v_get hC 67 0 26 (C := RX8) (T := TX8) (N := 31) dX8_lay_64 rfl iX8 L0 rfl rfl (by decide) rfl ?_
          refine v_iload_n hC 68 2 dX8_lay_67 rfl rfl rfl ?_
          refine v_aload_n hC 69 1 dX8_lay_68 rfl rfl rfl ?_
          refine v_get hC 72 0 29 (C := RX8) (T := TX8) (N := 31) dX8_lay_69 rfl iX8 L1 rfl rfl (by decide) rfl ?_
          refine v_aload_n hC 73 1 dX8_lay_72 rfl rfl rfl ?_
          refine v_get hC 76 0 28 (C := RX8) (T := TX8) (N := 31) dX8_lay_73 rfl iX8 L2 rfl rfl (by decide) rfl ?_
          refine v_iadd hC 77 (mhour + ((pcn mhigh mborder (rowOf mpf) x mpieces.toNat + 3) / 4) + mgrout) dX8_lay_76 rfl rfl ?_
          refine v_iast hC 78 17 [oM am mwide mhigh mborder mpattern mdoor mpieces mtiles mrests mcrates mmoves manyLaid mgrout (mhour + ((pcn mhigh mborder (rowOf mpf) x mpieces.toNat + 3) / 4)) 0, aC (cs 0) (am 1) 96 mpillar, aC (cs 0) (am 2) 12 mshut, aC (cs 0) (am 3) 96 mpk, aC (cs 0) (am 4) 96 mpf, aC (cs 0) (am 5) 96 mpn, aC (cs 0) (am 6) 96 mpr, aC (cs 0) (am 7) 96 mleft, aC (cs 0) (am 8) 96 mright, aC (cs 0) (am 9) 96 mtop, aC (cs 0) (am 10) 96 mbottom, aC (cs 0) (am 11) 96 mat, aC (cs 0) (am 12) 100 mrw, aC (cs 0) (am 13) 100 mrh, aC (cs 0) (am 14) 100 mrp, aC (cs 0) (am 15) 20 mcf, aC (cs 0) (am 16) 20 mcn, aC (cs 0) (am 17) 8 (uI mdry x (mhour + ((pcn mhigh mborder (rowOf mpf) x mpieces.toNat + 3) / 4) + mgrout))] dX8_lay_77 rfl rfl (by decide) (by omega) rfl ?_
          refine v_aload_n hC 79 1 dX8_lay_78 rfl rfl rfl ?_
          refine v_iconst hC 80 dX8_lay_79 rfl ?_
          refine v_put hC 83 0 27 [oM am mwide mhigh mborder mpattern mdoor mpieces mtiles mrests mcrates mmoves 1 mgrout (mhour + ((pcn mhigh mborder (rowOf mpf) x mpieces.toNat + 3) / 4)) 0, aC (cs 0) (am 1) 96 mpillar, aC (cs 0) (am 2) 12 mshut, aC (cs 0) (am 3) 96 mpk, aC (cs 0) (am 4) 96 mpf, aC (cs 0) (am 5) 96 mpn, aC (cs 0) (am 6) 96 mpr, aC (cs 0) (am 7) 96 mleft, aC (cs 0) (am 8) 96 mright, aC (cs 0) (am 9) 96 mtop, aC (cs 0) (am 10) 96 mbottom, aC (cs 0) (am 11) 96 mat, aC (cs 0) (am 12) 100 mrw, aC (cs 0) (am 13) 100 mrh, aC (cs 0) (am 14) 100 mrp, aC (cs 0) (am 15) 20 mcf, aC (cs 0) (am 16) 20 mcn, aC (cs 0) (am 17) 8 (uI mdry x (mhour + ((pcn mhigh mborder (rowOf mpf) x mpieces.toNat + 3) / 4) + mgrout))] (C := RX8) (T := TX8) (N := 31) dX8_lay_80 rfl iX8 tyX8_ok nmX8 L3 rfl rfl (by decide) rfl (iI_01 (by omega)) rfl (Nat.le_of_ble_eq_true rfl) rfl ?_
          refine v_aload_n hC 84 1 dX8_lay_83 rfl rfl rfl ?_
          refine v_get hC 87 0 29 (C := RX8) (T := TX8) (N := 31) dX8_lay_84 rfl iX8 L1 rfl rfl (by decide) rfl ?_
          exact v_iret hC hQ () [0, 1, 2, 3, 4, 5, 6, 7, 8, 9, 10, 11, 12, 13, 14, 15, 16, 17] dX8_lay_87 rfl rfl ⟨by decide, by decide⟩ (by (try dsimp only); all_goals (first | rfl | omega))
        · exfalso; omega
      · exfalso; exact hw9 (h26_2.mp (by omega))
  · exfalso; omega

set_option maxHeartbeats 4000000 in
set_option maxRecDepth 100000 in
theorem n_X8_lay (lx : Launch) (D : va_G) (cs : Nat → ClassId) (am : Nat → Nat) (mwide : Int) (mhigh : Int) (mborder : Int) (mpattern : Int) (mdoor : Int) (mpieces : Int) (mtiles : Int) (mrests : Int) (mcrates : Int) (mmoves : Int) (manyLaid : Int) (mgrout : Int) (mhour : Int) (mthrown : Int) (mpillar : Int → Int) (mshut : Int → Int) (mpk : Int → Int) (mpf : Int → Int) (mpn : Int → Int) (mpr : Int → Int) (mleft : Int → Int) (mright : Int → Int) (mtop : Int → Int) (mbottom : Int → Int) (mat : Int → Int) (mrw : Int → Int) (mrh : Int → Int) (mrp : Int → Int) (mcf : Int → Int) (mcn : Int → Int) (mdry : Int → Int) (x : Int) (k : Int) (r1 : -2147483648 ≤ x ∧ x < 2147483648) (hh : 1 ≤ mhigh ∧ mhigh ≤ 4) (hb : 0 ≤ mborder ∧ mborder ≤ 2) (hdr : Rn mdry (-1) 1000000) (hhr : 0 ≤ mhour ∧ mhour ≤ 1000000) (hno : (¬ (0 ≤ x ∧ x < nS mhigh mborder) ∧ k = 1) ∨ ((0 ≤ x ∧ x < nS mhigh mborder) ∧ (0 ≤ mdry x ∨ (∃ j : Int, (0 ≤ j ∧ j < x) ∧ mhour < mdry j)) ∧ k = 2)) : Ci lx D cs yX8_lay wsX8_lay ({ frames := 4, cells := 0, slots := 0, locals := 88 }) [.ref (am 0), .int (iI x)] [oM am mwide mhigh mborder mpattern mdoor mpieces mtiles mrests mcrates mmoves manyLaid mgrout mhour mthrown, aC (cs 0) (am 1) 96 mpillar, aC (cs 0) (am 2) 12 mshut, aC (cs 0) (am 3) 96 mpk, aC (cs 0) (am 4) 96 mpf, aC (cs 0) (am 5) 96 mpn, aC (cs 0) (am 6) 96 mpr, aC (cs 0) (am 7) 96 mleft, aC (cs 0) (am 8) 96 mright, aC (cs 0) (am 9) 96 mtop, aC (cs 0) (am 10) 96 mbottom, aC (cs 0) (am 11) 96 mat, aC (cs 0) (am 12) 100 mrw, aC (cs 0) (am 13) 100 mrh, aC (cs 0) (am 14) 100 mrp, aC (cs 0) (am 15) 20 mcf, aC (cs 0) (am 16) 20 mcn, aC (cs 0) (am 17) 8 mdry] (fun (z : Int) (u : Unit) => True) (fun u : Unit => [oM am mwide mhigh mborder mpattern mdoor mpieces mtiles mrests mcrates mmoves manyLaid mgrout mhour k, aC (cs 0) (am 1) 96 mpillar, aC (cs 0) (am 2) 12 mshut, aC (cs 0) (am 3) 96 mpk, aC (cs 0) (am 4) 96 mpf, aC (cs 0) (am 5) 96 mpn, aC (cs 0) (am 6) 96 mpr, aC (cs 0) (am 7) 96 mleft, aC (cs 0) (am 8) 96 mright, aC (cs 0) (am 9) 96 mtop, aC (cs 0) (am 10) 96 mbottom, aC (cs 0) (am 11) 96 mat, aC (cs 0) (am 12) 100 mrw, aC (cs 0) (am 13) 100 mrh, aC (cs 0) (am 14) 100 mrp, aC (cs 0) (am 15) 20 mcf, aC (cs 0) (am 16) 20 mcn, aC (cs 0) (am 17) 8 mdry]) 0 0 := by
  refine Ci_of (cc := cX8_lay) (nL := 3) (ret := (some .int)) (lv0 := [(0, .ref (am 0)), (1, .int (iI x))]) RX8 "lay" (by decide +kernel) rfl (Nat.le_of_ble_eq_true rfl) rfl (fun p9 e9 s9 m9 ar9 be9 me9 c9 A9 Q9 hQ hC => ?_)
  have hn9 := nS_rng hh hb
  have iX8 : ∀ w ∈ wsX80, w ∈ wsX8_lay := by decide +kernel
  have L0 : Cond.fieldLink RX8 65 "GroutlineModel" "dry" "[I" ∈ wsX8_lay := by decide +kernel
  refine v_aload_n hC 1 0 dX8_lay_0 rfl rfl rfl ?_
  refine v_iload_n hC 2 1 dX8_lay_1 rfl rfl rfl ?_
  refine v_callVi hC 5 1 [0, 1, 2, 3, 4, 5, 6, 7, 8, 9, 10, 11, 12, 13, 14, 15, 16, 17] [] [] (As := [.int (iI x)]) (rest := []) (c_X8_isStrip lx D cs am mwide mhigh mborder mpattern mdoor mpieces mtiles mrests mcrates mmoves manyLaid mgrout mhour mthrown mpillar mshut mpk mpf mpn mpr mleft mright mtop mbottom mat mrw mrh mrp mcf mcn mdry x (by omega) (by omega) (by omega)) dX8_lay_2 rfl rfl 0 rfl rfl gX8_lay_X8_isStrip rfl rfl rfl (by decide +kernel) ⟨by decide, by decide⟩ rfl rfl rfl rfl (by decide) rfl (Nat.le_of_ble_eq_true rfl) ⟨rfl, rfl⟩ ⟨by decide, by decide⟩ (fun z2 u2 h2 => ?_)
  (try dsimp only at h2)
  obtain ⟨h2_1, h2_2⟩ := h2
  show V p9 lx e9 ({ frames := 4, cells := 0, slots := 0, locals := 88 }) s9 m9 ar9 be9 me9 c9 Q9 D A9 s9.heap 3 0 0 [oM am mwide mhigh mborder mpattern mdoor mpieces mtiles mrests mcrates mmoves manyLaid mgrout mhour mthrown, aC (cs 0) (am 1) 96 mpillar, aC (cs 0) (am 2) 12 mshut, aC (cs 0) (am 3) 96 mpk, aC (cs 0) (am 4) 96 mpf, aC (cs 0) (am 5) 96 mpn, aC (cs 0) (am 6) 96 mpr, aC (cs 0) (am 7) 96 mleft, aC (cs 0) (am 8) 96 mright, aC (cs 0) (am 9) 96 mtop, aC (cs 0) (am 10) 96 mbottom, aC (cs 0) (am 11) 96 mat, aC (cs 0) (am 12) 100 mrw, aC (cs 0) (am 13) 100 mrh, aC (cs 0) (am 14) 100 mrp, aC (cs 0) (am 15) 20 mcf, aC (cs 0) (am 16) 20 mcn, aC (cs 0) (am 17) 8 mdry] [(0, .ref (am 0)), (1, .int (iI x))] 5 [.int (iI z2)]
  refine v_istore_n hC 6 [(2, .int (iI z2)), (0, .ref (am 0)), (1, .int (iI x))] dX8_lay_5 rfl rfl (by decide) rfl ?_
  refine v_aload_n hC 7 1 dX8_lay_6 rfl rfl rfl ?_
  refine v_iload_n hC 8 0 dX8_lay_7 rfl rfl rfl ?_
  refine v_if_ne hC 15 11 dX8_lay_8 (by decide) rfl (by omega) (fun c_8 => ?_) (fun c_8 => ?_)
  · skip
    refine v_aload_n hC 16 1 dX8_lay_15 rfl rfl rfl ?_
    refine v_get hC 19 0 26 (C := RX8) (T := TX8) (N := 31) dX8_lay_16 rfl iX8 L0 rfl rfl (by decide) rfl ?_
    refine v_iload_n hC 20 2 dX8_lay_19 rfl rfl rfl ?_
    refine v_iald hC 21 17 dX8_lay_20 rfl rfl (by decide) (by omega) ?_
    have r_20 := hdr x
    refine v_if_ge hC 32 24 dX8_lay_21 (by decide) rfl (by omega) (fun c_21 => ?_) (fun c_21 => ?_)
    · skip
      refine v_iconst hC 33 dX8_lay_32 rfl ?_
      refine v_goto hC 37 dX8_lay_33 (by decide) ?_
      refine v_callVi hC 40 1 [0, 1, 2, 3, 4, 5, 6, 7, 8, 9, 10, 11, 12, 13, 14, 15, 16, 17] [] [] (As := [.int (iI 2)]) (rest := []) (c_X8_holds lx D cs am mwide mhigh mborder mpattern mdoor mpieces mtiles mrests mcrates mmoves manyLaid mgrout mhour mthrown mpillar mshut mpk mpf mpn mpr mleft mright mtop mbottom mat mrw mrh mrp mcf mcn mdry 2 (by omega)) dX8_lay_37 rfl rfl 0 rfl rfl gX8_lay_X8_holds rfl rfl rfl (by decide +kernel) ⟨by decide, by decide⟩ rfl rfl rfl rfl (by decide) rfl (Nat.le_of_ble_eq_true rfl) ⟨rfl, rfl⟩ ⟨by decide, by decide⟩ (fun z37 u37 h37 => ?_)
      (try dsimp only at h37)
      obtain ⟨h37_1, h37_2⟩ := h37
      show V p9 lx e9 ({ frames := 4, cells := 0, slots := 0, locals := 88 }) s9 m9 ar9 be9 me9 c9 Q9 D A9 s9.heap 3 0 0 [oM am mwide mhigh mborder mpattern mdoor mpieces mtiles mrests mcrates mmoves manyLaid mgrout mhour 2, aC (cs 0) (am 1) 96 mpillar, aC (cs 0) (am 2) 12 mshut, aC (cs 0) (am 3) 96 mpk, aC (cs 0) (am 4) 96 mpf, aC (cs 0) (am 5) 96 mpn, aC (cs 0) (am 6) 96 mpr, aC (cs 0) (am 7) 96 mleft, aC (cs 0) (am 8) 96 mright, aC (cs 0) (am 9) 96 mtop, aC (cs 0) (am 10) 96 mbottom, aC (cs 0) (am 11) 96 mat, aC (cs 0) (am 12) 100 mrw, aC (cs 0) (am 13) 100 mrh, aC (cs 0) (am 14) 100 mrp, aC (cs 0) (am 15) 20 mcf, aC (cs 0) (am 16) 20 mcn, aC (cs 0) (am 17) 8 mdry] [(2, .int (iI z2)), (0, .ref (am 0)), (1, .int (iI x))] 40 [.int (iI z37)]
      refine v_if_eq hC 45 43 dX8_lay_40 (by decide) rfl (by omega) (fun c_40 => ?_) (fun c_40 => ?_)
      · exfalso; omega
      · skip
        refine v_iconst hC 44 dX8_lay_43 rfl ?_
        obtain rfl : k = 2 := by (try clear h26_2); rcases hno with ⟨q, r⟩ | ⟨q, -, r⟩ <;> omega
        exact v_iret hC hQ () [0, 1, 2, 3, 4, 5, 6, 7, 8, 9, 10, 11, 12, 13, 14, 15, 16, 17] dX8_lay_44 rfl rfl ⟨by decide, by decide⟩ trivial
    · skip
      refine v_aload_n hC 25 1 dX8_lay_24 rfl rfl rfl ?_
      refine v_iload_n hC 26 2 dX8_lay_25 rfl rfl rfl ?_
      refine v_callVi hC 29 1 [0, 1, 2, 3, 4, 5, 6, 7, 8, 9, 10, 11, 12, 13, 14, 15, 16, 17] [] [] (As := [.int (iI x)]) (rest := [.ref (am 0)]) (c_X8_isWet lx D cs am mwide mhigh mborder mpattern mdoor mpieces mtiles mrests mcrates mmoves manyLaid mgrout mhour mthrown mpillar mshut mpk mpf mpn mpr mleft mright mtop mbottom mat mrw mrh mrp mcf mcn mdry x (by omega) (by exact hdr) (by omega)) dX8_lay_26 rfl rfl 0 rfl rfl gX8_lay_X8_isWet rfl rfl rfl (by decide +kernel) ⟨by decide, by decide⟩ rfl rfl rfl rfl (by decide) rfl (Nat.le_of_ble_eq_true rfl) ⟨rfl, rfl⟩ ⟨by decide, by decide⟩ (fun z26 u26 h26 => ?_)
      (try dsimp only at h26)
      obtain ⟨h26_1, h26_2⟩ := h26
      show V p9 lx e9 ({ frames := 4, cells := 0, slots := 0, locals := 88 }) s9 m9 ar9 be9 me9 c9 Q9 D A9 s9.heap 3 0 0 [oM am mwide mhigh mborder mpattern mdoor mpieces mtiles mrests mcrates mmoves manyLaid mgrout mhour mthrown, aC (cs 0) (am 1) 96 mpillar, aC (cs 0) (am 2) 12 mshut, aC (cs 0) (am 3) 96 mpk, aC (cs 0) (am 4) 96 mpf, aC (cs 0) (am 5) 96 mpn, aC (cs 0) (am 6) 96 mpr, aC (cs 0) (am 7) 96 mleft, aC (cs 0) (am 8) 96 mright, aC (cs 0) (am 9) 96 mtop, aC (cs 0) (am 10) 96 mbottom, aC (cs 0) (am 11) 96 mat, aC (cs 0) (am 12) 100 mrw, aC (cs 0) (am 13) 100 mrh, aC (cs 0) (am 14) 100 mrp, aC (cs 0) (am 15) 20 mcf, aC (cs 0) (am 16) 20 mcn, aC (cs 0) (am 17) 8 mdry] [(2, .int (iI z2)), (0, .ref (am 0)), (1, .int (iI x))] 29 [.int (iI z26), .ref (am 0)]
      refine v_if_eq hC 36 32 dX8_lay_29 (by decide) rfl (by omega) (fun c_29 => ?_) (fun c_29 => ?_)
      · exfalso; rcases hno with ⟨q, -⟩ | ⟨-, q | q, -⟩ <;> first | omega | (have := h26_2.mpr q; omega)
      · skip
        refine v_iconst hC 33 dX8_lay_32 rfl ?_
        refine v_goto hC 37 dX8_lay_33 (by decide) ?_
        refine v_callVi hC 40 1 [0, 1, 2, 3, 4, 5, 6, 7, 8, 9, 10, 11, 12, 13, 14, 15, 16, 17] [] [] (As := [.int (iI 2)]) (rest := []) (c_X8_holds lx D cs am mwide mhigh mborder mpattern mdoor mpieces mtiles mrests mcrates mmoves manyLaid mgrout mhour mthrown mpillar mshut mpk mpf mpn mpr mleft mright mtop mbottom mat mrw mrh mrp mcf mcn mdry 2 (by omega)) dX8_lay_37 rfl rfl 0 rfl rfl gX8_lay_X8_holds rfl rfl rfl (by decide +kernel) ⟨by decide, by decide⟩ rfl rfl rfl rfl (by decide) rfl (Nat.le_of_ble_eq_true rfl) ⟨rfl, rfl⟩ ⟨by decide, by decide⟩ (fun z37 u37 h37 => ?_)
        (try dsimp only at h37)
        obtain ⟨h37_1, h37_2⟩ := h37
        show V p9 lx e9 ({ frames := 4, cells := 0, slots := 0, locals := 88 }) s9 m9 ar9 be9 me9 c9 Q9 D A9 s9.heap 3 0 0 [oM am mwide mhigh mborder mpattern mdoor mpieces mtiles mrests mcrates mmoves manyLaid mgrout mhour 2, aC (cs 0) (am 1) 96 mpillar, aC (cs 0) (am 2) 12 mshut, aC (cs 0) (am 3) 96 mpk, aC (cs 0) (am 4) 96 mpf, aC (cs 0) (am 5) 96 mpn, aC (cs 0) (am 6) 96 mpr, aC (cs 0) (am 7) 96 mleft, aC (cs 0) (am 8) 96 mright, aC (cs 0) (am 9) 96 mtop, aC (cs 0) (am 10) 96 mbottom, aC (cs 0) (am 11) 96 mat, aC (cs 0) (am 12) 100 mrw, aC (cs 0) (am 13) 100 mrh, aC (cs 0) (am 14) 100 mrp, aC (cs 0) (am 15) 20 mcf, aC (cs 0) (am 16) 20 mcn, aC (cs 0) (am 17) 8 mdry] [(2, .int (iI z2)), (0, .ref (am 0)), (1, .int (iI x))] 40 [.int (iI z37)]
        refine v_if_eq hC 45 43 dX8_lay_40 (by decide) rfl (by omega) (fun c_40 => ?_) (fun c_40 => ?_)
        · exfalso; omega
        · skip
          refine v_iconst hC 44 dX8_lay_43 rfl ?_
          obtain rfl : k = 2 := by (try clear h26_2); rcases hno with ⟨q, r⟩ | ⟨q, -, r⟩ <;> omega
          exact v_iret hC hQ () [0, 1, 2, 3, 4, 5, 6, 7, 8, 9, 10, 11, 12, 13, 14, 15, 16, 17] dX8_lay_44 rfl rfl ⟨by decide, by decide⟩ trivial
  · skip
    refine v_iconst hC 12 dX8_lay_11 rfl ?_
    refine v_goto hC 37 dX8_lay_12 (by decide) ?_
    refine v_callVi hC 40 1 [0, 1, 2, 3, 4, 5, 6, 7, 8, 9, 10, 11, 12, 13, 14, 15, 16, 17] [] [] (As := [.int (iI 1)]) (rest := []) (c_X8_holds lx D cs am mwide mhigh mborder mpattern mdoor mpieces mtiles mrests mcrates mmoves manyLaid mgrout mhour mthrown mpillar mshut mpk mpf mpn mpr mleft mright mtop mbottom mat mrw mrh mrp mcf mcn mdry 1 (by omega)) dX8_lay_37 rfl rfl 0 rfl rfl gX8_lay_X8_holds rfl rfl rfl (by decide +kernel) ⟨by decide, by decide⟩ rfl rfl rfl rfl (by decide) rfl (Nat.le_of_ble_eq_true rfl) ⟨rfl, rfl⟩ ⟨by decide, by decide⟩ (fun z37 u37 h37 => ?_)
    (try dsimp only at h37)
    obtain ⟨h37_1, h37_2⟩ := h37
    show V p9 lx e9 ({ frames := 4, cells := 0, slots := 0, locals := 88 }) s9 m9 ar9 be9 me9 c9 Q9 D A9 s9.heap 3 0 0 [oM am mwide mhigh mborder mpattern mdoor mpieces mtiles mrests mcrates mmoves manyLaid mgrout mhour 1, aC (cs 0) (am 1) 96 mpillar, aC (cs 0) (am 2) 12 mshut, aC (cs 0) (am 3) 96 mpk, aC (cs 0) (am 4) 96 mpf, aC (cs 0) (am 5) 96 mpn, aC (cs 0) (am 6) 96 mpr, aC (cs 0) (am 7) 96 mleft, aC (cs 0) (am 8) 96 mright, aC (cs 0) (am 9) 96 mtop, aC (cs 0) (am 10) 96 mbottom, aC (cs 0) (am 11) 96 mat, aC (cs 0) (am 12) 100 mrw, aC (cs 0) (am 13) 100 mrh, aC (cs 0) (am 14) 100 mrp, aC (cs 0) (am 15) 20 mcf, aC (cs 0) (am 16) 20 mcn, aC (cs 0) (am 17) 8 mdry] [(2, .int (iI z2)), (0, .ref (am 0)), (1, .int (iI x))] 40 [.int (iI z37)]
    refine v_if_eq hC 45 43 dX8_lay_40 (by decide) rfl (by omega) (fun c_40 => ?_) (fun c_40 => ?_)
    · exfalso; omega
    · skip
      refine v_iconst hC 44 dX8_lay_43 rfl ?_
      obtain rfl : k = 1 := by (try clear h26_2); rcases hno with ⟨q, r⟩ | ⟨q, -, r⟩ <;> omega
      exact v_iret hC hQ () [0, 1, 2, 3, 4, 5, 6, 7, 8, 9, 10, 11, 12, 13, 14, 15, 16, 17] dX8_lay_44 rfl rfl ⟨by decide, by decide⟩ trivial

set_option maxHeartbeats 4000000 in
set_option maxRecDepth 100000 in
theorem c_X8_dry (lx : Launch) (D : va_G) (cs : Nat → ClassId) (am : Nat → Nat) (mwide : Int) (mhigh : Int) (mborder : Int) (mpattern : Int) (mdoor : Int) (mpieces : Int) (mtiles : Int) (mrests : Int) (mcrates : Int) (mmoves : Int) (manyLaid : Int) (mgrout : Int) (mhour : Int) (mthrown : Int) (mpillar : Int → Int) (mshut : Int → Int) (mpk : Int → Int) (mpf : Int → Int) (mpn : Int → Int) (mpr : Int → Int) (mleft : Int → Int) (mright : Int → Int) (mtop : Int → Int) (mbottom : Int → Int) (mat : Int → Int) (mrw : Int → Int) (mrh : Int → Int) (mrp : Int → Int) (mcf : Int → Int) (mcn : Int → Int) (mdry : Int → Int) (x : Int) (r1 : -2147483648 ≤ x ∧ x < 2147483648) (hh : 1 ≤ mhigh ∧ mhigh ≤ 4) (hb : 0 ≤ mborder ∧ mborder ≤ 2) (hdr : Rn mdry (-1) 1000000) (hhr : 0 ≤ mhour ∧ mhour ≤ 1000000) (hok : (0 ≤ x ∧ x < nS mhigh mborder)) : Ci lx D cs yX8_dry wsX8_dry ({ frames := 4, cells := 0, slots := 0, locals := 85 }) [.ref (am 0), .int (iI x)] [oM am mwide mhigh mborder mpattern mdoor mpieces mtiles mrests mcrates mmoves manyLaid mgrout mhour mthrown, aC (cs 0) (am 1) 96 mpillar, aC (cs 0) (am 2) 12 mshut, aC (cs 0) (am 3) 96 mpk, aC (cs 0) (am 4) 96 mpf, aC (cs 0) (am 5) 96 mpn, aC (cs 0) (am 6) 96 mpr, aC (cs 0) (am 7) 96 mleft, aC (cs 0) (am 8) 96 mright, aC (cs 0) (am 9) 96 mtop, aC (cs 0) (am 10) 96 mbottom, aC (cs 0) (am 11) 96 mat, aC (cs 0) (am 12) 100 mrw, aC (cs 0) (am 13) 100 mrh, aC (cs 0) (am 14) 100 mrp, aC (cs 0) (am 15) 20 mcf, aC (cs 0) (am 16) 20 mcn, aC (cs 0) (am 17) 8 mdry] (fun (z : Int) (u : Unit) => (z = mdry x)) (fun u : Unit => [oM am mwide mhigh mborder mpattern mdoor mpieces mtiles mrests mcrates mmoves manyLaid mgrout mhour 0, aC (cs 0) (am 1) 96 mpillar, aC (cs 0) (am 2) 12 mshut, aC (cs 0) (am 3) 96 mpk, aC (cs 0) (am 4) 96 mpf, aC (cs 0) (am 5) 96 mpn, aC (cs 0) (am 6) 96 mpr, aC (cs 0) (am 7) 96 mleft, aC (cs 0) (am 8) 96 mright, aC (cs 0) (am 9) 96 mtop, aC (cs 0) (am 10) 96 mbottom, aC (cs 0) (am 11) 96 mat, aC (cs 0) (am 12) 100 mrw, aC (cs 0) (am 13) 100 mrh, aC (cs 0) (am 14) 100 mrp, aC (cs 0) (am 15) 20 mcf, aC (cs 0) (am 16) 20 mcn, aC (cs 0) (am 17) 8 mdry]) 0 0 := by
  refine Ci_of (cc := cX8_dry) (nL := 2) (ret := (some .int)) (lv0 := [(0, .ref (am 0)), (1, .int (iI x))]) RX8 "dry" (by decide +kernel) rfl (Nat.le_of_ble_eq_true rfl) rfl (fun p9 e9 s9 m9 ar9 be9 me9 c9 A9 Q9 hQ hC => ?_)
  have hn9 := nS_rng hh hb
  have iX8 : ∀ w ∈ wsX80, w ∈ wsX8_dry := by decide +kernel
  have L0 : Cond.fieldLink RX8 65 "GroutlineModel" "dry" "[I" ∈ wsX8_dry := by decide +kernel
  refine v_aload_n hC 1 0 dX8_dry_0 rfl rfl rfl ?_
  refine v_aload_n hC 2 0 dX8_dry_1 rfl rfl rfl ?_
  refine v_iload_n hC 3 1 dX8_dry_2 rfl rfl rfl ?_
  refine v_callVi hC 6 1 [0, 1, 2, 3, 4, 5, 6, 7, 8, 9, 10, 11, 12, 13, 14, 15, 16, 17] [] [] (As := [.int (iI x)]) (rest := [.ref (am 0)]) (c_X8_isStrip lx D cs am mwide mhigh mborder mpattern mdoor mpieces mtiles mrests mcrates mmoves manyLaid mgrout mhour mthrown mpillar mshut mpk mpf mpn mpr mleft mright mtop mbottom mat mrw mrh mrp mcf mcn mdry x (by omega) (by omega) (by omega)) dX8_dry_3 rfl rfl 0 rfl rfl gX8_dry_X8_isStrip rfl rfl rfl (by decide +kernel) ⟨by decide, by decide⟩ rfl rfl rfl rfl (by decide) rfl (Nat.le_of_ble_eq_true rfl) ⟨rfl, rfl⟩ ⟨by decide, by decide⟩ (fun z3 u3 h3 => ?_)
  (try dsimp only at h3)
  obtain ⟨h3_1, h3_2⟩ := h3
  show V p9 lx e9 ({ frames := 4, cells := 0, slots := 0, locals := 85 }) s9 m9 ar9 be9 me9 c9 Q9 D A9 s9.heap 2 0 0 [oM am mwide mhigh mborder mpattern mdoor mpieces mtiles mrests mcrates mmoves manyLaid mgrout mhour mthrown, aC (cs 0) (am 1) 96 mpillar, aC (cs 0) (am 2) 12 mshut, aC (cs 0) (am 3) 96 mpk, aC (cs 0) (am 4) 96 mpf, aC (cs 0) (am 5) 96 mpn, aC (cs 0) (am 6) 96 mpr, aC (cs 0) (am 7) 96 mleft, aC (cs 0) (am 8) 96 mright, aC (cs 0) (am 9) 96 mtop, aC (cs 0) (am 10) 96 mbottom, aC (cs 0) (am 11) 96 mat, aC (cs 0) (am 12) 100 mrw, aC (cs 0) (am 13) 100 mrh, aC (cs 0) (am 14) 100 mrp, aC (cs 0) (am 15) 20 mcf, aC (cs 0) (am 16) 20 mcn, aC (cs 0) (am 17) 8 mdry] [(0, .ref (am 0)), (1, .int (iI x))] 6 [.int (iI z3), .ref (am 0)]
  refine v_if_eq hC 13 9 dX8_dry_6 (by decide) rfl (by omega) (fun c_6 => ?_) (fun c_6 => ?_)
  · exfalso; omega
  · skip
    refine v_iconst hC 10 dX8_dry_9 rfl ?_
    refine v_goto hC 14 dX8_dry_10 (by decide) ?_
    refine v_callVi hC 17 1 [0, 1, 2, 3, 4, 5, 6, 7, 8, 9, 10, 11, 12, 13, 14, 15, 16, 17] [] [] (As := [.int (iI 0)]) (rest := []) (c_X8_holds lx D cs am mwide mhigh mborder mpattern mdoor mpieces mtiles mrests mcrates mmoves manyLaid mgrout mhour mthrown mpillar mshut mpk mpf mpn mpr mleft mright mtop mbottom mat mrw mrh mrp mcf mcn mdry 0 (by omega)) dX8_dry_14 rfl rfl 0 rfl rfl gX8_dry_X8_holds rfl rfl rfl (by decide +kernel) ⟨by decide, by decide⟩ rfl rfl rfl rfl (by decide) rfl (Nat.le_of_ble_eq_true rfl) ⟨rfl, rfl⟩ ⟨by decide, by decide⟩ (fun z14 u14 h14 => ?_)
    (try dsimp only at h14)
    obtain ⟨h14_1, h14_2⟩ := h14
    show V p9 lx e9 ({ frames := 4, cells := 0, slots := 0, locals := 85 }) s9 m9 ar9 be9 me9 c9 Q9 D A9 s9.heap 2 0 0 [oM am mwide mhigh mborder mpattern mdoor mpieces mtiles mrests mcrates mmoves manyLaid mgrout mhour 0, aC (cs 0) (am 1) 96 mpillar, aC (cs 0) (am 2) 12 mshut, aC (cs 0) (am 3) 96 mpk, aC (cs 0) (am 4) 96 mpf, aC (cs 0) (am 5) 96 mpn, aC (cs 0) (am 6) 96 mpr, aC (cs 0) (am 7) 96 mleft, aC (cs 0) (am 8) 96 mright, aC (cs 0) (am 9) 96 mtop, aC (cs 0) (am 10) 96 mbottom, aC (cs 0) (am 11) 96 mat, aC (cs 0) (am 12) 100 mrw, aC (cs 0) (am 13) 100 mrh, aC (cs 0) (am 14) 100 mrp, aC (cs 0) (am 15) 20 mcf, aC (cs 0) (am 16) 20 mcn, aC (cs 0) (am 17) 8 mdry] [(0, .ref (am 0)), (1, .int (iI x))] 17 [.int (iI z14)]
    refine v_if_eq hC 24 20 dX8_dry_17 (by decide) rfl (by omega) (fun c_17 => ?_) (fun c_17 => ?_)
    · skip
      refine v_aload_n hC 25 0 dX8_dry_24 rfl rfl rfl ?_
      refine v_get hC 28 0 26 (C := RX8) (T := TX8) (N := 31) dX8_dry_25 rfl iX8 L0 rfl rfl (by decide) rfl ?_
      refine v_iload_n hC 29 1 dX8_dry_28 rfl rfl rfl ?_
      refine v_iald hC 30 17 dX8_dry_29 rfl rfl (by decide) (by omega) ?_
      exact v_iret hC hQ () [0, 1, 2, 3, 4, 5, 6, 7, 8, 9, 10, 11, 12, 13, 14, 15, 16, 17] dX8_dry_30 rfl rfl ⟨by decide, by decide⟩ (by (try dsimp only); all_goals (first | rfl | omega))
    · exfalso; omega

set_option maxHeartbeats 4000000 in
set_option maxRecDepth 100000 in
theorem n_X8_dry (lx : Launch) (D : va_G) (cs : Nat → ClassId) (am : Nat → Nat) (mwide : Int) (mhigh : Int) (mborder : Int) (mpattern : Int) (mdoor : Int) (mpieces : Int) (mtiles : Int) (mrests : Int) (mcrates : Int) (mmoves : Int) (manyLaid : Int) (mgrout : Int) (mhour : Int) (mthrown : Int) (mpillar : Int → Int) (mshut : Int → Int) (mpk : Int → Int) (mpf : Int → Int) (mpn : Int → Int) (mpr : Int → Int) (mleft : Int → Int) (mright : Int → Int) (mtop : Int → Int) (mbottom : Int → Int) (mat : Int → Int) (mrw : Int → Int) (mrh : Int → Int) (mrp : Int → Int) (mcf : Int → Int) (mcn : Int → Int) (mdry : Int → Int) (x : Int) (r1 : -2147483648 ≤ x ∧ x < 2147483648) (hh : 1 ≤ mhigh ∧ mhigh ≤ 4) (hb : 0 ≤ mborder ∧ mborder ≤ 2) (hdr : Rn mdry (-1) 1000000) (hhr : 0 ≤ mhour ∧ mhour ≤ 1000000) (hno : ¬ (0 ≤ x ∧ x < nS mhigh mborder)) : Ci lx D cs yX8_dry wsX8_dry ({ frames := 4, cells := 0, slots := 0, locals := 85 }) [.ref (am 0), .int (iI x)] [oM am mwide mhigh mborder mpattern mdoor mpieces mtiles mrests mcrates mmoves manyLaid mgrout mhour mthrown, aC (cs 0) (am 1) 96 mpillar, aC (cs 0) (am 2) 12 mshut, aC (cs 0) (am 3) 96 mpk, aC (cs 0) (am 4) 96 mpf, aC (cs 0) (am 5) 96 mpn, aC (cs 0) (am 6) 96 mpr, aC (cs 0) (am 7) 96 mleft, aC (cs 0) (am 8) 96 mright, aC (cs 0) (am 9) 96 mtop, aC (cs 0) (am 10) 96 mbottom, aC (cs 0) (am 11) 96 mat, aC (cs 0) (am 12) 100 mrw, aC (cs 0) (am 13) 100 mrh, aC (cs 0) (am 14) 100 mrp, aC (cs 0) (am 15) 20 mcf, aC (cs 0) (am 16) 20 mcn, aC (cs 0) (am 17) 8 mdry] (fun (z : Int) (u : Unit) => True) (fun u : Unit => [oM am mwide mhigh mborder mpattern mdoor mpieces mtiles mrests mcrates mmoves manyLaid mgrout mhour 1, aC (cs 0) (am 1) 96 mpillar, aC (cs 0) (am 2) 12 mshut, aC (cs 0) (am 3) 96 mpk, aC (cs 0) (am 4) 96 mpf, aC (cs 0) (am 5) 96 mpn, aC (cs 0) (am 6) 96 mpr, aC (cs 0) (am 7) 96 mleft, aC (cs 0) (am 8) 96 mright, aC (cs 0) (am 9) 96 mtop, aC (cs 0) (am 10) 96 mbottom, aC (cs 0) (am 11) 96 mat, aC (cs 0) (am 12) 100 mrw, aC (cs 0) (am 13) 100 mrh, aC (cs 0) (am 14) 100 mrp, aC (cs 0) (am 15) 20 mcf, aC (cs 0) (am 16) 20 mcn, aC (cs 0) (am 17) 8 mdry]) 0 0 := by
  refine Ci_of (cc := cX8_dry) (nL := 2) (ret := (some .int)) (lv0 := [(0, .ref (am 0)), (1, .int (iI x))]) RX8 "dry" (by decide +kernel) rfl (Nat.le_of_ble_eq_true rfl) rfl (fun p9 e9 s9 m9 ar9 be9 me9 c9 A9 Q9 hQ hC => ?_)
  refine v_aload_n hC 1 0 dX8_dry_0 rfl rfl rfl ?_
  refine v_aload_n hC 2 0 dX8_dry_1 rfl rfl rfl ?_
  refine v_iload_n hC 3 1 dX8_dry_2 rfl rfl rfl ?_
  refine v_callVi hC 6 1 [0, 1, 2, 3, 4, 5, 6, 7, 8, 9, 10, 11, 12, 13, 14, 15, 16, 17] [] [] (As := [.int (iI x)]) (rest := [.ref (am 0)]) (c_X8_isStrip lx D cs am mwide mhigh mborder mpattern mdoor mpieces mtiles mrests mcrates mmoves manyLaid mgrout mhour mthrown mpillar mshut mpk mpf mpn mpr mleft mright mtop mbottom mat mrw mrh mrp mcf mcn mdry x (by omega) (by omega) (by omega)) dX8_dry_3 rfl rfl 0 rfl rfl gX8_dry_X8_isStrip rfl rfl rfl (by decide +kernel) ⟨by decide, by decide⟩ rfl rfl rfl rfl (by decide) rfl (Nat.le_of_ble_eq_true rfl) ⟨rfl, rfl⟩ ⟨by decide, by decide⟩ (fun z3 u3 h3 => ?_)
  (try dsimp only at h3)
  obtain ⟨h3_1, h3_2⟩ := h3
  show V p9 lx e9 ({ frames := 4, cells := 0, slots := 0, locals := 85 }) s9 m9 ar9 be9 me9 c9 Q9 D A9 s9.heap 2 0 0 [oM am mwide mhigh mborder mpattern mdoor mpieces mtiles mrests mcrates mmoves manyLaid mgrout mhour mthrown, aC (cs 0) (am 1) 96 mpillar, aC (cs 0) (am 2) 12 mshut, aC (cs 0) (am 3) 96 mpk, aC (cs 0) (am 4) 96 mpf, aC (cs 0) (am 5) 96 mpn, aC (cs 0) (am 6) 96 mpr, aC (cs 0) (am 7) 96 mleft, aC (cs 0) (am 8) 96 mright, aC (cs 0) (am 9) 96 mtop, aC (cs 0) (am 10) 96 mbottom, aC (cs 0) (am 11) 96 mat, aC (cs 0) (am 12) 100 mrw, aC (cs 0) (am 13) 100 mrh, aC (cs 0) (am 14) 100 mrp, aC (cs 0) (am 15) 20 mcf, aC (cs 0) (am 16) 20 mcn, aC (cs 0) (am 17) 8 mdry] [(0, .ref (am 0)), (1, .int (iI x))] 6 [.int (iI z3), .ref (am 0)]
  refine v_if_eq hC 13 9 dX8_dry_6 (by decide) rfl (by omega) (fun c_6 => ?_) (fun c_6 => ?_)
  · skip
    refine v_iconst hC 14 dX8_dry_13 rfl ?_
    refine v_callVi hC 17 1 [0, 1, 2, 3, 4, 5, 6, 7, 8, 9, 10, 11, 12, 13, 14, 15, 16, 17] [] [] (As := [.int (iI 1)]) (rest := []) (c_X8_holds lx D cs am mwide mhigh mborder mpattern mdoor mpieces mtiles mrests mcrates mmoves manyLaid mgrout mhour mthrown mpillar mshut mpk mpf mpn mpr mleft mright mtop mbottom mat mrw mrh mrp mcf mcn mdry 1 (by omega)) dX8_dry_14 rfl rfl 0 rfl rfl gX8_dry_X8_holds rfl rfl rfl (by decide +kernel) ⟨by decide, by decide⟩ rfl rfl rfl rfl (by decide) rfl (Nat.le_of_ble_eq_true rfl) ⟨rfl, rfl⟩ ⟨by decide, by decide⟩ (fun z14 u14 h14 => ?_)
    (try dsimp only at h14)
    obtain ⟨h14_1, h14_2⟩ := h14
    show V p9 lx e9 ({ frames := 4, cells := 0, slots := 0, locals := 85 }) s9 m9 ar9 be9 me9 c9 Q9 D A9 s9.heap 2 0 0 [oM am mwide mhigh mborder mpattern mdoor mpieces mtiles mrests mcrates mmoves manyLaid mgrout mhour 1, aC (cs 0) (am 1) 96 mpillar, aC (cs 0) (am 2) 12 mshut, aC (cs 0) (am 3) 96 mpk, aC (cs 0) (am 4) 96 mpf, aC (cs 0) (am 5) 96 mpn, aC (cs 0) (am 6) 96 mpr, aC (cs 0) (am 7) 96 mleft, aC (cs 0) (am 8) 96 mright, aC (cs 0) (am 9) 96 mtop, aC (cs 0) (am 10) 96 mbottom, aC (cs 0) (am 11) 96 mat, aC (cs 0) (am 12) 100 mrw, aC (cs 0) (am 13) 100 mrh, aC (cs 0) (am 14) 100 mrp, aC (cs 0) (am 15) 20 mcf, aC (cs 0) (am 16) 20 mcn, aC (cs 0) (am 17) 8 mdry] [(0, .ref (am 0)), (1, .int (iI x))] 17 [.int (iI z14)]
    refine v_if_eq hC 24 20 dX8_dry_17 (by decide) rfl (by omega) (fun c_17 => ?_) (fun c_17 => ?_)
    · exfalso; omega
    · skip
      refine v_iconst hC 21 dX8_dry_20 rfl ?_
      refine v_goto hC 30 dX8_dry_21 (by decide) ?_
      exact v_iret hC hQ () [0, 1, 2, 3, 4, 5, 6, 7, 8, 9, 10, 11, 12, 13, 14, 15, 16, 17] dX8_dry_30 rfl rfl ⟨by decide, by decide⟩ trivial
  · exfalso; omega

set_option maxHeartbeats 4000000 in
set_option maxRecDepth 100000 in
theorem c_X7_plan (lx : Launch) (D : va_G) (cs : Nat → ClassId) (ag : Nat) (al : Nat) (ab : Nat → Nat) (ap : Nat → Nat) (ac : Nat → Nat) (aw : Nat → Nat) (wide : Int) (high : Int) (border : Int) (pattern : Int) (door : Int) (pil : Int → Int) (bar : Int → Int) (cnt : Int) (ofc : Int → Int) (knd : Int → Int) (col : Int → Int) (row : Int → Int) (siz : Int → Int) (bw : Int → Int) (bh : Int → Int) (fl : Int) (fr : Int) (ft : Int) (fb : Int) (nt : Int) (rc : Int) (src : Int → Int) (rw : Int → Int) (rh : Int → Int) (rmk : Int → Int) (hour : Int) (grt : Int) (beg : Int) (laid : Int → Int) (dryh : Int → Int) (ak : Nat → Nat) (af : Nat) (w : Int) (h : Int) (b : Int) (q : Int) (r1 : -2147483648 ≤ w ∧ w < 2147483648) (r2 : -2147483648 ≤ h ∧ h < 2147483648) (r3 : -2147483648 ≤ b ∧ b < 2147483648) (r4 : -2147483648 ≤ q ∧ q < 2147483648) (hok : ((1 ≤ w ∧ w ≤ 4) ∧ (1 ≤ h ∧ h ≤ 4) ∧ (0 ≤ b ∧ b ≤ 2) ∧ 0 ≤ q ∧ q ≤ 1)) (hbeg : beg = 0) (hd : 0 ≤ door ∧ door ≤ 10) (hpil : Rn pil 0 1) (hbar : Rn bar 0 1) (hlaid : Rn laid 0 1) (hknd : Rn knd 0 2) (hR : Rok (rc, rw, rh, rmk) 96) : Ci lx D cs yX7_plan wsX7_plan ({ frames := 7, cells := 0, slots := 0, locals := 166 }) [.ref ag, .int (iI w), .int (iI h), .int (iI b), .int (iI q)] [oG ag al (ab 0) (ap 0) (ac 0) (ak 0) (aw 0) af, oL al wide high border pattern, oB ab door, aC (cs 1) (ab 1) 96 pil, aC (cs 1) (ab 2) 96 bar, oP ap cnt, aC (cs 0) (ap 1) 96 ofc, aC (cs 0) (ap 2) 96 knd, aC (cs 0) (ap 3) 96 col, aC (cs 0) (ap 4) 96 row, aC (cs 0) (ap 5) 96 siz, aC (cs 0) (ap 6) 96 bw, aC (cs 0) (ap 7) 96 bh, oF (ap 8) fl fr ft fb, oC ac nt rc, aC (cs 0) (ac 1) 96 src, aC (cs 0) (ac 2) 96 rw, aC (cs 0) (ac 3) 96 rh, aC (cs 0) (ac 4) 96 rmk, oW aw hour grt beg, aC (cs 1) (aw 1) 8 laid, aC (cs 0) (aw 2) 8 dryh] (fun (z : Int) (u : (Int → Int) × Int × (Int → Int) × (Int → Int) × (Int → Int) × (Int → Int) × (Int → Int) × (Int → Int) × (Int → Int) × Int × Int × Int × Int × Int × Int × (Int → Int) × (Int → Int) × (Int → Int) × (Int → Int)) => (z = u.2.1) ∧ (u.1 = rnw pil bar laid door h b 8) ∧ (PFI w h b q u.1 96 u.2.1 u.2.2.1 u.2.2.2.1 u.2.2.2.2.1 u.2.2.2.2.2.1 u.2.2.2.2.2.2.1 u.2.2.2.2.2.2.2.1 u.2.2.2.2.2.2.2.2.1) ∧ (Rn u.2.2.2.1 0 2) ∧ (((u.2.2.2.2.2.2.2.2.2.2.2.2.2.2.1, u.2.2.2.2.2.2.2.2.2.2.2.2.2.2.2.1, u.2.2.2.2.2.2.2.2.2.2.2.2.2.2.2.2.1, u.2.2.2.2.2.2.2.2.2.2.2.2.2.2.2.2.2.1) : Rs) = ctR w h u.2.2.2.1 u.2.2.2.2.2.2.2.1 u.2.2.2.2.2.2.2.2.1 (rc, rw, rh, rmk) u.2.1.toNat) ∧ (u.2.2.2.2.2.2.2.2.2.2.2.2.2.1 = ctT w h u.2.2.2.1 u.2.2.2.2.2.2.2.1 u.2.2.2.2.2.2.2.2.1 (rc, rw, rh, rmk) u.2.1.toNat) ∧ (∀ j : Int, 0 ≤ j → j < u.2.1 → u.2.2.2.2.2.2.2.2.2.2.2.2.2.2.2.2.2.2 j = ctS w h u.2.2.2.1 u.2.2.2.2.2.2.2.1 u.2.2.2.2.2.2.2.2.1 (rc, rw, rh, rmk) j.toNat) ∧ (0 ≤ u.2.1 ∧ u.2.1 ≤ 96)) (fun u : (Int → Int) × Int × (Int → Int) × (Int → Int) × (Int → Int) × (Int → Int) × (Int → Int) × (Int → Int) × (Int → Int) × Int × Int × Int × Int × Int × Int × (Int → Int) × (Int → Int) × (Int → Int) × (Int → Int) => [oG ag al (ab 0) (ap 0) (ac 0) (ak 0) (aw 0) af, oL al w h b q, oB ab door, aC (cs 1) (ab 1) 96 pil, aC (cs 1) (ab 2) 96 u.1, oP ap u.2.1, aC (cs 0) (ap 1) 96 u.2.2.1, aC (cs 0) (ap 2) 96 u.2.2.2.1, aC (cs 0) (ap 3) 96 u.2.2.2.2.1, aC (cs 0) (ap 4) 96 u.2.2.2.2.2.1, aC (cs 0) (ap 5) 96 u.2.2.2.2.2.2.1, aC (cs 0) (ap 6) 96 u.2.2.2.2.2.2.2.1, aC (cs 0) (ap 7) 96 u.2.2.2.2.2.2.2.2.1, oF (ap 8) u.2.2.2.2.2.2.2.2.2.1 u.2.2.2.2.2.2.2.2.2.2.1 u.2.2.2.2.2.2.2.2.2.2.2.1 u.2.2.2.2.2.2.2.2.2.2.2.2.1, oC ac u.2.2.2.2.2.2.2.2.2.2.2.2.2.1 u.2.2.2.2.2.2.2.2.2.2.2.2.2.2.1, aC (cs 0) (ac 1) 96 u.2.2.2.2.2.2.2.2.2.2.2.2.2.2.2.2.2.2, aC (cs 0) (ac 2) 96 u.2.2.2.2.2.2.2.2.2.2.2.2.2.2.2.1, aC (cs 0) (ac 3) 96 u.2.2.2.2.2.2.2.2.2.2.2.2.2.2.2.2.1, aC (cs 0) (ac 4) 96 u.2.2.2.2.2.2.2.2.2.2.2.2.2.2.2.2.2.1, oW aw hour grt beg, aC (cs 1) (aw 1) 8 laid, aC (cs 0) (aw 2) 8 dryh]) 0 0 := by
  refine Ci_of (cc := cX7_plan) (nL := 5) (ret := (some .int)) (lv0 := [(0, .ref ag), (1, .int (iI w)), (2, .int (iI h)), (3, .int (iI b)), (4, .int (iI q))]) RX7 "plan" (by decide +kernel) rfl (Nat.le_of_ble_eq_true rfl) rfl (fun p9 e9 s9 m9 ar9 be9 me9 c9 A9 Q9 hQ hC => ?_)
  have iX7 : ∀ w ∈ wsX70, w ∈ wsX7_plan := by decide +kernel
  have iX6 : ∀ w ∈ wsX60, w ∈ wsX7_plan := by decide +kernel
  have iX4 : ∀ w ∈ wsX40, w ∈ wsX7_plan := by decide +kernel
  have L0 : Cond.fieldLink RX7 47 "Groutline" "work" "LGroutline$Work;" ∈ wsX7_plan := by decide +kernel
  have L1 : Cond.fieldLink RX7 76 "Groutline$Work" "hasBegun" "Z" ∈ wsX7_plan := by decide +kernel
  have L2 : Cond.fieldLink RX7 12 "Groutline" "layout" "LGroutline$Layout;" ∈ wsX7_plan := by decide +kernel
  have L3 : Cond.fieldLink RX7 26 "Groutline" "pieces" "LGroutline$Pieces;" ∈ wsX7_plan := by decide +kernel
  have L4 : Cond.fieldLink RX7 89 "Groutline$Pieces" "count" "I" ∈ wsX7_plan := by decide +kernel
  refine v_iload_n hC 1 1 dX7_plan_0 rfl rfl rfl ?_
  refine v_iconst hC 2 dX7_plan_1 rfl ?_
  refine v_iconst hC 3 dX7_plan_2 rfl ?_
  refine v_callSi hC 6 3 [] [0, 1, 2, 3, 4, 5, 6, 7, 8, 9, 10, 11, 12, 13, 14, 15, 16, 17, 18, 19, 20, 21] [oG ag al (ab 0) (ap 0) (ac 0) (ak 0) (aw 0) af, oL al wide high border pattern, oB ab door, aC (cs 1) (ab 1) 96 pil, aC (cs 1) (ab 2) 96 bar, oP ap cnt, aC (cs 0) (ap 1) 96 ofc, aC (cs 0) (ap 2) 96 knd, aC (cs 0) (ap 3) 96 col, aC (cs 0) (ap 4) 96 row, aC (cs 0) (ap 5) 96 siz, aC (cs 0) (ap 6) 96 bw, aC (cs 0) (ap 7) 96 bh, oF (ap 8) fl fr ft fb, oC ac nt rc, aC (cs 0) (ac 1) 96 src, aC (cs 0) (ac 2) 96 rw, aC (cs 0) (ac 3) 96 rh, aC (cs 0) (ac 4) 96 rmk, oW aw hour grt beg, aC (cs 1) (aw 1) 8 laid, aC (cs 0) (aw 2) 8 dryh] (As := [.int (iI w), .int (iI 1), .int (iI 4)]) (rest := []) (c_X7_isWithin lx D cs w 1 4 (by omega) (by omega) (by omega)) dX7_plan_3 rfl rfl gX7_plan_X7_isWithin rfl rfl rfl (by decide +kernel) ⟨by decide, by decide⟩ rfl rfl rfl rfl (by decide) rfl (Nat.le_of_ble_eq_true rfl) ⟨rfl, rfl⟩ ⟨by decide, by decide⟩ (fun z3 u3 h3 => ?_)
  (try dsimp only at h3)
  obtain ⟨h3_1, h3_2⟩ := h3
  show V p9 lx e9 ({ frames := 7, cells := 0, slots := 0, locals := 166 }) s9 m9 ar9 be9 me9 c9 Q9 D A9 s9.heap 5 0 0 [oG ag al (ab 0) (ap 0) (ac 0) (ak 0) (aw 0) af, oL al wide high border pattern, oB ab door, aC (cs 1) (ab 1) 96 pil, aC (cs 1) (ab 2) 96 bar, oP ap cnt, aC (cs 0) (ap 1) 96 ofc, aC (cs 0) (ap 2) 96 knd, aC (cs 0) (ap 3) 96 col, aC (cs 0) (ap 4) 96 row, aC (cs 0) (ap 5) 96 siz, aC (cs 0) (ap 6) 96 bw, aC (cs 0) (ap 7) 96 bh, oF (ap 8) fl fr ft fb, oC ac nt rc, aC (cs 0) (ac 1) 96 src, aC (cs 0) (ac 2) 96 rw, aC (cs 0) (ac 3) 96 rh, aC (cs 0) (ac 4) 96 rmk, oW aw hour grt beg, aC (cs 1) (aw 1) 8 laid, aC (cs 0) (aw 2) 8 dryh] [(0, .ref ag), (1, .int (iI w)), (2, .int (iI h)), (3, .int (iI b)), (4, .int (iI q))] 6 [.int (iI z3)]
  refine v_if_eq hC 18 9 dX7_plan_6 (by decide) rfl (by omega) (fun c_6 => ?_) (fun c_6 => ?_)
  · exfalso; omega
  · skip
    refine v_iload_n hC 10 2 dX7_plan_9 rfl rfl rfl ?_
    refine v_iconst hC 11 dX7_plan_10 rfl ?_
    refine v_iconst hC 12 dX7_plan_11 rfl ?_
    refine v_callSi hC 15 3 [] [0, 1, 2, 3, 4, 5, 6, 7, 8, 9, 10, 11, 12, 13, 14, 15, 16, 17, 18, 19, 20, 21] [oG ag al (ab 0) (ap 0) (ac 0) (ak 0) (aw 0) af, oL al wide high border pattern, oB ab door, aC (cs 1) (ab 1) 96 pil, aC (cs 1) (ab 2) 96 bar, oP ap cnt, aC (cs 0) (ap 1) 96 ofc, aC (cs 0) (ap 2) 96 knd, aC (cs 0) (ap 3) 96 col, aC (cs 0) (ap 4) 96 row, aC (cs 0) (ap 5) 96 siz, aC (cs 0) (ap 6) 96 bw, aC (cs 0) (ap 7) 96 bh, oF (ap 8) fl fr ft fb, oC ac nt rc, aC (cs 0) (ac 1) 96 src, aC (cs 0) (ac 2) 96 rw, aC (cs 0) (ac 3) 96 rh, aC (cs 0) (ac 4) 96 rmk, oW aw hour grt beg, aC (cs 1) (aw 1) 8 laid, aC (cs 0) (aw 2) 8 dryh] (As := [.int (iI h), .int (iI 1), .int (iI 4)]) (rest := []) (c_X7_isWithin lx D cs h 1 4 (by omega) (by omega) (by omega)) dX7_plan_12 rfl rfl gX7_plan_X7_isWithin rfl rfl rfl (by decide +kernel) ⟨by decide, by decide⟩ rfl rfl rfl rfl (by decide) rfl (Nat.le_of_ble_eq_true rfl) ⟨rfl, rfl⟩ ⟨by decide, by decide⟩ (fun z12 u12 h12 => ?_)
    (try dsimp only at h12)
    obtain ⟨h12_1, h12_2⟩ := h12
    show V p9 lx e9 ({ frames := 7, cells := 0, slots := 0, locals := 166 }) s9 m9 ar9 be9 me9 c9 Q9 D A9 s9.heap 5 0 0 [oG ag al (ab 0) (ap 0) (ac 0) (ak 0) (aw 0) af, oL al wide high border pattern, oB ab door, aC (cs 1) (ab 1) 96 pil, aC (cs 1) (ab 2) 96 bar, oP ap cnt, aC (cs 0) (ap 1) 96 ofc, aC (cs 0) (ap 2) 96 knd, aC (cs 0) (ap 3) 96 col, aC (cs 0) (ap 4) 96 row, aC (cs 0) (ap 5) 96 siz, aC (cs 0) (ap 6) 96 bw, aC (cs 0) (ap 7) 96 bh, oF (ap 8) fl fr ft fb, oC ac nt rc, aC (cs 0) (ac 1) 96 src, aC (cs 0) (ac 2) 96 rw, aC (cs 0) (ac 3) 96 rh, aC (cs 0) (ac 4) 96 rmk, oW aw hour grt beg, aC (cs 1) (aw 1) 8 laid, aC (cs 0) (aw 2) 8 dryh] [(0, .ref ag), (1, .int (iI w)), (2, .int (iI h)), (3, .int (iI b)), (4, .int (iI q))] 15 [.int (iI z12)]
    refine v_if_ne hC 28 18 dX7_plan_15 (by decide) rfl (by omega) (fun c_15 => ?_) (fun c_15 => ?_)
    · skip
      refine v_iload_n hC 29 3 dX7_plan_28 rfl rfl rfl ?_
      refine v_iconst hC 30 dX7_plan_29 rfl ?_
      refine v_iconst hC 31 dX7_plan_30 rfl ?_
      refine v_callSi hC 34 3 [] [0, 1, 2, 3, 4, 5, 6, 7, 8, 9, 10, 11, 12, 13, 14, 15, 16, 17, 18, 19, 20, 21] [oG ag al (ab 0) (ap 0) (ac 0) (ak 0) (aw 0) af, oL al wide high border pattern, oB ab door, aC (cs 1) (ab 1) 96 pil, aC (cs 1) (ab 2) 96 bar, oP ap cnt, aC (cs 0) (ap 1) 96 ofc, aC (cs 0) (ap 2) 96 knd, aC (cs 0) (ap 3) 96 col, aC (cs 0) (ap 4) 96 row, aC (cs 0) (ap 5) 96 siz, aC (cs 0) (ap 6) 96 bw, aC (cs 0) (ap 7) 96 bh, oF (ap 8) fl fr ft fb, oC ac nt rc, aC (cs 0) (ac 1) 96 src, aC (cs 0) (ac 2) 96 rw, aC (cs 0) (ac 3) 96 rh, aC (cs 0) (ac 4) 96 rmk, oW aw hour grt beg, aC (cs 1) (aw 1) 8 laid, aC (cs 0) (aw 2) 8 dryh] (As := [.int (iI b), .int (iI 0), .int (iI 2)]) (rest := []) (c_X7_isWithin lx D cs b 0 2 (by omega) (by omega) (by omega)) dX7_plan_31 rfl rfl gX7_plan_X7_isWithin rfl rfl rfl (by decide +kernel) ⟨by decide, by decide⟩ rfl rfl rfl rfl (by decide) rfl (Nat.le_of_ble_eq_true rfl) ⟨rfl, rfl⟩ ⟨by decide, by decide⟩ (fun z31 u31 h31 => ?_)
      (try dsimp only at h31)
      obtain ⟨h31_1, h31_2⟩ := h31
      show V p9 lx e9 ({ frames := 7, cells := 0, slots := 0, locals := 166 }) s9 m9 ar9 be9 me9 c9 Q9 D A9 s9.heap 5 0 0 [oG ag al (ab 0) (ap 0) (ac 0) (ak 0) (aw 0) af, oL al wide high border pattern, oB ab door, aC (cs 1) (ab 1) 96 pil, aC (cs 1) (ab 2) 96 bar, oP ap cnt, aC (cs 0) (ap 1) 96 ofc, aC (cs 0) (ap 2) 96 knd, aC (cs 0) (ap 3) 96 col, aC (cs 0) (ap 4) 96 row, aC (cs 0) (ap 5) 96 siz, aC (cs 0) (ap 6) 96 bw, aC (cs 0) (ap 7) 96 bh, oF (ap 8) fl fr ft fb, oC ac nt rc, aC (cs 0) (ac 1) 96 src, aC (cs 0) (ac 2) 96 rw, aC (cs 0) (ac 3) 96 rh, aC (cs 0) (ac 4) 96 rmk, oW aw hour grt beg, aC (cs 1) (aw 1) 8 laid, aC (cs 0) (aw 2) 8 dryh] [(0, .ref ag), (1, .int (iI w)), (2, .int (iI h)), (3, .int (iI b)), (4, .int (iI q))] 34 [.int (iI z31)]
      refine v_if_ne hC 47 37 dX7_plan_34 (by decide) rfl (by omega) (fun c_34 => ?_) (fun c_34 => ?_)
      · skip
        refine v_iload hC 49 4 dX7_plan_47 rfl rfl ?_
        refine v_if_eq hC 68 52 dX7_plan_49 (by decide) rfl (by omega) (fun c_49 => ?_) (fun c_49 => ?_)
        · skip
          refine v_aload_n hC 69 0 dX7_plan_68 rfl rfl rfl ?_
          refine v_get hC 72 0 5 (C := RX7) (T := TX7) (N := 7) dX7_plan_69 rfl iX7 L0 rfl rfl (by decide) rfl ?_
          refine v_get hC 75 19 2 (C := RX6) (T := TX6) (N := 5) dX7_plan_72 rfl iX6 L1 rfl rfl (by decide) rfl ?_
          refine v_if_eq hC 88 78 dX7_plan_75 (by decide) rfl (by omega) (fun c_75 => ?_) (fun c_75 => ?_)
          · skip
            refine v_aload_n hC 89 0 dX7_plan_88 rfl rfl rfl ?_
            refine v_get hC 92 0 0 (C := RX7) (T := TX7) (N := 7) dX7_plan_89 rfl iX7 L2 rfl rfl (by decide) rfl ?_
            refine v_iload_n hC 93 1 dX7_plan_92 rfl rfl rfl ?_
            refine v_iload_n hC 94 2 dX7_plan_93 rfl rfl rfl ?_
            refine v_iload_n hC 95 3 dX7_plan_94 rfl rfl rfl ?_
            refine v_iload hC 97 4 dX7_plan_95 rfl rfl ?_
            refine v_callVv hC 100 4 [1] [0, 2, 3, 4, 5, 6, 7, 8, 9, 10, 11, 12, 13, 14, 15, 16, 17, 18, 19, 20, 21] [oG ag al (ab 0) (ap 0) (ac 0) (ak 0) (aw 0) af, oB ab door, aC (cs 1) (ab 1) 96 pil, aC (cs 1) (ab 2) 96 bar, oP ap cnt, aC (cs 0) (ap 1) 96 ofc, aC (cs 0) (ap 2) 96 knd, aC (cs 0) (ap 3) 96 col, aC (cs 0) (ap 4) 96 row, aC (cs 0) (ap 5) 96 siz, aC (cs 0) (ap 6) 96 bw, aC (cs 0) (ap 7) 96 bh, oF (ap 8) fl fr ft fb, oC ac nt rc, aC (cs 0) (ac 1) 96 src, aC (cs 0) (ac 2) 96 rw, aC (cs 0) (ac 3) 96 rh, aC (cs 0) (ac 4) 96 rmk, oW aw hour grt beg, aC (cs 1) (aw 1) 8 laid, aC (cs 0) (aw 2) 8 dryh] (As := [.int (iI w), .int (iI h), .int (iI b), .int (iI q)]) (rest := []) (c_X3_set lx D cs al wide high border pattern w h b q ) dX7_plan_97 rfl rfl 1 rfl rfl gX7_plan_X3_set rfl rfl rfl (by decide +kernel) ⟨by decide, by decide⟩ rfl rfl rfl rfl (by decide) rfl (Nat.le_of_ble_eq_true rfl) ⟨rfl, rfl⟩ ⟨by decide, by decide⟩ (fun u97 h97 => ?_)
            (try dsimp only at h97)
            show V p9 lx e9 ({ frames := 7, cells := 0, slots := 0, locals := 166 }) s9 m9 ar9 be9 me9 c9 Q9 D A9 s9.heap 5 0 0 [oG ag al (ab 0) (ap 0) (ac 0) (ak 0) (aw 0) af, oB ab door, aC (cs 1) (ab 1) 96 pil, aC (cs 1) (ab 2) 96 bar, oP ap cnt, aC (cs 0) (ap 1) 96 ofc, aC (cs 0) (ap 2) 96 knd, aC (cs 0) (ap 3) 96 col, aC (cs 0) (ap 4) 96 row, aC (cs 0) (ap 5) 96 siz, aC (cs 0) (ap 6) 96 bw, aC (cs 0) (ap 7) 96 bh, oF (ap 8) fl fr ft fb, oC ac nt rc, aC (cs 0) (ac 1) 96 src, aC (cs 0) (ac 2) 96 rw, aC (cs 0) (ac 3) 96 rh, aC (cs 0) (ac 4) 96 rmk, oW aw hour grt beg, aC (cs 1) (aw 1) 8 laid, aC (cs 0) (aw 2) 8 dryh, oL al w h b q] [(0, .ref ag), (1, .int (iI w)), (2, .int (iI h)), (3, .int (iI b)), (4, .int (iI q))] 100 []
            refine v_aload_n hC 101 0 dX7_plan_100 rfl rfl rfl ?_
            refine v_callVv hC 104 0 [0, 21, 1, 2, 3, 4, 5, 6, 7, 8, 9, 10, 11, 12, 13, 14, 15, 16, 17, 18, 19, 20] [] [] (As := []) (rest := []) (c_X7_renew lx D cs ag al ab ap ac aw w h b q door pil bar cnt ofc knd col row siz bw bh fl fr ft fb nt rc src rw rh rmk hour grt beg laid dryh ak af (by omega) (by omega) (by omega) (by omega) (by omega) (by assumption) (by assumption) (by assumption) (by assumption) (by assumption)) dX7_plan_101 rfl rfl 0 rfl rfl gX7_plan_X7_renew rfl rfl rfl (by decide +kernel) ⟨by decide, by decide⟩ rfl rfl rfl rfl (by decide) rfl (Nat.le_of_ble_eq_true rfl) ⟨rfl, rfl⟩ ⟨by decide, by decide⟩ (fun u101 h101 => ?_)
            obtain ⟨bar1_101, cnt1_101, ofc1_101, knd1_101, col1_101, row1_101, siz1_101, bw1_101, bh1_101, fl1_101, fr1_101, ft1_101, fb1_101, nt1_101, rc1_101, rw1_101, rh1_101, rm1_101, src1_101⟩ := u101
            (try dsimp only at h101)
            obtain ⟨h101_1, h101_2, h101_3, h101_4, h101_5, h101_6, h101_7⟩ := h101
            show V p9 lx e9 ({ frames := 7, cells := 0, slots := 0, locals := 166 }) s9 m9 ar9 be9 me9 c9 Q9 D A9 s9.heap 5 0 0 [oG ag al (ab 0) (ap 0) (ac 0) (ak 0) (aw 0) af, oL al w h b q, oB ab door, aC (cs 1) (ab 1) 96 pil, aC (cs 1) (ab 2) 96 bar1_101, oP ap cnt1_101, aC (cs 0) (ap 1) 96 ofc1_101, aC (cs 0) (ap 2) 96 knd1_101, aC (cs 0) (ap 3) 96 col1_101, aC (cs 0) (ap 4) 96 row1_101, aC (cs 0) (ap 5) 96 siz1_101, aC (cs 0) (ap 6) 96 bw1_101, aC (cs 0) (ap 7) 96 bh1_101, oF (ap 8) fl1_101 fr1_101 ft1_101 fb1_101, oC ac nt1_101 rc1_101, aC (cs 0) (ac 1) 96 src1_101, aC (cs 0) (ac 2) 96 rw1_101, aC (cs 0) (ac 3) 96 rh1_101, aC (cs 0) (ac 4) 96 rm1_101, oW aw hour grt beg, aC (cs 1) (aw 1) 8 laid, aC (cs 0) (aw 2) 8 dryh] [(0, .ref ag), (1, .int (iI w)), (2, .int (iI h)), (3, .int (iI b)), (4, .int (iI q))] 104 []
            refine v_aload_n hC 105 0 dX7_plan_104 rfl rfl rfl ?_
            refine v_get hC 108 0 2 (C := RX7) (T := TX7) (N := 7) dX7_plan_105 rfl iX7 L3 rfl rfl (by decide) rfl ?_
            refine v_get hC 111 5 0 (C := RX4) (T := TX4) (N := 9) dX7_plan_108 rfl iX4 L4 rfl rfl (by decide) rfl ?_
            exact v_iret hC hQ (bar1_101, cnt1_101, ofc1_101, knd1_101, col1_101, row1_101, siz1_101, bw1_101, bh1_101, fl1_101, fr1_101, ft1_101, fb1_101, nt1_101, rc1_101, rw1_101, rh1_101, rm1_101, src1_101) [0, 1, 2, 3, 4, 5, 6, 7, 8, 9, 10, 11, 12, 13, 14, 15, 16, 17, 18, 19, 20, 21] dX7_plan_111 rfl rfl ⟨by decide, by decide⟩ ⟨by (try dsimp only); all_goals (first | rfl | omega), by (try dsimp only); all_goals (exact h101_1), by (try dsimp only); all_goals (exact h101_2), by (try dsimp only); all_goals (exact h101_3), by (try dsimp only); all_goals (exact h101_4), by (try dsimp only); all_goals (exact h101_5), by (try dsimp only); all_goals (exact h101_6), by (try dsimp only); all_goals (exact h101_7)⟩
          · exfalso; omega
        · skip
          refine v_iload hC 54 4 dX7_plan_52 rfl rfl ?_
          refine v_iconst hC 55 dX7_plan_54 rfl ?_
          refine v_icmp_eq hC 68 58 dX7_plan_55 (by decide) rfl (by omega) (by omega) (fun c_55 => ?_) (fun c_55 => ?_)
          · skip
            refine v_aload_n hC 69 0 dX7_plan_68 rfl rfl rfl ?_
            refine v_get hC 72 0 5 (C := RX7) (T := TX7) (N := 7) dX7_plan_69 rfl iX7 L0 rfl rfl (by decide) rfl ?_
            refine v_get hC 75 19 2 (C := RX6) (T := TX6) (N := 5) dX7_plan_72 rfl iX6 L1 rfl rfl (by decide) rfl ?_
            refine v_if_eq hC 88 78 dX7_plan_75 (by decide) rfl (by omega) (fun c_75 => ?_) (fun c_75 => ?_)
            · skip
              refine v_aload_n hC 89 0 dX7_plan_88 rfl rfl rfl ?_
              refine v_get hC 92 0 0 (C := RX7) (T := TX7) (N := 7) dX7_plan_89 rfl iX7 L2 rfl rfl (by decide) rfl ?_
              refine v_iload_n hC 93 1 dX7_plan_92 rfl rfl rfl ?_
              refine v_iload_n hC 94 2 dX7_plan_93 rfl rfl rfl ?_
              refine v_iload_n hC 95 3 dX7_plan_94 rfl rfl rfl ?_
              refine v_iload hC 97 4 dX7_plan_95 rfl rfl ?_
              refine v_callVv hC 100 4 [1] [0, 2, 3, 4, 5, 6, 7, 8, 9, 10, 11, 12, 13, 14, 15, 16, 17, 18, 19, 20, 21] [oG ag al (ab 0) (ap 0) (ac 0) (ak 0) (aw 0) af, oB ab door, aC (cs 1) (ab 1) 96 pil, aC (cs 1) (ab 2) 96 bar, oP ap cnt, aC (cs 0) (ap 1) 96 ofc, aC (cs 0) (ap 2) 96 knd, aC (cs 0) (ap 3) 96 col, aC (cs 0) (ap 4) 96 row, aC (cs 0) (ap 5) 96 siz, aC (cs 0) (ap 6) 96 bw, aC (cs 0) (ap 7) 96 bh, oF (ap 8) fl fr ft fb, oC ac nt rc, aC (cs 0) (ac 1) 96 src, aC (cs 0) (ac 2) 96 rw, aC (cs 0) (ac 3) 96 rh, aC (cs 0) (ac 4) 96 rmk, oW aw hour grt beg, aC (cs 1) (aw 1) 8 laid, aC (cs 0) (aw 2) 8 dryh] (As := [.int (iI w), .int (iI h), .int (iI b), .int (iI q)]) (rest := []) (c_X3_set lx D cs al wide high border pattern w h b q ) dX7_plan_97 rfl rfl 1 rfl rfl gX7_plan_X3_set rfl rfl rfl (by decide +kernel) ⟨by decide, by decide⟩ rfl rfl rfl rfl (by decide) rfl (Nat.le_of_ble_eq_true rfl) ⟨rfl, rfl⟩ ⟨by decide, by decide⟩ (fun u97 h97 => ?_)
              (try dsimp only at h97)
              show V p9 lx e9 ({ frames := 7, cells := 0, slots := 0, locals := 166 }) s9 m9 ar9 be9 me9 c9 Q9 D A9 s9.heap 5 0 0 [oG ag al (ab 0) (ap 0) (ac 0) (ak 0) (aw 0) af, oB ab door, aC (cs 1) (ab 1) 96 pil, aC (cs 1) (ab 2) 96 bar, oP ap cnt, aC (cs 0) (ap 1) 96 ofc, aC (cs 0) (ap 2) 96 knd, aC (cs 0) (ap 3) 96 col, aC (cs 0) (ap 4) 96 row, aC (cs 0) (ap 5) 96 siz, aC (cs 0) (ap 6) 96 bw, aC (cs 0) (ap 7) 96 bh, oF (ap 8) fl fr ft fb, oC ac nt rc, aC (cs 0) (ac 1) 96 src, aC (cs 0) (ac 2) 96 rw, aC (cs 0) (ac 3) 96 rh, aC (cs 0) (ac 4) 96 rmk, oW aw hour grt beg, aC (cs 1) (aw 1) 8 laid, aC (cs 0) (aw 2) 8 dryh, oL al w h b q] [(0, .ref ag), (1, .int (iI w)), (2, .int (iI h)), (3, .int (iI b)), (4, .int (iI q))] 100 []
              refine v_aload_n hC 101 0 dX7_plan_100 rfl rfl rfl ?_
              refine v_callVv hC 104 0 [0, 21, 1, 2, 3, 4, 5, 6, 7, 8, 9, 10, 11, 12, 13, 14, 15, 16, 17, 18, 19, 20] [] [] (As := []) (rest := []) (c_X7_renew lx D cs ag al ab ap ac aw w h b q door pil bar cnt ofc knd col row siz bw bh fl fr ft fb nt rc src rw rh rmk hour grt beg laid dryh ak af (by omega) (by omega) (by omega) (by omega) (by omega) (by assumption) (by assumption) (by assumption) (by assumption) (by assumption)) dX7_plan_101 rfl rfl 0 rfl rfl gX7_plan_X7_renew rfl rfl rfl (by decide +kernel) ⟨by decide, by decide⟩ rfl rfl rfl rfl (by decide) rfl (Nat.le_of_ble_eq_true rfl) ⟨rfl, rfl⟩ ⟨by decide, by decide⟩ (fun u101 h101 => ?_)
              obtain ⟨bar1_101, cnt1_101, ofc1_101, knd1_101, col1_101, row1_101, siz1_101, bw1_101, bh1_101, fl1_101, fr1_101, ft1_101, fb1_101, nt1_101, rc1_101, rw1_101, rh1_101, rm1_101, src1_101⟩ := u101
              (try dsimp only at h101)
              obtain ⟨h101_1, h101_2, h101_3, h101_4, h101_5, h101_6, h101_7⟩ := h101
              show V p9 lx e9 ({ frames := 7, cells := 0, slots := 0, locals := 166 }) s9 m9 ar9 be9 me9 c9 Q9 D A9 s9.heap 5 0 0 [oG ag al (ab 0) (ap 0) (ac 0) (ak 0) (aw 0) af, oL al w h b q, oB ab door, aC (cs 1) (ab 1) 96 pil, aC (cs 1) (ab 2) 96 bar1_101, oP ap cnt1_101, aC (cs 0) (ap 1) 96 ofc1_101, aC (cs 0) (ap 2) 96 knd1_101, aC (cs 0) (ap 3) 96 col1_101, aC (cs 0) (ap 4) 96 row1_101, aC (cs 0) (ap 5) 96 siz1_101, aC (cs 0) (ap 6) 96 bw1_101, aC (cs 0) (ap 7) 96 bh1_101, oF (ap 8) fl1_101 fr1_101 ft1_101 fb1_101, oC ac nt1_101 rc1_101, aC (cs 0) (ac 1) 96 src1_101, aC (cs 0) (ac 2) 96 rw1_101, aC (cs 0) (ac 3) 96 rh1_101, aC (cs 0) (ac 4) 96 rm1_101, oW aw hour grt beg, aC (cs 1) (aw 1) 8 laid, aC (cs 0) (aw 2) 8 dryh] [(0, .ref ag), (1, .int (iI w)), (2, .int (iI h)), (3, .int (iI b)), (4, .int (iI q))] 104 []
              refine v_aload_n hC 105 0 dX7_plan_104 rfl rfl rfl ?_
              refine v_get hC 108 0 2 (C := RX7) (T := TX7) (N := 7) dX7_plan_105 rfl iX7 L3 rfl rfl (by decide) rfl ?_
              refine v_get hC 111 5 0 (C := RX4) (T := TX4) (N := 9) dX7_plan_108 rfl iX4 L4 rfl rfl (by decide) rfl ?_
              exact v_iret hC hQ (bar1_101, cnt1_101, ofc1_101, knd1_101, col1_101, row1_101, siz1_101, bw1_101, bh1_101, fl1_101, fr1_101, ft1_101, fb1_101, nt1_101, rc1_101, rw1_101, rh1_101, rm1_101, src1_101) [0, 1, 2, 3, 4, 5, 6, 7, 8, 9, 10, 11, 12, 13, 14, 15, 16, 17, 18, 19, 20, 21] dX7_plan_111 rfl rfl ⟨by decide, by decide⟩ ⟨by (try dsimp only); all_goals (first | rfl | omega), by (try dsimp only); all_goals (exact h101_1), by (try dsimp only); all_goals (exact h101_2), by (try dsimp only); all_goals (exact h101_3), by (try dsimp only); all_goals (exact h101_4), by (try dsimp only); all_goals (exact h101_5), by (try dsimp only); all_goals (exact h101_6), by (try dsimp only); all_goals (exact h101_7)⟩
            · exfalso; omega
          · skip
            exfalso; omega
      · exfalso; omega
    · exfalso; omega

set_option maxHeartbeats 4000000 in
set_option maxRecDepth 100000 in
theorem t_X7_plan_1 (lx : Launch) (hfl : lx.stackTraces = false) (D : va_G) (cs : Nat → ClassId) (ag : Nat) (al : Nat) (ab : Nat → Nat) (ap : Nat → Nat) (ac : Nat → Nat) (aw : Nat → Nat) (wide : Int) (high : Int) (border : Int) (pattern : Int) (door : Int) (pil : Int → Int) (bar : Int → Int) (cnt : Int) (ofc : Int → Int) (knd : Int → Int) (col : Int → Int) (row : Int → Int) (siz : Int → Int) (bw : Int → Int) (bh : Int → Int) (fl : Int) (fr : Int) (ft : Int) (fb : Int) (nt : Int) (rc : Int) (src : Int → Int) (rw : Int → Int) (rh : Int → Int) (rmk : Int → Int) (hour : Int) (grt : Int) (beg : Int) (laid : Int → Int) (dryh : Int → Int) (ak : Nat → Nat) (af : Nat) (w : Int) (h : Int) (b : Int) (q : Int) (r1 : -2147483648 ≤ w ∧ w < 2147483648) (r2 : -2147483648 ≤ h ∧ h < 2147483648) (r3 : -2147483648 ≤ b ∧ b < 2147483648) (r4 : -2147483648 ≤ q ∧ q < 2147483648) (hno : ¬ ((1 ≤ w ∧ w ≤ 4) ∧ (1 ≤ h ∧ h ≤ 4) ∧ (0 ≤ b ∧ b ≤ 2) ∧ 0 ≤ q ∧ q ≤ 1)) : Xt lx D cs yX7_plan wsX7_plan ({ frames := 7, cells := 1, slots := 6, locals := 166 }) [.ref ag, .int (iI w), .int (iI h), .int (iI b), .int (iI q)] [oG ag al (ab 0) (ap 0) (ac 0) (ak 0) (aw 0) af, oL al wide high border pattern, oB ab door, aC (cs 1) (ab 1) 96 pil, aC (cs 1) (ab 2) 96 bar, oP ap cnt, aC (cs 0) (ap 1) 96 ofc, aC (cs 0) (ap 2) 96 knd, aC (cs 0) (ap 3) 96 col, aC (cs 0) (ap 4) 96 row, aC (cs 0) (ap 5) 96 siz, aC (cs 0) (ap 6) 96 bw, aC (cs 0) (ap 7) 96 bh, oF (ap 8) fl fr ft fb, oC ac nt rc, aC (cs 0) (ac 1) 96 src, aC (cs 0) (ac 2) 96 rw, aC (cs 0) (ac 3) 96 rh, aC (cs 0) (ac 4) 96 rmk, oW aw hour grt beg, aC (cs 1) (aw 1) 8 laid, aC (cs 0) (aw 2) 8 dryh] IAE 1 6 := by
  refine Xt_of (cc := cX7_plan) (nL := 5) (ret := (some .int)) (lv0 := [(0, .ref ag), (1, .int (iI w)), (2, .int (iI h)), (3, .int (iI b)), (4, .int (iI q))]) RX7 "plan" (by decide +kernel) rfl (Nat.le_of_ble_eq_true rfl) rfl (fun p9 e9 s9 m9 ar9 be9 me9 c9 A9 Q9 hQ hC hT htab => ?_)
  have L0 : Cond.classLink RX7 65 IAE ∈ wsX7_plan := by decide +kernel
  have L1 : Cond.initialized IAE ∈ wsX7_plan := by decide +kernel
  refine v_iload_n hC 1 1 dX7_plan_0 rfl rfl rfl ?_
  refine v_iconst hC 2 dX7_plan_1 rfl ?_
  refine v_iconst hC 3 dX7_plan_2 rfl ?_
  refine v_callSi hC 6 3 [] [0, 1, 2, 3, 4, 5, 6, 7, 8, 9, 10, 11, 12, 13, 14, 15, 16, 17, 18, 19, 20, 21] [oG ag al (ab 0) (ap 0) (ac 0) (ak 0) (aw 0) af, oL al wide high border pattern, oB ab door, aC (cs 1) (ab 1) 96 pil, aC (cs 1) (ab 2) 96 bar, oP ap cnt, aC (cs 0) (ap 1) 96 ofc, aC (cs 0) (ap 2) 96 knd, aC (cs 0) (ap 3) 96 col, aC (cs 0) (ap 4) 96 row, aC (cs 0) (ap 5) 96 siz, aC (cs 0) (ap 6) 96 bw, aC (cs 0) (ap 7) 96 bh, oF (ap 8) fl fr ft fb, oC ac nt rc, aC (cs 0) (ac 1) 96 src, aC (cs 0) (ac 2) 96 rw, aC (cs 0) (ac 3) 96 rh, aC (cs 0) (ac 4) 96 rmk, oW aw hour grt beg, aC (cs 1) (aw 1) 8 laid, aC (cs 0) (aw 2) 8 dryh] (As := [.int (iI w), .int (iI 1), .int (iI 4)]) (rest := []) (c_X7_isWithin lx D cs w 1 4 (by omega) (by omega) (by omega)) dX7_plan_3 rfl rfl gX7_plan_X7_isWithin rfl rfl rfl (by decide +kernel) ⟨by decide, by decide⟩ rfl rfl rfl rfl (by decide) rfl (Nat.le_of_ble_eq_true rfl) ⟨rfl, rfl⟩ ⟨by decide, by decide⟩ (fun z3 u3 h3 => ?_)
  (try dsimp only at h3)
  obtain ⟨h3_1, h3_2⟩ := h3
  show V p9 lx e9 ({ frames := 7, cells := 1, slots := 6, locals := 166 }) s9 m9 ar9 be9 me9 c9 Q9 D A9 s9.heap 5 0 0 [oG ag al (ab 0) (ap 0) (ac 0) (ak 0) (aw 0) af, oL al wide high border pattern, oB ab door, aC (cs 1) (ab 1) 96 pil, aC (cs 1) (ab 2) 96 bar, oP ap cnt, aC (cs 0) (ap 1) 96 ofc, aC (cs 0) (ap 2) 96 knd, aC (cs 0) (ap 3) 96 col, aC (cs 0) (ap 4) 96 row, aC (cs 0) (ap 5) 96 siz, aC (cs 0) (ap 6) 96 bw, aC (cs 0) (ap 7) 96 bh, oF (ap 8) fl fr ft fb, oC ac nt rc, aC (cs 0) (ac 1) 96 src, aC (cs 0) (ac 2) 96 rw, aC (cs 0) (ac 3) 96 rh, aC (cs 0) (ac 4) 96 rmk, oW aw hour grt beg, aC (cs 1) (aw 1) 8 laid, aC (cs 0) (aw 2) 8 dryh] [(0, .ref ag), (1, .int (iI w)), (2, .int (iI h)), (3, .int (iI b)), (4, .int (iI q))] 6 [.int (iI z3)]
  refine v_if_eq hC 18 9 dX7_plan_6 (by decide) rfl (by omega) (fun c_6 => ?_) (fun c_6 => ?_)
  · skip
    exact v_throw (ik := 65) (is := 67) (ic := 69) (E := IAE) (text := "a tile is 1 to 4 cells wide and high") hC hfl hT htab hQ dX7_plan_18 dX7_plan_21 dX7_plan_22 dX7_plan_24 dX7_plan_27 thr_fitIAE L0 L1 (by decide +kernel) (by decide +kernel) thr_a69 thr_g65_69 [0, 1, 2, 3, 4, 5, 6, 7, 8, 9, 10, 11, 12, 13, 14, 15, 16, 17, 18, 19, 20, 21] rfl ⟨by decide, Nat.le_of_ble_eq_true rfl, by decide, by decide⟩ ⟨by decide, by decide⟩
  · skip
    refine v_iload_n hC 10 2 dX7_plan_9 rfl rfl rfl ?_
    refine v_iconst hC 11 dX7_plan_10 rfl ?_
    refine v_iconst hC 12 dX7_plan_11 rfl ?_
    refine v_callSi hC 15 3 [] [0, 1, 2, 3, 4, 5, 6, 7, 8, 9, 10, 11, 12, 13, 14, 15, 16, 17, 18, 19, 20, 21] [oG ag al (ab 0) (ap 0) (ac 0) (ak 0) (aw 0) af, oL al wide high border pattern, oB ab door, aC (cs 1) (ab 1) 96 pil, aC (cs 1) (ab 2) 96 bar, oP ap cnt, aC (cs 0) (ap 1) 96 ofc, aC (cs 0) (ap 2) 96 knd, aC (cs 0) (ap 3) 96 col, aC (cs 0) (ap 4) 96 row, aC (cs 0) (ap 5) 96 siz, aC (cs 0) (ap 6) 96 bw, aC (cs 0) (ap 7) 96 bh, oF (ap 8) fl fr ft fb, oC ac nt rc, aC (cs 0) (ac 1) 96 src, aC (cs 0) (ac 2) 96 rw, aC (cs 0) (ac 3) 96 rh, aC (cs 0) (ac 4) 96 rmk, oW aw hour grt beg, aC (cs 1) (aw 1) 8 laid, aC (cs 0) (aw 2) 8 dryh] (As := [.int (iI h), .int (iI 1), .int (iI 4)]) (rest := []) (c_X7_isWithin lx D cs h 1 4 (by omega) (by omega) (by omega)) dX7_plan_12 rfl rfl gX7_plan_X7_isWithin rfl rfl rfl (by decide +kernel) ⟨by decide, by decide⟩ rfl rfl rfl rfl (by decide) rfl (Nat.le_of_ble_eq_true rfl) ⟨rfl, rfl⟩ ⟨by decide, by decide⟩ (fun z12 u12 h12 => ?_)
    (try dsimp only at h12)
    obtain ⟨h12_1, h12_2⟩ := h12
    show V p9 lx e9 ({ frames := 7, cells := 1, slots := 6, locals := 166 }) s9 m9 ar9 be9 me9 c9 Q9 D A9 s9.heap 5 0 0 [oG ag al (ab 0) (ap 0) (ac 0) (ak 0) (aw 0) af, oL al wide high border pattern, oB ab door, aC (cs 1) (ab 1) 96 pil, aC (cs 1) (ab 2) 96 bar, oP ap cnt, aC (cs 0) (ap 1) 96 ofc, aC (cs 0) (ap 2) 96 knd, aC (cs 0) (ap 3) 96 col, aC (cs 0) (ap 4) 96 row, aC (cs 0) (ap 5) 96 siz, aC (cs 0) (ap 6) 96 bw, aC (cs 0) (ap 7) 96 bh, oF (ap 8) fl fr ft fb, oC ac nt rc, aC (cs 0) (ac 1) 96 src, aC (cs 0) (ac 2) 96 rw, aC (cs 0) (ac 3) 96 rh, aC (cs 0) (ac 4) 96 rmk, oW aw hour grt beg, aC (cs 1) (aw 1) 8 laid, aC (cs 0) (aw 2) 8 dryh] [(0, .ref ag), (1, .int (iI w)), (2, .int (iI h)), (3, .int (iI b)), (4, .int (iI q))] 15 [.int (iI z12)]
    refine v_if_ne hC 28 18 dX7_plan_15 (by decide) rfl (by omega) (fun c_15 => ?_) (fun c_15 => ?_)
    · skip
      refine v_iload_n hC 29 3 dX7_plan_28 rfl rfl rfl ?_
      refine v_iconst hC 30 dX7_plan_29 rfl ?_
      refine v_iconst hC 31 dX7_plan_30 rfl ?_
      refine v_callSi hC 34 3 [] [0, 1, 2, 3, 4, 5, 6, 7, 8, 9, 10, 11, 12, 13, 14, 15, 16, 17, 18, 19, 20, 21] [oG ag al (ab 0) (ap 0) (ac 0) (ak 0) (aw 0) af, oL al wide high border pattern, oB ab door, aC (cs 1) (ab 1) 96 pil, aC (cs 1) (ab 2) 96 bar, oP ap cnt, aC (cs 0) (ap 1) 96 ofc, aC (cs 0) (ap 2) 96 knd, aC (cs 0) (ap 3) 96 col, aC (cs 0) (ap 4) 96 row, aC (cs 0) (ap 5) 96 siz, aC (cs 0) (ap 6) 96 bw, aC (cs 0) (ap 7) 96 bh, oF (ap 8) fl fr ft fb, oC ac nt rc, aC (cs 0) (ac 1) 96 src, aC (cs 0) (ac 2) 96 rw, aC (cs 0) (ac 3) 96 rh, aC (cs 0) (ac 4) 96 rmk, oW aw hour grt beg, aC (cs 1) (aw 1) 8 laid, aC (cs 0) (aw 2) 8 dryh] (As := [.int (iI b), .int (iI 0), .int (iI 2)]) (rest := []) (c_X7_isWithin lx D cs b 0 2 (by omega) (by omega) (by omega)) dX7_plan_31 rfl rfl gX7_plan_X7_isWithin rfl rfl rfl (by decide +kernel) ⟨by decide, by decide⟩ rfl rfl rfl rfl (by decide) rfl (Nat.le_of_ble_eq_true rfl) ⟨rfl, rfl⟩ ⟨by decide, by decide⟩ (fun z31 u31 h31 => ?_)
      (try dsimp only at h31)
      obtain ⟨h31_1, h31_2⟩ := h31
      show V p9 lx e9 ({ frames := 7, cells := 1, slots := 6, locals := 166 }) s9 m9 ar9 be9 me9 c9 Q9 D A9 s9.heap 5 0 0 [oG ag al (ab 0) (ap 0) (ac 0) (ak 0) (aw 0) af, oL al wide high border pattern, oB ab door, aC (cs 1) (ab 1) 96 pil, aC (cs 1) (ab 2) 96 bar, oP ap cnt, aC (cs 0) (ap 1) 96 ofc, aC (cs 0) (ap 2) 96 knd, aC (cs 0) (ap 3) 96 col, aC (cs 0) (ap 4) 96 row, aC (cs 0) (ap 5) 96 siz, aC (cs 0) (ap 6) 96 bw, aC (cs 0) (ap 7) 96 bh, oF (ap 8) fl fr ft fb, oC ac nt rc, aC (cs 0) (ac 1) 96 src, aC (cs 0) (ac 2) 96 rw, aC (cs 0) (ac 3) 96 rh, aC (cs 0) (ac 4) 96 rmk, oW aw hour grt beg, aC (cs 1) (aw 1) 8 laid, aC (cs 0) (aw 2) 8 dryh] [(0, .ref ag), (1, .int (iI w)), (2, .int (iI h)), (3, .int (iI b)), (4, .int (iI q))] 34 [.int (iI z31)]
      refine v_if_ne hC 47 37 dX7_plan_34 (by decide) rfl (by omega) (fun c_34 => ?_) (fun c_34 => ?_)
      · skip
        refine v_iload hC 49 4 dX7_plan_47 rfl rfl ?_
        refine v_if_eq hC 68 52 dX7_plan_49 (by decide) rfl (by omega) (fun c_49 => ?_) (fun c_49 => ?_)
        · skip
          exfalso; omega
        · skip
          refine v_iload hC 54 4 dX7_plan_52 rfl rfl ?_
          refine v_iconst hC 55 dX7_plan_54 rfl ?_
          refine v_icmp_eq hC 68 58 dX7_plan_55 (by decide) rfl (by omega) (by omega) (fun c_55 => ?_) (fun c_55 => ?_)
          · skip
            exfalso; omega
          · skip
            exact v_throw (ik := 65) (is := 74) (ic := 69) (E := IAE) (text := "a pattern is STRAIGHT or BOND") hC hfl hT htab hQ dX7_plan_58 dX7_plan_61 dX7_plan_62 dX7_plan_64 dX7_plan_67 thr_fitIAE L0 L1 (by decide +kernel) (by decide +kernel) thr_a69 thr_g65_69 [0, 1, 2, 3, 4, 5, 6, 7, 8, 9, 10, 11, 12, 13, 14, 15, 16, 17, 18, 19, 20, 21] rfl ⟨by decide, Nat.le_of_ble_eq_true rfl, by decide, by decide⟩ ⟨by decide, by decide⟩
      · skip
        exact v_throw (ik := 65) (is := 72) (ic := 69) (E := IAE) (text := "a border has 0 to 2 cells") hC hfl hT htab hQ dX7_plan_37 dX7_plan_40 dX7_plan_41 dX7_plan_43 dX7_plan_46 thr_fitIAE L0 L1 (by decide +kernel) (by decide +kernel) thr_a69 thr_g65_69 [0, 1, 2, 3, 4, 5, 6, 7, 8, 9, 10, 11, 12, 13, 14, 15, 16, 17, 18, 19, 20, 21] rfl ⟨by decide, Nat.le_of_ble_eq_true rfl, by decide, by decide⟩ ⟨by decide, by decide⟩
    · skip
      exact v_throw (ik := 65) (is := 67) (ic := 69) (E := IAE) (text := "a tile is 1 to 4 cells wide and high") hC hfl hT htab hQ dX7_plan_18 dX7_plan_21 dX7_plan_22 dX7_plan_24 dX7_plan_27 thr_fitIAE L0 L1 (by decide +kernel) (by decide +kernel) thr_a69 thr_g65_69 [0, 1, 2, 3, 4, 5, 6, 7, 8, 9, 10, 11, 12, 13, 14, 15, 16, 17, 18, 19, 20, 21] rfl ⟨by decide, Nat.le_of_ble_eq_true rfl, by decide, by decide⟩ ⟨by decide, by decide⟩

set_option maxHeartbeats 4000000 in
set_option maxRecDepth 100000 in
theorem t_X7_plan_2 (lx : Launch) (hfl : lx.stackTraces = false) (D : va_G) (cs : Nat → ClassId) (ag : Nat) (al : Nat) (ab : Nat → Nat) (ap : Nat → Nat) (ac : Nat → Nat) (aw : Nat → Nat) (wide : Int) (high : Int) (border : Int) (pattern : Int) (door : Int) (pil : Int → Int) (bar : Int → Int) (cnt : Int) (ofc : Int → Int) (knd : Int → Int) (col : Int → Int) (row : Int → Int) (siz : Int → Int) (bw : Int → Int) (bh : Int → Int) (fl : Int) (fr : Int) (ft : Int) (fb : Int) (nt : Int) (rc : Int) (src : Int → Int) (rw : Int → Int) (rh : Int → Int) (rmk : Int → Int) (hour : Int) (grt : Int) (beg : Int) (laid : Int → Int) (dryh : Int → Int) (ak : Nat → Nat) (af : Nat) (w : Int) (h : Int) (b : Int) (q : Int) (r1 : -2147483648 ≤ w ∧ w < 2147483648) (r2 : -2147483648 ≤ h ∧ h < 2147483648) (r3 : -2147483648 ≤ b ∧ b < 2147483648) (r4 : -2147483648 ≤ q ∧ q < 2147483648) (hno : ((1 ≤ w ∧ w ≤ 4) ∧ (1 ≤ h ∧ h ≤ 4) ∧ (0 ≤ b ∧ b ≤ 2) ∧ 0 ≤ q ∧ q ≤ 1)) (hbeg : beg = 1) : Xt lx D cs yX7_plan wsX7_plan ({ frames := 7, cells := 1, slots := 6, locals := 166 }) [.ref ag, .int (iI w), .int (iI h), .int (iI b), .int (iI q)] [oG ag al (ab 0) (ap 0) (ac 0) (ak 0) (aw 0) af, oL al wide high border pattern, oB ab door, aC (cs 1) (ab 1) 96 pil, aC (cs 1) (ab 2) 96 bar, oP ap cnt, aC (cs 0) (ap 1) 96 ofc, aC (cs 0) (ap 2) 96 knd, aC (cs 0) (ap 3) 96 col, aC (cs 0) (ap 4) 96 row, aC (cs 0) (ap 5) 96 siz, aC (cs 0) (ap 6) 96 bw, aC (cs 0) (ap 7) 96 bh, oF (ap 8) fl fr ft fb, oC ac nt rc, aC (cs 0) (ac 1) 96 src, aC (cs 0) (ac 2) 96 rw, aC (cs 0) (ac 3) 96 rh, aC (cs 0) (ac 4) 96 rmk, oW aw hour grt beg, aC (cs 1) (aw 1) 8 laid, aC (cs 0) (aw 2) 8 dryh] ISE 1 6 := by
  refine Xt_of (cc := cX7_plan) (nL := 5) (ret := (some .int)) (lv0 := [(0, .ref ag), (1, .int (iI w)), (2, .int (iI h)), (3, .int (iI b)), (4, .int (iI q))]) RX7 "plan" (by decide +kernel) rfl (Nat.le_of_ble_eq_true rfl) rfl (fun p9 e9 s9 m9 ar9 be9 me9 c9 A9 Q9 hQ hC hT htab => ?_)
  have iX7 : ∀ w ∈ wsX70, w ∈ wsX7_plan := by decide +kernel
  have iX6 : ∀ w ∈ wsX60, w ∈ wsX7_plan := by decide +kernel
  have L0 : Cond.fieldLink RX7 47 "Groutline" "work" "LGroutline$Work;" ∈ wsX7_plan := by decide +kernel
  have L1 : Cond.fieldLink RX7 76 "Groutline$Work" "hasBegun" "Z" ∈ wsX7_plan := by decide +kernel
  have L2 : Cond.classLink RX7 80 ISE ∈ wsX7_plan := by decide +kernel
  have L3 : Cond.initialized ISE ∈ wsX7_plan := by decide +kernel
  refine v_iload_n hC 1 1 dX7_plan_0 rfl rfl rfl ?_
  refine v_iconst hC 2 dX7_plan_1 rfl ?_
  refine v_iconst hC 3 dX7_plan_2 rfl ?_
  refine v_callSi hC 6 3 [] [0, 1, 2, 3, 4, 5, 6, 7, 8, 9, 10, 11, 12, 13, 14, 15, 16, 17, 18, 19, 20, 21] [oG ag al (ab 0) (ap 0) (ac 0) (ak 0) (aw 0) af, oL al wide high border pattern, oB ab door, aC (cs 1) (ab 1) 96 pil, aC (cs 1) (ab 2) 96 bar, oP ap cnt, aC (cs 0) (ap 1) 96 ofc, aC (cs 0) (ap 2) 96 knd, aC (cs 0) (ap 3) 96 col, aC (cs 0) (ap 4) 96 row, aC (cs 0) (ap 5) 96 siz, aC (cs 0) (ap 6) 96 bw, aC (cs 0) (ap 7) 96 bh, oF (ap 8) fl fr ft fb, oC ac nt rc, aC (cs 0) (ac 1) 96 src, aC (cs 0) (ac 2) 96 rw, aC (cs 0) (ac 3) 96 rh, aC (cs 0) (ac 4) 96 rmk, oW aw hour grt beg, aC (cs 1) (aw 1) 8 laid, aC (cs 0) (aw 2) 8 dryh] (As := [.int (iI w), .int (iI 1), .int (iI 4)]) (rest := []) (c_X7_isWithin lx D cs w 1 4 (by omega) (by omega) (by omega)) dX7_plan_3 rfl rfl gX7_plan_X7_isWithin rfl rfl rfl (by decide +kernel) ⟨by decide, by decide⟩ rfl rfl rfl rfl (by decide) rfl (Nat.le_of_ble_eq_true rfl) ⟨rfl, rfl⟩ ⟨by decide, by decide⟩ (fun z3 u3 h3 => ?_)
  (try dsimp only at h3)
  obtain ⟨h3_1, h3_2⟩ := h3
  show V p9 lx e9 ({ frames := 7, cells := 1, slots := 6, locals := 166 }) s9 m9 ar9 be9 me9 c9 Q9 D A9 s9.heap 5 0 0 [oG ag al (ab 0) (ap 0) (ac 0) (ak 0) (aw 0) af, oL al wide high border pattern, oB ab door, aC (cs 1) (ab 1) 96 pil, aC (cs 1) (ab 2) 96 bar, oP ap cnt, aC (cs 0) (ap 1) 96 ofc, aC (cs 0) (ap 2) 96 knd, aC (cs 0) (ap 3) 96 col, aC (cs 0) (ap 4) 96 row, aC (cs 0) (ap 5) 96 siz, aC (cs 0) (ap 6) 96 bw, aC (cs 0) (ap 7) 96 bh, oF (ap 8) fl fr ft fb, oC ac nt rc, aC (cs 0) (ac 1) 96 src, aC (cs 0) (ac 2) 96 rw, aC (cs 0) (ac 3) 96 rh, aC (cs 0) (ac 4) 96 rmk, oW aw hour grt beg, aC (cs 1) (aw 1) 8 laid, aC (cs 0) (aw 2) 8 dryh] [(0, .ref ag), (1, .int (iI w)), (2, .int (iI h)), (3, .int (iI b)), (4, .int (iI q))] 6 [.int (iI z3)]
  refine v_if_eq hC 18 9 dX7_plan_6 (by decide) rfl (by omega) (fun c_6 => ?_) (fun c_6 => ?_)
  · skip
    exfalso; omega
  · skip
    refine v_iload_n hC 10 2 dX7_plan_9 rfl rfl rfl ?_
    refine v_iconst hC 11 dX7_plan_10 rfl ?_
    refine v_iconst hC 12 dX7_plan_11 rfl ?_
    refine v_callSi hC 15 3 [] [0, 1, 2, 3, 4, 5, 6, 7, 8, 9, 10, 11, 12, 13, 14, 15, 16, 17, 18, 19, 20, 21] [oG ag al (ab 0) (ap 0) (ac 0) (ak 0) (aw 0) af, oL al wide high border pattern, oB ab door, aC (cs 1) (ab 1) 96 pil, aC (cs 1) (ab 2) 96 bar, oP ap cnt, aC (cs 0) (ap 1) 96 ofc, aC (cs 0) (ap 2) 96 knd, aC (cs 0) (ap 3) 96 col, aC (cs 0) (ap 4) 96 row, aC (cs 0) (ap 5) 96 siz, aC (cs 0) (ap 6) 96 bw, aC (cs 0) (ap 7) 96 bh, oF (ap 8) fl fr ft fb, oC ac nt rc, aC (cs 0) (ac 1) 96 src, aC (cs 0) (ac 2) 96 rw, aC (cs 0) (ac 3) 96 rh, aC (cs 0) (ac 4) 96 rmk, oW aw hour grt beg, aC (cs 1) (aw 1) 8 laid, aC (cs 0) (aw 2) 8 dryh] (As := [.int (iI h), .int (iI 1), .int (iI 4)]) (rest := []) (c_X7_isWithin lx D cs h 1 4 (by omega) (by omega) (by omega)) dX7_plan_12 rfl rfl gX7_plan_X7_isWithin rfl rfl rfl (by decide +kernel) ⟨by decide, by decide⟩ rfl rfl rfl rfl (by decide) rfl (Nat.le_of_ble_eq_true rfl) ⟨rfl, rfl⟩ ⟨by decide, by decide⟩ (fun z12 u12 h12 => ?_)
    (try dsimp only at h12)
    obtain ⟨h12_1, h12_2⟩ := h12
    show V p9 lx e9 ({ frames := 7, cells := 1, slots := 6, locals := 166 }) s9 m9 ar9 be9 me9 c9 Q9 D A9 s9.heap 5 0 0 [oG ag al (ab 0) (ap 0) (ac 0) (ak 0) (aw 0) af, oL al wide high border pattern, oB ab door, aC (cs 1) (ab 1) 96 pil, aC (cs 1) (ab 2) 96 bar, oP ap cnt, aC (cs 0) (ap 1) 96 ofc, aC (cs 0) (ap 2) 96 knd, aC (cs 0) (ap 3) 96 col, aC (cs 0) (ap 4) 96 row, aC (cs 0) (ap 5) 96 siz, aC (cs 0) (ap 6) 96 bw, aC (cs 0) (ap 7) 96 bh, oF (ap 8) fl fr ft fb, oC ac nt rc, aC (cs 0) (ac 1) 96 src, aC (cs 0) (ac 2) 96 rw, aC (cs 0) (ac 3) 96 rh, aC (cs 0) (ac 4) 96 rmk, oW aw hour grt beg, aC (cs 1) (aw 1) 8 laid, aC (cs 0) (aw 2) 8 dryh] [(0, .ref ag), (1, .int (iI w)), (2, .int (iI h)), (3, .int (iI b)), (4, .int (iI q))] 15 [.int (iI z12)]
    refine v_if_ne hC 28 18 dX7_plan_15 (by decide) rfl (by omega) (fun c_15 => ?_) (fun c_15 => ?_)
    · skip
      refine v_iload_n hC 29 3 dX7_plan_28 rfl rfl rfl ?_
      refine v_iconst hC 30 dX7_plan_29 rfl ?_
      refine v_iconst hC 31 dX7_plan_30 rfl ?_
      refine v_callSi hC 34 3 [] [0, 1, 2, 3, 4, 5, 6, 7, 8, 9, 10, 11, 12, 13, 14, 15, 16, 17, 18, 19, 20, 21] [oG ag al (ab 0) (ap 0) (ac 0) (ak 0) (aw 0) af, oL al wide high border pattern, oB ab door, aC (cs 1) (ab 1) 96 pil, aC (cs 1) (ab 2) 96 bar, oP ap cnt, aC (cs 0) (ap 1) 96 ofc, aC (cs 0) (ap 2) 96 knd, aC (cs 0) (ap 3) 96 col, aC (cs 0) (ap 4) 96 row, aC (cs 0) (ap 5) 96 siz, aC (cs 0) (ap 6) 96 bw, aC (cs 0) (ap 7) 96 bh, oF (ap 8) fl fr ft fb, oC ac nt rc, aC (cs 0) (ac 1) 96 src, aC (cs 0) (ac 2) 96 rw, aC (cs 0) (ac 3) 96 rh, aC (cs 0) (ac 4) 96 rmk, oW aw hour grt beg, aC (cs 1) (aw 1) 8 laid, aC (cs 0) (aw 2) 8 dryh] (As := [.int (iI b), .int (iI 0), .int (iI 2)]) (rest := []) (c_X7_isWithin lx D cs b 0 2 (by omega) (by omega) (by omega)) dX7_plan_31 rfl rfl gX7_plan_X7_isWithin rfl rfl rfl (by decide +kernel) ⟨by decide, by decide⟩ rfl rfl rfl rfl (by decide) rfl (Nat.le_of_ble_eq_true rfl) ⟨rfl, rfl⟩ ⟨by decide, by decide⟩ (fun z31 u31 h31 => ?_)
      (try dsimp only at h31)
      obtain ⟨h31_1, h31_2⟩ := h31
      show V p9 lx e9 ({ frames := 7, cells := 1, slots := 6, locals := 166 }) s9 m9 ar9 be9 me9 c9 Q9 D A9 s9.heap 5 0 0 [oG ag al (ab 0) (ap 0) (ac 0) (ak 0) (aw 0) af, oL al wide high border pattern, oB ab door, aC (cs 1) (ab 1) 96 pil, aC (cs 1) (ab 2) 96 bar, oP ap cnt, aC (cs 0) (ap 1) 96 ofc, aC (cs 0) (ap 2) 96 knd, aC (cs 0) (ap 3) 96 col, aC (cs 0) (ap 4) 96 row, aC (cs 0) (ap 5) 96 siz, aC (cs 0) (ap 6) 96 bw, aC (cs 0) (ap 7) 96 bh, oF (ap 8) fl fr ft fb, oC ac nt rc, aC (cs 0) (ac 1) 96 src, aC (cs 0) (ac 2) 96 rw, aC (cs 0) (ac 3) 96 rh, aC (cs 0) (ac 4) 96 rmk, oW aw hour grt beg, aC (cs 1) (aw 1) 8 laid, aC (cs 0) (aw 2) 8 dryh] [(0, .ref ag), (1, .int (iI w)), (2, .int (iI h)), (3, .int (iI b)), (4, .int (iI q))] 34 [.int (iI z31)]
      refine v_if_ne hC 47 37 dX7_plan_34 (by decide) rfl (by omega) (fun c_34 => ?_) (fun c_34 => ?_)
      · skip
        refine v_iload hC 49 4 dX7_plan_47 rfl rfl ?_
        refine v_if_eq hC 68 52 dX7_plan_49 (by decide) rfl (by omega) (fun c_49 => ?_) (fun c_49 => ?_)
        · skip
          refine v_aload_n hC 69 0 dX7_plan_68 rfl rfl rfl ?_
          refine v_get hC 72 0 5 (C := RX7) (T := TX7) (N := 7) dX7_plan_69 rfl iX7 L0 rfl rfl (by decide) rfl ?_
          refine v_get hC 75 19 2 (C := RX6) (T := TX6) (N := 5) dX7_plan_72 rfl iX6 L1 rfl rfl (by decide) rfl ?_
          refine v_if_eq hC 88 78 dX7_plan_75 (by decide) rfl (by omega) (fun c_75 => ?_) (fun c_75 => ?_)
          · skip
            exfalso; omega
          · skip
            exact v_throw (ik := 80) (is := 82) (ic := 84) (E := ISE) (text := "a strip is laid") hC hfl hT htab hQ dX7_plan_78 dX7_plan_81 dX7_plan_82 dX7_plan_84 dX7_plan_87 thr_fitISE L2 L3 (by decide +kernel) (by decide +kernel) thr_a84 thr_g80_84 [0, 1, 2, 3, 4, 5, 6, 7, 8, 9, 10, 11, 12, 13, 14, 15, 16, 17, 18, 19, 20, 21] rfl ⟨by decide, Nat.le_of_ble_eq_true rfl, by decide, by decide⟩ ⟨by decide, by decide⟩
        · skip
          refine v_iload hC 54 4 dX7_plan_52 rfl rfl ?_
          refine v_iconst hC 55 dX7_plan_54 rfl ?_
          refine v_icmp_eq hC 68 58 dX7_plan_55 (by decide) rfl (by omega) (by omega) (fun c_55 => ?_) (fun c_55 => ?_)
          · skip
            refine v_aload_n hC 69 0 dX7_plan_68 rfl rfl rfl ?_
            refine v_get hC 72 0 5 (C := RX7) (T := TX7) (N := 7) dX7_plan_69 rfl iX7 L0 rfl rfl (by decide) rfl ?_
            refine v_get hC 75 19 2 (C := RX6) (T := TX6) (N := 5) dX7_plan_72 rfl iX6 L1 rfl rfl (by decide) rfl ?_
            refine v_if_eq hC 88 78 dX7_plan_75 (by decide) rfl (by omega) (fun c_75 => ?_) (fun c_75 => ?_)
            · skip
              exfalso; omega
            · skip
              exact v_throw (ik := 80) (is := 82) (ic := 84) (E := ISE) (text := "a strip is laid") hC hfl hT htab hQ dX7_plan_78 dX7_plan_81 dX7_plan_82 dX7_plan_84 dX7_plan_87 thr_fitISE L2 L3 (by decide +kernel) (by decide +kernel) thr_a84 thr_g80_84 [0, 1, 2, 3, 4, 5, 6, 7, 8, 9, 10, 11, 12, 13, 14, 15, 16, 17, 18, 19, 20, 21] rfl ⟨by decide, Nat.le_of_ble_eq_true rfl, by decide, by decide⟩ ⟨by decide, by decide⟩
          · skip
            exfalso; omega
      · skip
        exfalso; omega
    · skip
      exfalso; omega

set_option maxHeartbeats 4000000 in
set_option maxRecDepth 100000 in
theorem c_X7_pillar (lx : Launch) (D : va_G) (cs : Nat → ClassId) (ag : Nat) (al : Nat) (ab : Nat → Nat) (ap : Nat → Nat) (ac : Nat → Nat) (aw : Nat → Nat) (wide : Int) (high : Int) (border : Int) (pattern : Int) (door : Int) (pil : Int → Int) (bar : Int → Int) (cnt : Int) (ofc : Int → Int) (knd : Int → Int) (col : Int → Int) (row : Int → Int) (siz : Int → Int) (bw : Int → Int) (bh : Int → Int) (fl : Int) (fr : Int) (ft : Int) (fb : Int) (nt : Int) (rc : Int) (src : Int → Int) (rw : Int → Int) (rh : Int → Int) (rmk : Int → Int) (hour : Int) (grt : Int) (beg : Int) (laid : Int → Int) (dryh : Int → Int) (ak : Nat → Nat) (af : Nat) (x : Int) (y : Int) (v : Int) (r1 : -2147483648 ≤ x ∧ x < 2147483648) (r2 : -2147483648 ≤ y ∧ y < 2147483648) (hv : v = 0 ∨ v = 1) (hok : ((0 ≤ x ∧ x < 12) ∧ 0 ≤ y ∧ y < 8)) (hbeg : beg = 0) (hw : 1 ≤ wide ∧ wide ≤ 4) (hh : 1 ≤ high ∧ high ≤ 4) (hb : 0 ≤ border ∧ border ≤ 2) (hp : 0 ≤ pattern ∧ pattern ≤ 1) (hd : 0 ≤ door ∧ door ≤ 10) (hpil : Rn pil 0 1) (hbar : Rn bar 0 1) (hlaid : Rn laid 0 1) (hknd : Rn knd 0 2) (hR : Rok (rc, rw, rh, rmk) 96) : Ci lx D cs yX7_pillar wsX7_pillar ({ frames := 7, cells := 0, slots := 0, locals := 166 }) [.ref ag, .int (iI x), .int (iI y), .int (iI v)] [oG ag al (ab 0) (ap 0) (ac 0) (ak 0) (aw 0) af, oL al wide high border pattern, oB ab door, aC (cs 1) (ab 1) 96 pil, aC (cs 1) (ab 2) 96 bar, oP ap cnt, aC (cs 0) (ap 1) 96 ofc, aC (cs 0) (ap 2) 96 knd, aC (cs 0) (ap 3) 96 col, aC (cs 0) (ap 4) 96 row, aC (cs 0) (ap 5) 96 siz, aC (cs 0) (ap 6) 96 bw, aC (cs 0) (ap 7) 96 bh, oF (ap 8) fl fr ft fb, oC ac nt rc, aC (cs 0) (ac 1) 96 src, aC (cs 0) (ac 2) 96 rw, aC (cs 0) (ac 3) 96 rh, aC (cs 0) (ac 4) 96 rmk, oW aw hour grt beg, aC (cs 1) (aw 1) 8 laid, aC (cs 0) (aw 2) 8 dryh] (fun (z : Int) (u : (Int → Int) × Int × (Int → Int) × (Int → Int) × (Int → Int) × (Int → Int) × (Int → Int) × (Int → Int) × (Int → Int) × Int × Int × Int × Int × Int × Int × (Int → Int) × (Int → Int) × (Int → Int) × (Int → Int)) => (z = pil (y * 12 + x)) ∧ (u.1 = rnw (uI pil (y * 12 + x) v) bar laid door high border 8) ∧ (PFI wide high border pattern u.1 96 u.2.1 u.2.2.1 u.2.2.2.1 u.2.2.2.2.1 u.2.2.2.2.2.1 u.2.2.2.2.2.2.1 u.2.2.2.2.2.2.2.1 u.2.2.2.2.2.2.2.2.1) ∧ (Rn u.2.2.2.1 0 2) ∧ (((u.2.2.2.2.2.2.2.2.2.2.2.2.2.2.1, u.2.2.2.2.2.2.2.2.2.2.2.2.2.2.2.1, u.2.2.2.2.2.2.2.2.2.2.2.2.2.2.2.2.1, u.2.2.2.2.2.2.2.2.2.2.2.2.2.2.2.2.2.1) : Rs) = ctR wide high u.2.2.2.1 u.2.2.2.2.2.2.2.1 u.2.2.2.2.2.2.2.2.1 (rc, rw, rh, rmk) u.2.1.toNat) ∧ (u.2.2.2.2.2.2.2.2.2.2.2.2.2.1 = ctT wide high u.2.2.2.1 u.2.2.2.2.2.2.2.1 u.2.2.2.2.2.2.2.2.1 (rc, rw, rh, rmk) u.2.1.toNat) ∧ (∀ j : Int, 0 ≤ j → j < u.2.1 → u.2.2.2.2.2.2.2.2.2.2.2.2.2.2.2.2.2.2 j = ctS wide high u.2.2.2.1 u.2.2.2.2.2.2.2.1 u.2.2.2.2.2.2.2.2.1 (rc, rw, rh, rmk) j.toNat) ∧ (0 ≤ u.2.1 ∧ u.2.1 ≤ 96)) (fun u : (Int → Int) × Int × (Int → Int) × (Int → Int) × (Int → Int) × (Int → Int) × (Int → Int) × (Int → Int) × (Int → Int) × Int × Int × Int × Int × Int × Int × (Int → Int) × (Int → Int) × (Int → Int) × (Int → Int) => [oG ag al (ab 0) (ap 0) (ac 0) (ak 0) (aw 0) af, oL al wide high border pattern, oB ab door, aC (cs 1) (ab 1) 96 (uI pil (y * 12 + x) v), aC (cs 1) (ab 2) 96 u.1, oP ap u.2.1, aC (cs 0) (ap 1) 96 u.2.2.1, aC (cs 0) (ap 2) 96 u.2.2.2.1, aC (cs 0) (ap 3) 96 u.2.2.2.2.1, aC (cs 0) (ap 4) 96 u.2.2.2.2.2.1, aC (cs 0) (ap 5) 96 u.2.2.2.2.2.2.1, aC (cs 0) (ap 6) 96 u.2.2.2.2.2.2.2.1, aC (cs 0) (ap 7) 96 u.2.2.2.2.2.2.2.2.1, oF (ap 8) u.2.2.2.2.2.2.2.2.2.1 u.2.2.2.2.2.2.2.2.2.2.1 u.2.2.2.2.2.2.2.2.2.2.2.1 u.2.2.2.2.2.2.2.2.2.2.2.2.1, oC ac u.2.2.2.2.2.2.2.2.2.2.2.2.2.1 u.2.2.2.2.2.2.2.2.2.2.2.2.2.2.1, aC (cs 0) (ac 1) 96 u.2.2.2.2.2.2.2.2.2.2.2.2.2.2.2.2.2.2, aC (cs 0) (ac 2) 96 u.2.2.2.2.2.2.2.2.2.2.2.2.2.2.2.1, aC (cs 0) (ac 3) 96 u.2.2.2.2.2.2.2.2.2.2.2.2.2.2.2.2.1, aC (cs 0) (ac 4) 96 u.2.2.2.2.2.2.2.2.2.2.2.2.2.2.2.2.2.1, oW aw hour grt beg, aC (cs 1) (aw 1) 8 laid, aC (cs 0) (aw 2) 8 dryh]) 0 0 := by
  refine Ci_of (cc := cX7_pillar) (nL := 5) (ret := (some .boolean)) (lv0 := [(0, .ref ag), (1, .int (iI x)), (2, .int (iI y)), (3, .int (iI v))]) RX7 "pillar" (by decide +kernel) rfl (Nat.le_of_ble_eq_true rfl) rfl (fun p9 e9 s9 m9 ar9 be9 me9 c9 A9 Q9 hQ hC => ?_)
  have iX7 : ∀ w ∈ wsX70, w ∈ wsX7_pillar := by decide +kernel
  have iX6 : ∀ w ∈ wsX60, w ∈ wsX7_pillar := by decide +kernel
  have L0 : Cond.fieldLink RX7 47 "Groutline" "work" "LGroutline$Work;" ∈ wsX7_pillar := by decide +kernel
  have L1 : Cond.fieldLink RX7 76 "Groutline$Work" "hasBegun" "Z" ∈ wsX7_pillar := by decide +kernel
  have L2 : Cond.fieldLink RX7 19 "Groutline" "bars" "LGroutline$Bars;" ∈ wsX7_pillar := by decide +kernel
  refine v_iload_n hC 1 1 dX7_pillar_0 rfl rfl rfl ?_
  refine v_iload_n hC 2 2 dX7_pillar_1 rfl rfl rfl ?_
  refine v_callSi hC 5 2 [] [0, 1, 2, 3, 4, 5, 6, 7, 8, 9, 10, 11, 12, 13, 14, 15, 16, 17, 18, 19, 20, 21] [oG ag al (ab 0) (ap 0) (ac 0) (ak 0) (aw 0) af, oL al wide high border pattern, oB ab door, aC (cs 1) (ab 1) 96 pil, aC (cs 1) (ab 2) 96 bar, oP ap cnt, aC (cs 0) (ap 1) 96 ofc, aC (cs 0) (ap 2) 96 knd, aC (cs 0) (ap 3) 96 col, aC (cs 0) (ap 4) 96 row, aC (cs 0) (ap 5) 96 siz, aC (cs 0) (ap 6) 96 bw, aC (cs 0) (ap 7) 96 bh, oF (ap 8) fl fr ft fb, oC ac nt rc, aC (cs 0) (ac 1) 96 src, aC (cs 0) (ac 2) 96 rw, aC (cs 0) (ac 3) 96 rh, aC (cs 0) (ac 4) 96 rmk, oW aw hour grt beg, aC (cs 1) (aw 1) 8 laid, aC (cs 0) (aw 2) 8 dryh] (As := [.int (iI x), .int (iI y)]) (rest := []) (c_X7_isCell lx D cs x y (by omega) (by omega)) dX7_pillar_2 rfl rfl gX7_pillar_X7_isCell rfl rfl rfl (by decide +kernel) ⟨by decide, by decide⟩ rfl rfl rfl rfl (by decide) rfl (Nat.le_of_ble_eq_true rfl) ⟨rfl, rfl⟩ ⟨by decide, by decide⟩ (fun z2 u2 h2 => ?_)
  (try dsimp only at h2)
  obtain ⟨h2_1, h2_2⟩ := h2
  show V p9 lx e9 ({ frames := 7, cells := 0, slots := 0, locals := 166 }) s9 m9 ar9 be9 me9 c9 Q9 D A9 s9.heap 5 0 0 [oG ag al (ab 0) (ap 0) (ac 0) (ak 0) (aw 0) af, oL al wide high border pattern, oB ab door, aC (cs 1) (ab 1) 96 pil, aC (cs 1) (ab 2) 96 bar, oP ap cnt, aC (cs 0) (ap 1) 96 ofc, aC (cs 0) (ap 2) 96 knd, aC (cs 0) (ap 3) 96 col, aC (cs 0) (ap 4) 96 row, aC (cs 0) (ap 5) 96 siz, aC (cs 0) (ap 6) 96 bw, aC (cs 0) (ap 7) 96 bh, oF (ap 8) fl fr ft fb, oC ac nt rc, aC (cs 0) (ac 1) 96 src, aC (cs 0) (ac 2) 96 rw, aC (cs 0) (ac 3) 96 rh, aC (cs 0) (ac 4) 96 rmk, oW aw hour grt beg, aC (cs 1) (aw 1) 8 laid, aC (cs 0) (aw 2) 8 dryh] [(0, .ref ag), (1, .int (iI x)), (2, .int (iI y)), (3, .int (iI v))] 5 [.int (iI z2)]
  refine v_if_ne hC 18 8 dX7_pillar_5 (by decide) rfl (by omega) (fun c_5 => ?_) (fun c_5 => ?_)
  · skip
    refine v_aload_n hC 19 0 dX7_pillar_18 rfl rfl rfl ?_
    refine v_get hC 22 0 5 (C := RX7) (T := TX7) (N := 7) dX7_pillar_19 rfl iX7 L0 rfl rfl (by decide) rfl ?_
    refine v_get hC 25 19 2 (C := RX6) (T := TX6) (N := 5) dX7_pillar_22 rfl iX6 L1 rfl rfl (by decide) rfl ?_
    refine v_if_eq hC 38 28 dX7_pillar_25 (by decide) rfl (by omega) (fun c_25 => ?_) (fun c_25 => ?_)
    · skip
      refine v_aload_n hC 39 0 dX7_pillar_38 rfl rfl rfl ?_
      refine v_get hC 42 0 1 (C := RX7) (T := TX7) (N := 7) dX7_pillar_39 rfl iX7 L2 rfl rfl (by decide) rfl ?_
      refine v_iload_n hC 43 1 dX7_pillar_42 rfl rfl rfl ?_
      refine v_iload_n hC 44 2 dX7_pillar_43 rfl rfl rfl ?_
      refine v_iload_n hC 45 3 dX7_pillar_44 rfl rfl rfl ?_
      refine v_callVi hC 48 3 [2, 3, 4] [0, 1, 5, 6, 7, 8, 9, 10, 11, 12, 13, 14, 15, 16, 17, 18, 19, 20, 21] [oG ag al (ab 0) (ap 0) (ac 0) (ak 0) (aw 0) af, oL al wide high border pattern, oP ap cnt, aC (cs 0) (ap 1) 96 ofc, aC (cs 0) (ap 2) 96 knd, aC (cs 0) (ap 3) 96 col, aC (cs 0) (ap 4) 96 row, aC (cs 0) (ap 5) 96 siz, aC (cs 0) (ap 6) 96 bw, aC (cs 0) (ap 7) 96 bh, oF (ap 8) fl fr ft fb, oC ac nt rc, aC (cs 0) (ac 1) 96 src, aC (cs 0) (ac 2) 96 rw, aC (cs 0) (ac 3) 96 rh, aC (cs 0) (ac 4) 96 rmk, oW aw hour grt beg, aC (cs 1) (aw 1) 8 laid, aC (cs 0) (aw 2) 8 dryh] (As := [.int (iI x), .int (iI y), .int (iI v)]) (rest := []) (c_X0_setPillar lx D cs ab door pil bar x y v (by omega) (by omega) (by omega) (by assumption)) dX7_pillar_45 rfl rfl 2 rfl rfl gX7_pillar_X0_setPillar rfl rfl rfl (by decide +kernel) ⟨by decide, by decide⟩ rfl rfl rfl rfl (by decide) rfl (Nat.le_of_ble_eq_true rfl) ⟨rfl, rfl⟩ ⟨by decide, by decide⟩ (fun z45 u45 h45 => ?_)
      (try dsimp only at h45)
      subst h45
      show V p9 lx e9 ({ frames := 7, cells := 0, slots := 0, locals := 166 }) s9 m9 ar9 be9 me9 c9 Q9 D A9 s9.heap 5 0 0 [oG ag al (ab 0) (ap 0) (ac 0) (ak 0) (aw 0) af, oL al wide high border pattern, oP ap cnt, aC (cs 0) (ap 1) 96 ofc, aC (cs 0) (ap 2) 96 knd, aC (cs 0) (ap 3) 96 col, aC (cs 0) (ap 4) 96 row, aC (cs 0) (ap 5) 96 siz, aC (cs 0) (ap 6) 96 bw, aC (cs 0) (ap 7) 96 bh, oF (ap 8) fl fr ft fb, oC ac nt rc, aC (cs 0) (ac 1) 96 src, aC (cs 0) (ac 2) 96 rw, aC (cs 0) (ac 3) 96 rh, aC (cs 0) (ac 4) 96 rmk, oW aw hour grt beg, aC (cs 1) (aw 1) 8 laid, aC (cs 0) (aw 2) 8 dryh, oB ab door, aC (cs 1) (ab 1) 96 (uI pil (y * 12 + x) v), aC (cs 1) (ab 2) 96 bar] [(0, .ref ag), (1, .int (iI x)), (2, .int (iI y)), (3, .int (iI v))] 48 [.int (iI (pil (y * 12 + x)))]
      refine v_istore hC 50 [(4, .int (iI (pil (y * 12 + x)))), (0, .ref ag), (1, .int (iI x)), (2, .int (iI y)), (3, .int (iI v))] dX7_pillar_48 rfl (by decide) rfl ?_
      refine v_aload_n hC 51 1 dX7_pillar_50 rfl rfl rfl ?_
      refine v_callVv hC 54 0 [0, 1, 19, 20, 21, 2, 3, 4, 5, 6, 7, 8, 9, 10, 11, 12, 13, 14, 15, 16, 17, 18] [] [] (As := []) (rest := []) (c_X7_renew lx D cs ag al ab ap ac aw wide high border pattern door (uI pil (y * 12 + x) v) bar cnt ofc knd col row siz bw bh fl fr ft fb nt rc src rw rh rmk hour grt beg laid dryh ak af (by omega) (by omega) (by omega) (by omega) (by omega) (by exact Rn_uI hpil (by omega)) (by assumption) (by assumption) (by assumption) (by assumption)) dX7_pillar_51 rfl rfl 0 rfl rfl gX7_pillar_X7_renew rfl rfl rfl (by decide +kernel) ⟨by decide, by decide⟩ rfl rfl rfl rfl (by decide) rfl (Nat.le_of_ble_eq_true rfl) ⟨rfl, rfl⟩ ⟨by decide, by decide⟩ (fun u51 h51 => ?_)
      obtain ⟨bar1_51, cnt1_51, ofc1_51, knd1_51, col1_51, row1_51, siz1_51, bw1_51, bh1_51, fl1_51, fr1_51, ft1_51, fb1_51, nt1_51, rc1_51, rw1_51, rh1_51, rm1_51, src1_51⟩ := u51
      (try dsimp only at h51)
      obtain ⟨h51_1, h51_2, h51_3, h51_4, h51_5, h51_6, h51_7⟩ := h51
      show V p9 lx e9 ({ frames := 7, cells := 0, slots := 0, locals := 166 }) s9 m9 ar9 be9 me9 c9 Q9 D A9 s9.heap 5 0 0 [oG ag al (ab 0) (ap 0) (ac 0) (ak 0) (aw 0) af, oL al wide high border pattern, oB ab door, aC (cs 1) (ab 1) 96 (uI pil (y * 12 + x) v), aC (cs 1) (ab 2) 96 bar1_51, oP ap cnt1_51, aC (cs 0) (ap 1) 96 ofc1_51, aC (cs 0) (ap 2) 96 knd1_51, aC (cs 0) (ap 3) 96 col1_51, aC (cs 0) (ap 4) 96 row1_51, aC (cs 0) (ap 5) 96 siz1_51, aC (cs 0) (ap 6) 96 bw1_51, aC (cs 0) (ap 7) 96 bh1_51, oF (ap 8) fl1_51 fr1_51 ft1_51 fb1_51, oC ac nt1_51 rc1_51, aC (cs 0) (ac 1) 96 src1_51, aC (cs 0) (ac 2) 96 rw1_51, aC (cs 0) (ac 3) 96 rh1_51, aC (cs 0) (ac 4) 96 rm1_51, oW aw hour grt beg, aC (cs 1) (aw 1) 8 laid, aC (cs 0) (aw 2) 8 dryh] [(4, .int (iI (pil (y * 12 + x)))), (0, .ref ag), (1, .int (iI x)), (2, .int (iI y)), (3, .int (iI v))] 54 []
      refine v_iload hC 56 0 dX7_pillar_54 rfl rfl ?_
      exact v_zret hC hQ (bar1_51, cnt1_51, ofc1_51, knd1_51, col1_51, row1_51, siz1_51, bw1_51, bh1_51, fl1_51, fr1_51, ft1_51, fb1_51, nt1_51, rc1_51, rw1_51, rh1_51, rm1_51, src1_51) [0, 1, 2, 3, 4, 5, 6, 7, 8, 9, 10, 11, 12, 13, 14, 15, 16, 17, 18, 19, 20, 21] dX7_pillar_56 (by have pp9 := hpil (y * 12 + x); omega) rfl rfl ⟨by decide, by decide⟩ ⟨by (try dsimp only); all_goals (first | rfl | omega), by (try dsimp only); all_goals (exact h51_1), by (try dsimp only); all_goals (exact h51_2), by (try dsimp only); all_goals (exact h51_3), by (try dsimp only); all_goals (exact h51_4), by (try dsimp only); all_goals (exact h51_5), by (try dsimp only); all_goals (exact h51_6), by (try dsimp only); all_goals (exact h51_7)⟩
    · exfalso; omega
  · exfalso; omega

set_option maxHeartbeats 4000000 in
set_option maxRecDepth 100000 in
theorem t_X7_pillar_1 (lx : Launch) (hfl : lx.stackTraces = false) (D : va_G) (cs : Nat → ClassId) (ag : Nat) (al : Nat) (ab : Nat → Nat) (ap : Nat → Nat) (ac : Nat → Nat) (aw : Nat → Nat) (wide : Int) (high : Int) (border : Int) (pattern : Int) (door : Int) (pil : Int → Int) (bar : Int → Int) (cnt : Int) (ofc : Int → Int) (knd : Int → Int) (col : Int → Int) (row : Int → Int) (siz : Int → Int) (bw : Int → Int) (bh : Int → Int) (fl : Int) (fr : Int) (ft : Int) (fb : Int) (nt : Int) (rc : Int) (src : Int → Int) (rw : Int → Int) (rh : Int → Int) (rmk : Int → Int) (hour : Int) (grt : Int) (beg : Int) (laid : Int → Int) (dryh : Int → Int) (ak : Nat → Nat) (af : Nat) (x : Int) (y : Int) (v : Int) (r1 : -2147483648 ≤ x ∧ x < 2147483648) (r2 : -2147483648 ≤ y ∧ y < 2147483648) (hv : v = 0 ∨ v = 1) (hno : ¬ ((0 ≤ x ∧ x < 12) ∧ 0 ≤ y ∧ y < 8)) : Xt lx D cs yX7_pillar wsX7_pillar ({ frames := 7, cells := 1, slots := 6, locals := 166 }) [.ref ag, .int (iI x), .int (iI y), .int (iI v)] [oG ag al (ab 0) (ap 0) (ac 0) (ak 0) (aw 0) af, oL al wide high border pattern, oB ab door, aC (cs 1) (ab 1) 96 pil, aC (cs 1) (ab 2) 96 bar, oP ap cnt, aC (cs 0) (ap 1) 96 ofc, aC (cs 0) (ap 2) 96 knd, aC (cs 0) (ap 3) 96 col, aC (cs 0) (ap 4) 96 row, aC (cs 0) (ap 5) 96 siz, aC (cs 0) (ap 6) 96 bw, aC (cs 0) (ap 7) 96 bh, oF (ap 8) fl fr ft fb, oC ac nt rc, aC (cs 0) (ac 1) 96 src, aC (cs 0) (ac 2) 96 rw, aC (cs 0) (ac 3) 96 rh, aC (cs 0) (ac 4) 96 rmk, oW aw hour grt beg, aC (cs 1) (aw 1) 8 laid, aC (cs 0) (aw 2) 8 dryh] IOE 1 6 := by
  refine Xt_of (cc := cX7_pillar) (nL := 5) (ret := (some .boolean)) (lv0 := [(0, .ref ag), (1, .int (iI x)), (2, .int (iI y)), (3, .int (iI v))]) RX7 "pillar" (by decide +kernel) rfl (Nat.le_of_ble_eq_true rfl) rfl (fun p9 e9 s9 m9 ar9 be9 me9 c9 A9 Q9 hQ hC hT htab => ?_)
  have L0 : Cond.classLink RX7 97 IOE ∈ wsX7_pillar := by decide +kernel
  have L1 : Cond.initialized IOE ∈ wsX7_pillar := by decide +kernel
  refine v_iload_n hC 1 1 dX7_pillar_0 rfl rfl rfl ?_
  refine v_iload_n hC 2 2 dX7_pillar_1 rfl rfl rfl ?_
  refine v_callSi hC 5 2 [] [0, 1, 2, 3, 4, 5, 6, 7, 8, 9, 10, 11, 12, 13, 14, 15, 16, 17, 18, 19, 20, 21] [oG ag al (ab 0) (ap 0) (ac 0) (ak 0) (aw 0) af, oL al wide high border pattern, oB ab door, aC (cs 1) (ab 1) 96 pil, aC (cs 1) (ab 2) 96 bar, oP ap cnt, aC (cs 0) (ap 1) 96 ofc, aC (cs 0) (ap 2) 96 knd, aC (cs 0) (ap 3) 96 col, aC (cs 0) (ap 4) 96 row, aC (cs 0) (ap 5) 96 siz, aC (cs 0) (ap 6) 96 bw, aC (cs 0) (ap 7) 96 bh, oF (ap 8) fl fr ft fb, oC ac nt rc, aC (cs 0) (ac 1) 96 src, aC (cs 0) (ac 2) 96 rw, aC (cs 0) (ac 3) 96 rh, aC (cs 0) (ac 4) 96 rmk, oW aw hour grt beg, aC (cs 1) (aw 1) 8 laid, aC (cs 0) (aw 2) 8 dryh] (As := [.int (iI x), .int (iI y)]) (rest := []) (c_X7_isCell lx D cs x y (by omega) (by omega)) dX7_pillar_2 rfl rfl gX7_pillar_X7_isCell rfl rfl rfl (by decide +kernel) ⟨by decide, by decide⟩ rfl rfl rfl rfl (by decide) rfl (Nat.le_of_ble_eq_true rfl) ⟨rfl, rfl⟩ ⟨by decide, by decide⟩ (fun z2 u2 h2 => ?_)
  (try dsimp only at h2)
  obtain ⟨h2_1, h2_2⟩ := h2
  show V p9 lx e9 ({ frames := 7, cells := 1, slots := 6, locals := 166 }) s9 m9 ar9 be9 me9 c9 Q9 D A9 s9.heap 5 0 0 [oG ag al (ab 0) (ap 0) (ac 0) (ak 0) (aw 0) af, oL al wide high border pattern, oB ab door, aC (cs 1) (ab 1) 96 pil, aC (cs 1) (ab 2) 96 bar, oP ap cnt, aC (cs 0) (ap 1) 96 ofc, aC (cs 0) (ap 2) 96 knd, aC (cs 0) (ap 3) 96 col, aC (cs 0) (ap 4) 96 row, aC (cs 0) (ap 5) 96 siz, aC (cs 0) (ap 6) 96 bw, aC (cs 0) (ap 7) 96 bh, oF (ap 8) fl fr ft fb, oC ac nt rc, aC (cs 0) (ac 1) 96 src, aC (cs 0) (ac 2) 96 rw, aC (cs 0) (ac 3) 96 rh, aC (cs 0) (ac 4) 96 rmk, oW aw hour grt beg, aC (cs 1) (aw 1) 8 laid, aC (cs 0) (aw 2) 8 dryh] [(0, .ref ag), (1, .int (iI x)), (2, .int (iI y)), (3, .int (iI v))] 5 [.int (iI z2)]
  refine v_if_ne hC 18 8 dX7_pillar_5 (by decide) rfl (by omega) (fun c_5 => ?_) (fun c_5 => ?_)
  · skip
    exfalso; omega
  · skip
    exact v_throw (ik := 97) (is := 99) (ic := 101) (E := IOE) (text := "no such cell") hC hfl hT htab hQ dX7_pillar_8 dX7_pillar_11 dX7_pillar_12 dX7_pillar_14 dX7_pillar_17 thr_fitIOE L0 L1 (by decide +kernel) (by decide +kernel) thr_a101 thr_g97_101 [0, 1, 2, 3, 4, 5, 6, 7, 8, 9, 10, 11, 12, 13, 14, 15, 16, 17, 18, 19, 20, 21] rfl ⟨by decide, Nat.le_of_ble_eq_true rfl, by decide, by decide⟩ ⟨by decide, by decide⟩

set_option maxHeartbeats 4000000 in
set_option maxRecDepth 100000 in
theorem t_X7_pillar_2 (lx : Launch) (hfl : lx.stackTraces = false) (D : va_G) (cs : Nat → ClassId) (ag : Nat) (al : Nat) (ab : Nat → Nat) (ap : Nat → Nat) (ac : Nat → Nat) (aw : Nat → Nat) (wide : Int) (high : Int) (border : Int) (pattern : Int) (door : Int) (pil : Int → Int) (bar : Int → Int) (cnt : Int) (ofc : Int → Int) (knd : Int → Int) (col : Int → Int) (row : Int → Int) (siz : Int → Int) (bw : Int → Int) (bh : Int → Int) (fl : Int) (fr : Int) (ft : Int) (fb : Int) (nt : Int) (rc : Int) (src : Int → Int) (rw : Int → Int) (rh : Int → Int) (rmk : Int → Int) (hour : Int) (grt : Int) (beg : Int) (laid : Int → Int) (dryh : Int → Int) (ak : Nat → Nat) (af : Nat) (x : Int) (y : Int) (v : Int) (r1 : -2147483648 ≤ x ∧ x < 2147483648) (r2 : -2147483648 ≤ y ∧ y < 2147483648) (hv : v = 0 ∨ v = 1) (hno : ((0 ≤ x ∧ x < 12) ∧ 0 ≤ y ∧ y < 8)) (hbeg : beg = 1) : Xt lx D cs yX7_pillar wsX7_pillar ({ frames := 7, cells := 1, slots := 6, locals := 166 }) [.ref ag, .int (iI x), .int (iI y), .int (iI v)] [oG ag al (ab 0) (ap 0) (ac 0) (ak 0) (aw 0) af, oL al wide high border pattern, oB ab door, aC (cs 1) (ab 1) 96 pil, aC (cs 1) (ab 2) 96 bar, oP ap cnt, aC (cs 0) (ap 1) 96 ofc, aC (cs 0) (ap 2) 96 knd, aC (cs 0) (ap 3) 96 col, aC (cs 0) (ap 4) 96 row, aC (cs 0) (ap 5) 96 siz, aC (cs 0) (ap 6) 96 bw, aC (cs 0) (ap 7) 96 bh, oF (ap 8) fl fr ft fb, oC ac nt rc, aC (cs 0) (ac 1) 96 src, aC (cs 0) (ac 2) 96 rw, aC (cs 0) (ac 3) 96 rh, aC (cs 0) (ac 4) 96 rmk, oW aw hour grt beg, aC (cs 1) (aw 1) 8 laid, aC (cs 0) (aw 2) 8 dryh] ISE 1 6 := by
  refine Xt_of (cc := cX7_pillar) (nL := 5) (ret := (some .boolean)) (lv0 := [(0, .ref ag), (1, .int (iI x)), (2, .int (iI y)), (3, .int (iI v))]) RX7 "pillar" (by decide +kernel) rfl (Nat.le_of_ble_eq_true rfl) rfl (fun p9 e9 s9 m9 ar9 be9 me9 c9 A9 Q9 hQ hC hT htab => ?_)
  have iX7 : ∀ w ∈ wsX70, w ∈ wsX7_pillar := by decide +kernel
  have iX6 : ∀ w ∈ wsX60, w ∈ wsX7_pillar := by decide +kernel
  have L0 : Cond.fieldLink RX7 47 "Groutline" "work" "LGroutline$Work;" ∈ wsX7_pillar := by decide +kernel
  have L1 : Cond.fieldLink RX7 76 "Groutline$Work" "hasBegun" "Z" ∈ wsX7_pillar := by decide +kernel
  have L2 : Cond.classLink RX7 80 ISE ∈ wsX7_pillar := by decide +kernel
  have L3 : Cond.initialized ISE ∈ wsX7_pillar := by decide +kernel
  refine v_iload_n hC 1 1 dX7_pillar_0 rfl rfl rfl ?_
  refine v_iload_n hC 2 2 dX7_pillar_1 rfl rfl rfl ?_
  refine v_callSi hC 5 2 [] [0, 1, 2, 3, 4, 5, 6, 7, 8, 9, 10, 11, 12, 13, 14, 15, 16, 17, 18, 19, 20, 21] [oG ag al (ab 0) (ap 0) (ac 0) (ak 0) (aw 0) af, oL al wide high border pattern, oB ab door, aC (cs 1) (ab 1) 96 pil, aC (cs 1) (ab 2) 96 bar, oP ap cnt, aC (cs 0) (ap 1) 96 ofc, aC (cs 0) (ap 2) 96 knd, aC (cs 0) (ap 3) 96 col, aC (cs 0) (ap 4) 96 row, aC (cs 0) (ap 5) 96 siz, aC (cs 0) (ap 6) 96 bw, aC (cs 0) (ap 7) 96 bh, oF (ap 8) fl fr ft fb, oC ac nt rc, aC (cs 0) (ac 1) 96 src, aC (cs 0) (ac 2) 96 rw, aC (cs 0) (ac 3) 96 rh, aC (cs 0) (ac 4) 96 rmk, oW aw hour grt beg, aC (cs 1) (aw 1) 8 laid, aC (cs 0) (aw 2) 8 dryh] (As := [.int (iI x), .int (iI y)]) (rest := []) (c_X7_isCell lx D cs x y (by omega) (by omega)) dX7_pillar_2 rfl rfl gX7_pillar_X7_isCell rfl rfl rfl (by decide +kernel) ⟨by decide, by decide⟩ rfl rfl rfl rfl (by decide) rfl (Nat.le_of_ble_eq_true rfl) ⟨rfl, rfl⟩ ⟨by decide, by decide⟩ (fun z2 u2 h2 => ?_)
  (try dsimp only at h2)
  obtain ⟨h2_1, h2_2⟩ := h2
  show V p9 lx e9 ({ frames := 7, cells := 1, slots := 6, locals := 166 }) s9 m9 ar9 be9 me9 c9 Q9 D A9 s9.heap 5 0 0 [oG ag al (ab 0) (ap 0) (ac 0) (ak 0) (aw 0) af, oL al wide high border pattern, oB ab door, aC (cs 1) (ab 1) 96 pil, aC (cs 1) (ab 2) 96 bar, oP ap cnt, aC (cs 0) (ap 1) 96 ofc, aC (cs 0) (ap 2) 96 knd, aC (cs 0) (ap 3) 96 col, aC (cs 0) (ap 4) 96 row, aC (cs 0) (ap 5) 96 siz, aC (cs 0) (ap 6) 96 bw, aC (cs 0) (ap 7) 96 bh, oF (ap 8) fl fr ft fb, oC ac nt rc, aC (cs 0) (ac 1) 96 src, aC (cs 0) (ac 2) 96 rw, aC (cs 0) (ac 3) 96 rh, aC (cs 0) (ac 4) 96 rmk, oW aw hour grt beg, aC (cs 1) (aw 1) 8 laid, aC (cs 0) (aw 2) 8 dryh] [(0, .ref ag), (1, .int (iI x)), (2, .int (iI y)), (3, .int (iI v))] 5 [.int (iI z2)]
  refine v_if_ne hC 18 8 dX7_pillar_5 (by decide) rfl (by omega) (fun c_5 => ?_) (fun c_5 => ?_)
  · skip
    refine v_aload_n hC 19 0 dX7_pillar_18 rfl rfl rfl ?_
    refine v_get hC 22 0 5 (C := RX7) (T := TX7) (N := 7) dX7_pillar_19 rfl iX7 L0 rfl rfl (by decide) rfl ?_
    refine v_get hC 25 19 2 (C := RX6) (T := TX6) (N := 5) dX7_pillar_22 rfl iX6 L1 rfl rfl (by decide) rfl ?_
    refine v_if_eq hC 38 28 dX7_pillar_25 (by decide) rfl (by omega) (fun c_25 => ?_) (fun c_25 => ?_)
    · skip
      exfalso; omega
    · skip
      exact v_throw (ik := 80) (is := 82) (ic := 84) (E := ISE) (text := "a strip is laid") hC hfl hT htab hQ dX7_pillar_28 dX7_pillar_31 dX7_pillar_32 dX7_pillar_34 dX7_pillar_37 thr_fitISE L2 L3 (by decide +kernel) (by decide +kernel) thr_a84 thr_g80_84 [0, 1, 2, 3, 4, 5, 6, 7, 8, 9, 10, 11, 12, 13, 14, 15, 16, 17, 18, 19, 20, 21] rfl ⟨by decide, Nat.le_of_ble_eq_true rfl, by decide, by decide⟩ ⟨by decide, by decide⟩
  · skip
    exfalso; omega

set_option maxHeartbeats 4000000 in
set_option maxRecDepth 100000 in
theorem c_X7_door (lx : Launch) (D : va_G) (cs : Nat → ClassId) (ag : Nat) (al : Nat) (ab : Nat → Nat) (ap : Nat → Nat) (ac : Nat → Nat) (aw : Nat → Nat) (wide : Int) (high : Int) (border : Int) (pattern : Int) (door : Int) (pil : Int → Int) (bar : Int → Int) (cnt : Int) (ofc : Int → Int) (knd : Int → Int) (col : Int → Int) (row : Int → Int) (siz : Int → Int) (bw : Int → Int) (bh : Int → Int) (fl : Int) (fr : Int) (ft : Int) (fb : Int) (nt : Int) (rc : Int) (src : Int → Int) (rw : Int → Int) (rh : Int → Int) (rmk : Int → Int) (hour : Int) (grt : Int) (beg : Int) (laid : Int → Int) (dryh : Int → Int) (ak : Nat → Nat) (af : Nat) (x : Int) (r1 : -2147483648 ≤ x ∧ x < 2147483648) (hok : 0 ≤ x ∧ x ≤ 10) (hw : 1 ≤ wide ∧ wide ≤ 4) (hh : 1 ≤ high ∧ high ≤ 4) (hb : 0 ≤ border ∧ border ≤ 2) (hp : 0 ≤ pattern ∧ pattern ≤ 1) (hpil : Rn pil 0 1) (hbar : Rn bar 0 1) (hlaid : Rn laid 0 1) (hknd : Rn knd 0 2) (hR : Rok (rc, rw, rh, rmk) 96) : Ci lx D cs yX7_door wsX7_door ({ frames := 7, cells := 0, slots := 0, locals := 166 }) [.ref ag, .int (iI x)] [oG ag al (ab 0) (ap 0) (ac 0) (ak 0) (aw 0) af, oL al wide high border pattern, oB ab door, aC (cs 1) (ab 1) 96 pil, aC (cs 1) (ab 2) 96 bar, oP ap cnt, aC (cs 0) (ap 1) 96 ofc, aC (cs 0) (ap 2) 96 knd, aC (cs 0) (ap 3) 96 col, aC (cs 0) (ap 4) 96 row, aC (cs 0) (ap 5) 96 siz, aC (cs 0) (ap 6) 96 bw, aC (cs 0) (ap 7) 96 bh, oF (ap 8) fl fr ft fb, oC ac nt rc, aC (cs 0) (ac 1) 96 src, aC (cs 0) (ac 2) 96 rw, aC (cs 0) (ac 3) 96 rh, aC (cs 0) (ac 4) 96 rmk, oW aw hour grt beg, aC (cs 1) (aw 1) 8 laid, aC (cs 0) (aw 2) 8 dryh] (fun (z : Int) (u : (Int → Int) × Int × (Int → Int) × (Int → Int) × (Int → Int) × (Int → Int) × (Int → Int) × (Int → Int) × (Int → Int) × Int × Int × Int × Int × Int × Int × (Int → Int) × (Int → Int) × (Int → Int) × (Int → Int)) => (z = u.2.1) ∧ (u.1 = rnw pil bar laid x high border 8) ∧ (PFI wide high border pattern u.1 96 u.2.1 u.2.2.1 u.2.2.2.1 u.2.2.2.2.1 u.2.2.2.2.2.1 u.2.2.2.2.2.2.1 u.2.2.2.2.2.2.2.1 u.2.2.2.2.2.2.2.2.1) ∧ (Rn u.2.2.2.1 0 2) ∧ (((u.2.2.2.2.2.2.2.2.2.2.2.2.2.2.1, u.2.2.2.2.2.2.2.2.2.2.2.2.2.2.2.1, u.2.2.2.2.2.2.2.2.2.2.2.2.2.2.2.2.1, u.2.2.2.2.2.2.2.2.2.2.2.2.2.2.2.2.2.1) : Rs) = ctR wide high u.2.2.2.1 u.2.2.2.2.2.2.2.1 u.2.2.2.2.2.2.2.2.1 (rc, rw, rh, rmk) u.2.1.toNat) ∧ (u.2.2.2.2.2.2.2.2.2.2.2.2.2.1 = ctT wide high u.2.2.2.1 u.2.2.2.2.2.2.2.1 u.2.2.2.2.2.2.2.2.1 (rc, rw, rh, rmk) u.2.1.toNat) ∧ (∀ j : Int, 0 ≤ j → j < u.2.1 → u.2.2.2.2.2.2.2.2.2.2.2.2.2.2.2.2.2.2 j = ctS wide high u.2.2.2.1 u.2.2.2.2.2.2.2.1 u.2.2.2.2.2.2.2.2.1 (rc, rw, rh, rmk) j.toNat) ∧ (0 ≤ u.2.1 ∧ u.2.1 ≤ 96)) (fun u : (Int → Int) × Int × (Int → Int) × (Int → Int) × (Int → Int) × (Int → Int) × (Int → Int) × (Int → Int) × (Int → Int) × Int × Int × Int × Int × Int × Int × (Int → Int) × (Int → Int) × (Int → Int) × (Int → Int) => [oG ag al (ab 0) (ap 0) (ac 0) (ak 0) (aw 0) af, oL al wide high border pattern, oB ab x, aC (cs 1) (ab 1) 96 pil, aC (cs 1) (ab 2) 96 u.1, oP ap u.2.1, aC (cs 0) (ap 1) 96 u.2.2.1, aC (cs 0) (ap 2) 96 u.2.2.2.1, aC (cs 0) (ap 3) 96 u.2.2.2.2.1, aC (cs 0) (ap 4) 96 u.2.2.2.2.2.1, aC (cs 0) (ap 5) 96 u.2.2.2.2.2.2.1, aC (cs 0) (ap 6) 96 u.2.2.2.2.2.2.2.1, aC (cs 0) (ap 7) 96 u.2.2.2.2.2.2.2.2.1, oF (ap 8) u.2.2.2.2.2.2.2.2.2.1 u.2.2.2.2.2.2.2.2.2.2.1 u.2.2.2.2.2.2.2.2.2.2.2.1 u.2.2.2.2.2.2.2.2.2.2.2.2.1, oC ac u.2.2.2.2.2.2.2.2.2.2.2.2.2.1 u.2.2.2.2.2.2.2.2.2.2.2.2.2.2.1, aC (cs 0) (ac 1) 96 u.2.2.2.2.2.2.2.2.2.2.2.2.2.2.2.2.2.2, aC (cs 0) (ac 2) 96 u.2.2.2.2.2.2.2.2.2.2.2.2.2.2.2.1, aC (cs 0) (ac 3) 96 u.2.2.2.2.2.2.2.2.2.2.2.2.2.2.2.2.1, aC (cs 0) (ac 4) 96 u.2.2.2.2.2.2.2.2.2.2.2.2.2.2.2.2.2.1, oW aw hour grt beg, aC (cs 1) (aw 1) 8 laid, aC (cs 0) (aw 2) 8 dryh]) 0 0 := by
  refine Ci_of (cc := cX7_door) (nL := 2) (ret := (some .int)) (lv0 := [(0, .ref ag), (1, .int (iI x))]) RX7 "door" (by decide +kernel) rfl (Nat.le_of_ble_eq_true rfl) rfl (fun p9 e9 s9 m9 ar9 be9 me9 c9 A9 Q9 hQ hC => ?_)
  have iX7 : ∀ w ∈ wsX70, w ∈ wsX7_door := by decide +kernel
  have iX0 : ∀ w ∈ wsX00, w ∈ wsX7_door := by decide +kernel
  have iX4 : ∀ w ∈ wsX40, w ∈ wsX7_door := by decide +kernel
  have L0 : Cond.fieldLink RX7 19 "Groutline" "bars" "LGroutline$Bars;" ∈ wsX7_door := by decide +kernel
  have L1 : Cond.fieldLink RX7 108 "Groutline$Bars" "doorColumn" "I" ∈ wsX7_door := by decide +kernel
  have L2 : Cond.fieldLink RX7 26 "Groutline" "pieces" "LGroutline$Pieces;" ∈ wsX7_door := by decide +kernel
  have L3 : Cond.fieldLink RX7 89 "Groutline$Pieces" "count" "I" ∈ wsX7_door := by decide +kernel
  refine v_iload_n hC 1 1 dX7_door_0 rfl rfl rfl ?_
  refine v_iconst hC 2 dX7_door_1 rfl ?_
  refine v_bipush hC 4 dX7_door_2 rfl rfl ?_
  refine v_callSi hC 7 3 [] [0, 1, 2, 3, 4, 5, 6, 7, 8, 9, 10, 11, 12, 13, 14, 15, 16, 17, 18, 19, 20, 21] [oG ag al (ab 0) (ap 0) (ac 0) (ak 0) (aw 0) af, oL al wide high border pattern, oB ab door, aC (cs 1) (ab 1) 96 pil, aC (cs 1) (ab 2) 96 bar, oP ap cnt, aC (cs 0) (ap 1) 96 ofc, aC (cs 0) (ap 2) 96 knd, aC (cs 0) (ap 3) 96 col, aC (cs 0) (ap 4) 96 row, aC (cs 0) (ap 5) 96 siz, aC (cs 0) (ap 6) 96 bw, aC (cs 0) (ap 7) 96 bh, oF (ap 8) fl fr ft fb, oC ac nt rc, aC (cs 0) (ac 1) 96 src, aC (cs 0) (ac 2) 96 rw, aC (cs 0) (ac 3) 96 rh, aC (cs 0) (ac 4) 96 rmk, oW aw hour grt beg, aC (cs 1) (aw 1) 8 laid, aC (cs 0) (aw 2) 8 dryh] (As := [.int (iI x), .int (iI 0), .int (iI 10)]) (rest := []) (c_X7_isWithin lx D cs x 0 10 (by omega) (by omega) (by omega)) dX7_door_4 rfl rfl gX7_door_X7_isWithin rfl rfl rfl (by decide +kernel) ⟨by decide, by decide⟩ rfl rfl rfl rfl (by decide) rfl (Nat.le_of_ble_eq_true rfl) ⟨rfl, rfl⟩ ⟨by decide, by decide⟩ (fun z4 u4 h4 => ?_)
  (try dsimp only at h4)
  obtain ⟨h4_1, h4_2⟩ := h4
  show V p9 lx e9 ({ frames := 7, cells := 0, slots := 0, locals := 166 }) s9 m9 ar9 be9 me9 c9 Q9 D A9 s9.heap 2 0 0 [oG ag al (ab 0) (ap 0) (ac 0) (ak 0) (aw 0) af, oL al wide high border pattern, oB ab door, aC (cs 1) (ab 1) 96 pil, aC (cs 1) (ab 2) 96 bar, oP ap cnt, aC (cs 0) (ap 1) 96 ofc, aC (cs 0) (ap 2) 96 knd, aC (cs 0) (ap 3) 96 col, aC (cs 0) (ap 4) 96 row, aC (cs 0) (ap 5) 96 siz, aC (cs 0) (ap 6) 96 bw, aC (cs 0) (ap 7) 96 bh, oF (ap 8) fl fr ft fb, oC ac nt rc, aC (cs 0) (ac 1) 96 src, aC (cs 0) (ac 2) 96 rw, aC (cs 0) (ac 3) 96 rh, aC (cs 0) (ac 4) 96 rmk, oW aw hour grt beg, aC (cs 1) (aw 1) 8 laid, aC (cs 0) (aw 2) 8 dryh] [(0, .ref ag), (1, .int (iI x))] 7 [.int (iI z4)]
  refine v_if_ne hC 20 10 dX7_door_7 (by decide) rfl (by omega) (fun c_7 => ?_) (fun c_7 => ?_)
  · skip
    refine v_aload_n hC 21 0 dX7_door_20 rfl rfl rfl ?_
    refine v_get hC 24 0 1 (C := RX7) (T := TX7) (N := 7) dX7_door_21 rfl iX7 L0 rfl rfl (by decide) rfl ?_
    refine v_iload_n hC 25 1 dX7_door_24 rfl rfl rfl ?_
    refine v_put hC 28 2 2 [oG ag al (ab 0) (ap 0) (ac 0) (ak 0) (aw 0) af, oL al wide high border pattern, oB ab x, aC (cs 1) (ab 1) 96 pil, aC (cs 1) (ab 2) 96 bar, oP ap cnt, aC (cs 0) (ap 1) 96 ofc, aC (cs 0) (ap 2) 96 knd, aC (cs 0) (ap 3) 96 col, aC (cs 0) (ap 4) 96 row, aC (cs 0) (ap 5) 96 siz, aC (cs 0) (ap 6) 96 bw, aC (cs 0) (ap 7) 96 bh, oF (ap 8) fl fr ft fb, oC ac nt rc, aC (cs 0) (ac 1) 96 src, aC (cs 0) (ac 2) 96 rw, aC (cs 0) (ac 3) 96 rh, aC (cs 0) (ac 4) 96 rmk, oW aw hour grt beg, aC (cs 1) (aw 1) 8 laid, aC (cs 0) (aw 2) 8 dryh] (C := RX0) (T := TX0) (N := 3) dX7_door_25 rfl iX0 tyX0_ok nmX0 L1 rfl rfl (by decide) rfl rfl rfl (Nat.le_of_ble_eq_true rfl) rfl ?_
    refine v_aload_n hC 29 0 dX7_door_28 rfl rfl rfl ?_
    refine v_callVv hC 32 0 [0, 1, 2, 3, 4, 5, 6, 7, 8, 9, 10, 11, 12, 13, 14, 15, 16, 17, 18, 19, 20, 21] [] [] (As := []) (rest := []) (c_X7_renew lx D cs ag al ab ap ac aw wide high border pattern x pil bar cnt ofc knd col row siz bw bh fl fr ft fb nt rc src rw rh rmk hour grt beg laid dryh ak af (by omega) (by omega) (by omega) (by omega) (by omega) (by assumption) (by assumption) (by assumption) (by assumption) (by assumption)) dX7_door_29 rfl rfl 0 rfl rfl gX7_door_X7_renew rfl rfl rfl (by decide +kernel) ⟨by decide, by decide⟩ rfl rfl rfl rfl (by decide) rfl (Nat.le_of_ble_eq_true rfl) ⟨rfl, rfl⟩ ⟨by decide, by decide⟩ (fun u29 h29 => ?_)
    obtain ⟨bar1_29, cnt1_29, ofc1_29, knd1_29, col1_29, row1_29, siz1_29, bw1_29, bh1_29, fl1_29, fr1_29, ft1_29, fb1_29, nt1_29, rc1_29, rw1_29, rh1_29, rm1_29, src1_29⟩ := u29
    (try dsimp only at h29)
    obtain ⟨h29_1, h29_2, h29_3, h29_4, h29_5, h29_6, h29_7⟩ := h29
    show V p9 lx e9 ({ frames := 7, cells := 0, slots := 0, locals := 166 }) s9 m9 ar9 be9 me9 c9 Q9 D A9 s9.heap 2 0 0 [oG ag al (ab 0) (ap 0) (ac 0) (ak 0) (aw 0) af, oL al wide high border pattern, oB ab x, aC (cs 1) (ab 1) 96 pil, aC (cs 1) (ab 2) 96 bar1_29, oP ap cnt1_29, aC (cs 0) (ap 1) 96 ofc1_29, aC (cs 0) (ap 2) 96 knd1_29, aC (cs 0) (ap 3) 96 col1_29, aC (cs 0) (ap 4) 96 row1_29, aC (cs 0) (ap 5) 96 siz1_29, aC (cs 0) (ap 6) 96 bw1_29, aC (cs 0) (ap 7) 96 bh1_29, oF (ap 8) fl1_29 fr1_29 ft1_29 fb1_29, oC ac nt1_29 rc1_29, aC (cs 0) (ac 1) 96 src1_29, aC (cs 0) (ac 2) 96 rw1_29, aC (cs 0) (ac 3) 96 rh1_29, aC (cs 0) (ac 4) 96 rm1_29, oW aw hour grt beg, aC (cs 1) (aw 1) 8 laid, aC (cs 0) (aw 2) 8 dryh] [(0, .ref ag), (1, .int (iI x))] 32 []
    refine v_aload_n hC 33 0 dX7_door_32 rfl rfl rfl ?_
    refine v_get hC 36 0 2 (C := RX7) (T := TX7) (N := 7) dX7_door_33 rfl iX7 L2 rfl rfl (by decide) rfl ?_
    refine v_get hC 39 5 0 (C := RX4) (T := TX4) (N := 9) dX7_door_36 rfl iX4 L3 rfl rfl (by decide) rfl ?_
    exact v_iret hC hQ (bar1_29, cnt1_29, ofc1_29, knd1_29, col1_29, row1_29, siz1_29, bw1_29, bh1_29, fl1_29, fr1_29, ft1_29, fb1_29, nt1_29, rc1_29, rw1_29, rh1_29, rm1_29, src1_29) [0, 1, 2, 3, 4, 5, 6, 7, 8, 9, 10, 11, 12, 13, 14, 15, 16, 17, 18, 19, 20, 21] dX7_door_39 rfl rfl ⟨by decide, by decide⟩ ⟨by (try dsimp only); all_goals (first | rfl | omega), by (try dsimp only); all_goals (exact h29_1), by (try dsimp only); all_goals (exact h29_2), by (try dsimp only); all_goals (exact h29_3), by (try dsimp only); all_goals (exact h29_4), by (try dsimp only); all_goals (exact h29_5), by (try dsimp only); all_goals (exact h29_6), by (try dsimp only); all_goals (exact h29_7)⟩
  · exfalso; omega

set_option maxHeartbeats 4000000 in
set_option maxRecDepth 100000 in
theorem t_X7_door_1 (lx : Launch) (hfl : lx.stackTraces = false) (D : va_G) (cs : Nat → ClassId) (ag : Nat) (al : Nat) (ab : Nat → Nat) (ap : Nat → Nat) (ac : Nat → Nat) (aw : Nat → Nat) (wide : Int) (high : Int) (border : Int) (pattern : Int) (door : Int) (pil : Int → Int) (bar : Int → Int) (cnt : Int) (ofc : Int → Int) (knd : Int → Int) (col : Int → Int) (row : Int → Int) (siz : Int → Int) (bw : Int → Int) (bh : Int → Int) (fl : Int) (fr : Int) (ft : Int) (fb : Int) (nt : Int) (rc : Int) (src : Int → Int) (rw : Int → Int) (rh : Int → Int) (rmk : Int → Int) (hour : Int) (grt : Int) (beg : Int) (laid : Int → Int) (dryh : Int → Int) (ak : Nat → Nat) (af : Nat) (x : Int) (r1 : -2147483648 ≤ x ∧ x < 2147483648) (hno : ¬ (0 ≤ x ∧ x ≤ 10)) : Xt lx D cs yX7_door wsX7_door ({ frames := 7, cells := 1, slots := 6, locals := 166 }) [.ref ag, .int (iI x)] [oG ag al (ab 0) (ap 0) (ac 0) (ak 0) (aw 0) af, oL al wide high border pattern, oB ab door, aC (cs 1) (ab 1) 96 pil, aC (cs 1) (ab 2) 96 bar, oP ap cnt, aC (cs 0) (ap 1) 96 ofc, aC (cs 0) (ap 2) 96 knd, aC (cs 0) (ap 3) 96 col, aC (cs 0) (ap 4) 96 row, aC (cs 0) (ap 5) 96 siz, aC (cs 0) (ap 6) 96 bw, aC (cs 0) (ap 7) 96 bh, oF (ap 8) fl fr ft fb, oC ac nt rc, aC (cs 0) (ac 1) 96 src, aC (cs 0) (ac 2) 96 rw, aC (cs 0) (ac 3) 96 rh, aC (cs 0) (ac 4) 96 rmk, oW aw hour grt beg, aC (cs 1) (aw 1) 8 laid, aC (cs 0) (aw 2) 8 dryh] IOE 1 6 := by
  refine Xt_of (cc := cX7_door) (nL := 2) (ret := (some .int)) (lv0 := [(0, .ref ag), (1, .int (iI x))]) RX7 "door" (by decide +kernel) rfl (Nat.le_of_ble_eq_true rfl) rfl (fun p9 e9 s9 m9 ar9 be9 me9 c9 A9 Q9 hQ hC hT htab => ?_)
  have L0 : Cond.classLink RX7 97 IOE ∈ wsX7_door := by decide +kernel
  have L1 : Cond.initialized IOE ∈ wsX7_door := by decide +kernel
  refine v_iload_n hC 1 1 dX7_door_0 rfl rfl rfl ?_
  refine v_iconst hC 2 dX7_door_1 rfl ?_
  refine v_bipush hC 4 dX7_door_2 rfl rfl ?_
  refine v_callSi hC 7 3 [] [0, 1, 2, 3, 4, 5, 6, 7, 8, 9, 10, 11, 12, 13, 14, 15, 16, 17, 18, 19, 20, 21] [oG ag al (ab 0) (ap 0) (ac 0) (ak 0) (aw 0) af, oL al wide high border pattern, oB ab door, aC (cs 1) (ab 1) 96 pil, aC (cs 1) (ab 2) 96 bar, oP ap cnt, aC (cs 0) (ap 1) 96 ofc, aC (cs 0) (ap 2) 96 knd, aC (cs 0) (ap 3) 96 col, aC (cs 0) (ap 4) 96 row, aC (cs 0) (ap 5) 96 siz, aC (cs 0) (ap 6) 96 bw, aC (cs 0) (ap 7) 96 bh, oF (ap 8) fl fr ft fb, oC ac nt rc, aC (cs 0) (ac 1) 96 src, aC (cs 0) (ac 2) 96 rw, aC (cs 0) (ac 3) 96 rh, aC (cs 0) (ac 4) 96 rmk, oW aw hour grt beg, aC (cs 1) (aw 1) 8 laid, aC (cs 0) (aw 2) 8 dryh] (As := [.int (iI x), .int (iI 0), .int (iI 10)]) (rest := []) (c_X7_isWithin lx D cs x 0 10 (by omega) (by omega) (by omega)) dX7_door_4 rfl rfl gX7_door_X7_isWithin rfl rfl rfl (by decide +kernel) ⟨by decide, by decide⟩ rfl rfl rfl rfl (by decide) rfl (Nat.le_of_ble_eq_true rfl) ⟨rfl, rfl⟩ ⟨by decide, by decide⟩ (fun z4 u4 h4 => ?_)
  (try dsimp only at h4)
  obtain ⟨h4_1, h4_2⟩ := h4
  show V p9 lx e9 ({ frames := 7, cells := 1, slots := 6, locals := 166 }) s9 m9 ar9 be9 me9 c9 Q9 D A9 s9.heap 2 0 0 [oG ag al (ab 0) (ap 0) (ac 0) (ak 0) (aw 0) af, oL al wide high border pattern, oB ab door, aC (cs 1) (ab 1) 96 pil, aC (cs 1) (ab 2) 96 bar, oP ap cnt, aC (cs 0) (ap 1) 96 ofc, aC (cs 0) (ap 2) 96 knd, aC (cs 0) (ap 3) 96 col, aC (cs 0) (ap 4) 96 row, aC (cs 0) (ap 5) 96 siz, aC (cs 0) (ap 6) 96 bw, aC (cs 0) (ap 7) 96 bh, oF (ap 8) fl fr ft fb, oC ac nt rc, aC (cs 0) (ac 1) 96 src, aC (cs 0) (ac 2) 96 rw, aC (cs 0) (ac 3) 96 rh, aC (cs 0) (ac 4) 96 rmk, oW aw hour grt beg, aC (cs 1) (aw 1) 8 laid, aC (cs 0) (aw 2) 8 dryh] [(0, .ref ag), (1, .int (iI x))] 7 [.int (iI z4)]
  refine v_if_ne hC 20 10 dX7_door_7 (by decide) rfl (by omega) (fun c_7 => ?_) (fun c_7 => ?_)
  · skip
    exfalso; omega
  · skip
    exact v_throw (ik := 97) (is := 106) (ic := 101) (E := IOE) (text := "no such column for the door") hC hfl hT htab hQ dX7_door_10 dX7_door_13 dX7_door_14 dX7_door_16 dX7_door_19 thr_fitIOE L0 L1 (by decide +kernel) (by decide +kernel) thr_a101 thr_g97_101 [0, 1, 2, 3, 4, 5, 6, 7, 8, 9, 10, 11, 12, 13, 14, 15, 16, 17, 18, 19, 20, 21] rfl ⟨by decide, Nat.le_of_ble_eq_true rfl, by decide, by decide⟩ ⟨by decide, by decide⟩

set_option maxHeartbeats 4000000 in
set_option maxRecDepth 100000 in
theorem c_X7_ofPiece (lx : Launch) (D : va_G) (cs : Nat → ClassId) (ag : Nat) (al : Nat) (ap : Nat → Nat) (ac : Nat → Nat) (wide : Int) (high : Int) (border : Int) (pattern : Int) (cnt : Int) (ofc : Int → Int) (knd : Int → Int) (col : Int → Int) (row : Int → Int) (siz : Int → Int) (bw : Int → Int) (bh : Int → Int) (nt : Int) (rc : Int) (src : Int → Int) (rw : Int → Int) (rh : Int → Int) (rmk : Int → Int) (ab : Nat → Nat) (ak : Nat → Nat) (aw : Nat → Nat) (af : Nat) (x : Int) (y : Int) (r1 : -2147483648 ≤ x ∧ x < 2147483648) (r2 : -2147483648 ≤ y ∧ y < 2147483648) (hcnt : 0 ≤ cnt ∧ cnt ≤ 96) (hh : 1 ≤ high ∧ high ≤ 4) (hb : 0 ≤ border ∧ border ≤ 2) (hok : 0 ≤ x ∧ x < cnt) (hy : 0 ≤ y ∧ y ≤ 5) (hrow : ∀ j : Int, 0 ≤ j → j < cnt → 0 ≤ row j ∧ row j < 8) : Ci lx D cs yX7_ofPiece wsX7_ofPiece ({ frames := 5, cells := 0, slots := 0, locals := 107 }) [.ref ag, .int (iI x), .int (iI y)] [oG ag al (ab 0) (ap 0) (ac 0) (ak 0) (aw 0) af, oL al wide high border pattern, oP ap cnt, aC (cs 0) (ap 1) 96 ofc, aC (cs 0) (ap 2) 96 knd, aC (cs 0) (ap 3) 96 col, aC (cs 0) (ap 4) 96 row, aC (cs 0) (ap 5) 96 siz, aC (cs 0) (ap 6) 96 bw, aC (cs 0) (ap 7) 96 bh, oC ac nt rc, aC (cs 0) (ac 1) 96 src, aC (cs 0) (ac 2) 96 rw, aC (cs 0) (ac 3) 96 rh, aC (cs 0) (ac 4) 96 rmk] (fun (z : Int) (u : Unit) => (y = 0 → z = knd x) ∧ (y = 1 → z = col x) ∧ (y = 2 → z = row x) ∧ (y = 3 → z = siz x) ∧ (y = 4 → z = sR high border (row x)) ∧ (y = 5 → z = src x)) (fun u : Unit => [oG ag al (ab 0) (ap 0) (ac 0) (ak 0) (aw 0) af, oL al wide high border pattern, oP ap cnt, aC (cs 0) (ap 1) 96 ofc, aC (cs 0) (ap 2) 96 knd, aC (cs 0) (ap 3) 96 col, aC (cs 0) (ap 4) 96 row, aC (cs 0) (ap 5) 96 siz, aC (cs 0) (ap 6) 96 bw, aC (cs 0) (ap 7) 96 bh, oC ac nt rc, aC (cs 0) (ac 1) 96 src, aC (cs 0) (ac 2) 96 rw, aC (cs 0) (ac 3) 96 rh, aC (cs 0) (ac 4) 96 rmk]) 0 0 := by
  refine Ci_of (cc := cX7_ofPiece) (nL := 3) (ret := (some .int)) (lv0 := [(0, .ref ag), (1, .int (iI x)), (2, .int (iI y))]) RX7 "ofPiece" (by decide +kernel) rfl (Nat.le_of_ble_eq_true rfl) rfl (fun p9 e9 s9 m9 ar9 be9 me9 c9 A9 Q9 hQ hC => ?_)
  have iX7 : ∀ w ∈ wsX70, w ∈ wsX7_ofPiece := by decide +kernel
  have iX1 : ∀ w ∈ wsX10, w ∈ wsX7_ofPiece := by decide +kernel
  have iX4 : ∀ w ∈ wsX40, w ∈ wsX7_ofPiece := by decide +kernel
  have L0 : Cond.fieldLink RX7 26 "Groutline" "pieces" "LGroutline$Pieces;" ∈ wsX7_ofPiece := by decide +kernel
  have L1 : Cond.fieldLink RX7 33 "Groutline" "cuts" "LGroutline$Cuts;" ∈ wsX7_ofPiece := by decide +kernel
  have L2 : Cond.fieldLink RX7 136 "Groutline$Cuts" "sources" "[I" ∈ wsX7_ofPiece := by decide +kernel
  have L3 : Cond.fieldLink RX7 119 "Groutline$Pieces" "kinds" "[I" ∈ wsX7_ofPiece := by decide +kernel
  have L4 : Cond.fieldLink RX7 123 "Groutline$Pieces" "columns" "[I" ∈ wsX7_ofPiece := by decide +kernel
  have L5 : Cond.fieldLink RX7 126 "Groutline$Pieces" "rows" "[I" ∈ wsX7_ofPiece := by decide +kernel
  have L6 : Cond.fieldLink RX7 129 "Groutline$Pieces" "sizes" "[I" ∈ wsX7_ofPiece := by decide +kernel
  have L7 : Cond.fieldLink RX7 12 "Groutline" "layout" "LGroutline$Layout;" ∈ wsX7_ofPiece := by decide +kernel
  refine v_aload_n hC 1 0 dX7_ofPiece_0 rfl rfl rfl ?_
  refine v_get hC 4 0 2 (C := RX7) (T := TX7) (N := 7) dX7_ofPiece_1 rfl iX7 L0 rfl rfl (by decide) rfl ?_
  refine v_iload_n hC 5 1 dX7_ofPiece_4 rfl rfl rfl ?_
  refine v_callVi hC 8 1 [2, 3, 4, 5, 6, 7, 8, 9] [0, 1, 10, 11, 12, 13, 14] [oG ag al (ab 0) (ap 0) (ac 0) (ak 0) (aw 0) af, oL al wide high border pattern, oC ac nt rc, aC (cs 0) (ac 1) 96 src, aC (cs 0) (ac 2) 96 rw, aC (cs 0) (ac 3) 96 rh, aC (cs 0) (ac 4) 96 rmk] (As := [.int (iI x)]) (rest := []) (c_X4_has lx D cs ap cnt ofc knd col row siz bw bh x (by omega) (by omega)) dX7_ofPiece_5 rfl rfl 2 rfl rfl gX7_ofPiece_X4_has rfl rfl rfl (by decide +kernel) ⟨by decide, by decide⟩ rfl rfl rfl rfl (by decide) rfl (Nat.le_of_ble_eq_true rfl) ⟨rfl, rfl⟩ ⟨by decide, by decide⟩ (fun z5 u5 h5 => ?_)
  (try dsimp only at h5)
  obtain ⟨h5_1, h5_2⟩ := h5
  show V p9 lx e9 ({ frames := 5, cells := 0, slots := 0, locals := 107 }) s9 m9 ar9 be9 me9 c9 Q9 D A9 s9.heap 3 0 0 [oG ag al (ab 0) (ap 0) (ac 0) (ak 0) (aw 0) af, oL al wide high border pattern, oC ac nt rc, aC (cs 0) (ac 1) 96 src, aC (cs 0) (ac 2) 96 rw, aC (cs 0) (ac 3) 96 rh, aC (cs 0) (ac 4) 96 rmk, oP ap cnt, aC (cs 0) (ap 1) 96 ofc, aC (cs 0) (ap 2) 96 knd, aC (cs 0) (ap 3) 96 col, aC (cs 0) (ap 4) 96 row, aC (cs 0) (ap 5) 96 siz, aC (cs 0) (ap 6) 96 bw, aC (cs 0) (ap 7) 96 bh] [(0, .ref ag), (1, .int (iI x)), (2, .int (iI y))] 8 [.int (iI z5)]
  refine v_if_ne hC 21 11 dX7_ofPiece_8 (by decide) rfl (by omega) (fun c_8 => ?_) (fun c_8 => ?_)
  · skip
    refine v_iload_n hC 22 2 dX7_ofPiece_21 rfl rfl rfl ?_
    refine v_iconst hC 23 dX7_ofPiece_22 rfl ?_
    refine v_iconst hC 24 dX7_ofPiece_23 rfl ?_
    refine v_callSi hC 27 3 [] [0, 1, 2, 3, 4, 5, 6, 7, 8, 9, 10, 11, 12, 13, 14] [oG ag al (ab 0) (ap 0) (ac 0) (ak 0) (aw 0) af, oL al wide high border pattern, oC ac nt rc, aC (cs 0) (ac 1) 96 src, aC (cs 0) (ac 2) 96 rw, aC (cs 0) (ac 3) 96 rh, aC (cs 0) (ac 4) 96 rmk, oP ap cnt, aC (cs 0) (ap 1) 96 ofc, aC (cs 0) (ap 2) 96 knd, aC (cs 0) (ap 3) 96 col, aC (cs 0) (ap 4) 96 row, aC (cs 0) (ap 5) 96 siz, aC (cs 0) (ap 6) 96 bw, aC (cs 0) (ap 7) 96 bh] (As := [.int (iI y), .int (iI 0), .int (iI 5)]) (rest := []) (c_X7_isWithin lx D cs y 0 5 (by omega) (by omega) (by omega)) dX7_ofPiece_24 rfl rfl gX7_ofPiece_X7_isWithin rfl rfl rfl (by decide +kernel) ⟨by decide, by decide⟩ rfl rfl rfl rfl (by decide) rfl (Nat.le_of_ble_eq_true rfl) ⟨rfl, rfl⟩ ⟨by decide, by decide⟩ (fun z24 u24 h24 => ?_)
    (try dsimp only at h24)
    obtain ⟨h24_1, h24_2⟩ := h24
    show V p9 lx e9 ({ frames := 5, cells := 0, slots := 0, locals := 107 }) s9 m9 ar9 be9 me9 c9 Q9 D A9 s9.heap 3 0 0 [oG ag al (ab 0) (ap 0) (ac 0) (ak 0) (aw 0) af, oL al wide high border pattern, oC ac nt rc, aC (cs 0) (ac 1) 96 src, aC (cs 0) (ac 2) 96 rw, aC (cs 0) (ac 3) 96 rh, aC (cs 0) (ac 4) 96 rmk, oP ap cnt, aC (cs 0) (ap 1) 96 ofc, aC (cs 0) (ap 2) 96 knd, aC (cs 0) (ap 3) 96 col, aC (cs 0) (ap 4) 96 row, aC (cs 0) (ap 5) 96 siz, aC (cs 0) (ap 6) 96 bw, aC (cs 0) (ap 7) 96 bh] [(0, .ref ag), (1, .int (iI x)), (2, .int (iI y))] 27 [.int (iI z24)]
    refine v_if_ne hC 40 30 dX7_ofPiece_27 (by decide) rfl (by omega) (fun c_27 => ?_) (fun c_27 => ?_)
    · skip
      have pp9 := hrow x (by omega) (by omega)
      refine v_iload_n hC 41 2 dX7_ofPiece_40 rfl rfl rfl ?_
      have hsw_41 : (y < 0 ∨ 4 < y) ∨ y = 0 ∨ y = 1 ∨ y = 2 ∨ y = 3 ∨ y = 4 := by omega
      rcases hsw_41 with hsw_41 | hsw_41 | hsw_41 | hsw_41 | hsw_41 | hsw_41
      · refine v_tableOut hC 133 dX7_ofPiece_41 (by omega) (by omega) (by decide) ?_
        refine v_aload_n hC 134 0 dX7_ofPiece_133 rfl rfl rfl ?_
        refine v_get hC 137 0 3 (C := RX7) (T := TX7) (N := 7) dX7_ofPiece_134 rfl iX7 L1 rfl rfl (by decide) rfl ?_
        refine v_get hC 140 2 1 (C := RX1) (T := TX1) (N := 6) dX7_ofPiece_137 rfl iX1 L2 rfl rfl (by decide) rfl ?_
        refine v_iload_n hC 141 1 dX7_ofPiece_140 rfl rfl rfl ?_
        refine v_iald hC 142 3 dX7_ofPiece_141 rfl rfl (by decide) (by omega) ?_
        exact v_iret hC hQ () [0, 1, 7, 8, 9, 10, 11, 12, 13, 14, 2, 3, 4, 5, 6] dX7_ofPiece_142 rfl rfl ⟨by decide, by decide⟩ ⟨by (try dsimp only); all_goals (intro _; first | rfl | (exfalso; omega)), by (try dsimp only); all_goals (intro _; first | rfl | (exfalso; omega)), by (try dsimp only); all_goals (intro _; first | rfl | (exfalso; omega)), by (try dsimp only); all_goals (intro _; first | rfl | (exfalso; omega)), by (try dsimp only); all_goals (intro _; first | rfl | (exfalso; omega)), by (try dsimp only); all_goals (intro _; first | rfl | (exfalso; omega))⟩
      · refine v_tableIn hC 76 0 (off := 35) dX7_ofPiece_41 (by omega) hsw_41 (by decide) (by decide) (by decide) (by decide) ?_
        refine v_aload_n hC 77 0 dX7_ofPiece_76 rfl rfl rfl ?_
        refine v_get hC 80 0 2 (C := RX7) (T := TX7) (N := 7) dX7_ofPiece_77 rfl iX7 L0 rfl rfl (by decide) rfl ?_
        refine v_get hC 83 7 2 (C := RX4) (T := TX4) (N := 9) dX7_ofPiece_80 rfl iX4 L3 rfl rfl (by decide) rfl ?_
        refine v_iload_n hC 84 1 dX7_ofPiece_83 rfl rfl rfl ?_
        refine v_iald hC 85 9 dX7_ofPiece_84 rfl rfl (by decide) (by omega) ?_
        exact v_iret hC hQ () [0, 1, 7, 8, 9, 10, 11, 12, 13, 14, 2, 3, 4, 5, 6] dX7_ofPiece_85 rfl rfl ⟨by decide, by decide⟩ ⟨by (try dsimp only); all_goals (intro _; first | rfl | (exfalso; omega)), by (try dsimp only); all_goals (intro _; first | rfl | (exfalso; omega)), by (try dsimp only); all_goals (intro _; first | rfl | (exfalso; omega)), by (try dsimp only); all_goals (intro _; first | rfl | (exfalso; omega)), by (try dsimp only); all_goals (intro _; first | rfl | (exfalso; omega)), by (try dsimp only); all_goals (intro _; first | rfl | (exfalso; omega))⟩
      · refine v_tableIn hC 86 1 (off := 45) dX7_ofPiece_41 (by omega) hsw_41 (by decide) (by decide) (by decide) (by decide) ?_
        refine v_aload_n hC 87 0 dX7_ofPiece_86 rfl rfl rfl ?_
        refine v_get hC 90 0 2 (C := RX7) (T := TX7) (N := 7) dX7_ofPiece_87 rfl iX7 L0 rfl rfl (by decide) rfl ?_
        refine v_get hC 93 7 3 (C := RX4) (T := TX4) (N := 9) dX7_ofPiece_90 rfl iX4 L4 rfl rfl (by decide) rfl ?_
        refine v_iload_n hC 94 1 dX7_ofPiece_93 rfl rfl rfl ?_
        refine v_iald hC 95 10 dX7_ofPiece_94 rfl rfl (by decide) (by omega) ?_
        exact v_iret hC hQ () [0, 1, 7, 8, 9, 10, 11, 12, 13, 14, 2, 3, 4, 5, 6] dX7_ofPiece_95 rfl rfl ⟨by decide, by decide⟩ ⟨by (try dsimp only); all_goals (intro _; first | rfl | (exfalso; omega)), by (try dsimp only); all_goals (intro _; first | rfl | (exfalso; omega)), by (try dsimp only); all_goals (intro _; first | rfl | (exfalso; omega)), by (try dsimp only); all_goals (intro _; first | rfl | (exfalso; omega)), by (try dsimp only); all_goals (intro _; first | rfl | (exfalso; omega)), by (try dsimp only); all_goals (intro _; first | rfl | (exfalso; omega))⟩
      · refine v_tableIn hC 96 2 (off := 55) dX7_ofPiece_41 (by omega) hsw_41 (by decide) (by decide) (by decide) (by decide) ?_
        refine v_aload_n hC 97 0 dX7_ofPiece_96 rfl rfl rfl ?_
        refine v_get hC 100 0 2 (C := RX7) (T := TX7) (N := 7) dX7_ofPiece_97 rfl iX7 L0 rfl rfl (by decide) rfl ?_
        refine v_get hC 103 7 4 (C := RX4) (T := TX4) (N := 9) dX7_ofPiece_100 rfl iX4 L5 rfl rfl (by decide) rfl ?_
        refine v_iload_n hC 104 1 dX7_ofPiece_103 rfl rfl rfl ?_
        refine v_iald hC 105 11 dX7_ofPiece_104 rfl rfl (by decide) (by omega) ?_
        exact v_iret hC hQ () [0, 1, 7, 8, 9, 10, 11, 12, 13, 14, 2, 3, 4, 5, 6] dX7_ofPiece_105 rfl rfl ⟨by decide, by decide⟩ ⟨by (try dsimp only); all_goals (intro _; first | rfl | (exfalso; omega)), by (try dsimp only); all_goals (intro _; first | rfl | (exfalso; omega)), by (try dsimp only); all_goals (intro _; first | rfl | (exfalso; omega)), by (try dsimp only); all_goals (intro _; first | rfl | (exfalso; omega)), by (try dsimp only); all_goals (intro _; first | rfl | (exfalso; omega)), by (try dsimp only); all_goals (intro _; first | rfl | (exfalso; omega))⟩
      · refine v_tableIn hC 106 3 (off := 65) dX7_ofPiece_41 (by omega) hsw_41 (by decide) (by decide) (by decide) (by decide) ?_
        refine v_aload_n hC 107 0 dX7_ofPiece_106 rfl rfl rfl ?_
        refine v_get hC 110 0 2 (C := RX7) (T := TX7) (N := 7) dX7_ofPiece_107 rfl iX7 L0 rfl rfl (by decide) rfl ?_
        refine v_get hC 113 7 5 (C := RX4) (T := TX4) (N := 9) dX7_ofPiece_110 rfl iX4 L6 rfl rfl (by decide) rfl ?_
        refine v_iload_n hC 114 1 dX7_ofPiece_113 rfl rfl rfl ?_
        refine v_iald hC 115 12 dX7_ofPiece_114 rfl rfl (by decide) (by omega) ?_
        exact v_iret hC hQ () [0, 1, 7, 8, 9, 10, 11, 12, 13, 14, 2, 3, 4, 5, 6] dX7_ofPiece_115 rfl rfl ⟨by decide, by decide⟩ ⟨by (try dsimp only); all_goals (intro _; first | rfl | (exfalso; omega)), by (try dsimp only); all_goals (intro _; first | rfl | (exfalso; omega)), by (try dsimp only); all_goals (intro _; first | rfl | (exfalso; omega)), by (try dsimp only); all_goals (intro _; first | rfl | (exfalso; omega)), by (try dsimp only); all_goals (intro _; first | rfl | (exfalso; omega)), by (try dsimp only); all_goals (intro _; first | rfl | (exfalso; omega))⟩
      · refine v_tableIn hC 116 4 (off := 75) dX7_ofPiece_41 (by omega) hsw_41 (by decide) (by decide) (by decide) (by decide) ?_
        refine v_aload_n hC 117 0 dX7_ofPiece_116 rfl rfl rfl ?_
        refine v_get hC 120 0 0 (C := RX7) (T := TX7) (N := 7) dX7_ofPiece_117 rfl iX7 L7 rfl rfl (by decide) rfl ?_
        refine v_aload_n hC 121 0 dX7_ofPiece_120 rfl rfl rfl ?_
        refine v_get hC 124 0 2 (C := RX7) (T := TX7) (N := 7) dX7_ofPiece_121 rfl iX7 L0 rfl rfl (by decide) rfl ?_
        refine v_get hC 127 7 4 (C := RX4) (T := TX4) (N := 9) dX7_ofPiece_124 rfl iX4 L5 rfl rfl (by decide) rfl ?_
        refine v_iload_n hC 128 1 dX7_ofPiece_127 rfl rfl rfl ?_
        refine v_iald hC 129 11 dX7_ofPiece_128 rfl rfl (by decide) (by omega) ?_
        refine v_callVi hC 132 1 [1] [0, 2, 3, 4, 5, 6, 7, 8, 9, 10, 11, 12, 13, 14] [oG ag al (ab 0) (ap 0) (ac 0) (ak 0) (aw 0) af, oC ac nt rc, aC (cs 0) (ac 1) 96 src, aC (cs 0) (ac 2) 96 rw, aC (cs 0) (ac 3) 96 rh, aC (cs 0) (ac 4) 96 rmk, oP ap cnt, aC (cs 0) (ap 1) 96 ofc, aC (cs 0) (ap 2) 96 knd, aC (cs 0) (ap 3) 96 col, aC (cs 0) (ap 4) 96 row, aC (cs 0) (ap 5) 96 siz, aC (cs 0) (ap 6) 96 bw, aC (cs 0) (ap 7) 96 bh] (As := [.int (iI (row x))]) (rest := []) (c_X3_stripOfRow lx D cs al wide high border pattern (row x) (by omega) (by omega) (by omega)) dX7_ofPiece_129 rfl rfl 1 rfl rfl gX7_ofPiece_X3_stripOfRow rfl rfl rfl (by decide +kernel) ⟨by decide, by decide⟩ rfl rfl rfl rfl (by decide) rfl (Nat.le_of_ble_eq_true rfl) ⟨rfl, rfl⟩ ⟨by decide, by decide⟩ (fun z129 u129 h129 => ?_)
        (try dsimp only at h129)
        subst h129
        show V p9 lx e9 ({ frames := 5, cells := 0, slots := 0, locals := 107 }) s9 m9 ar9 be9 me9 c9 Q9 D A9 s9.heap 3 0 0 [oG ag al (ab 0) (ap 0) (ac 0) (ak 0) (aw 0) af, oC ac nt rc, aC (cs 0) (ac 1) 96 src, aC (cs 0) (ac 2) 96 rw, aC (cs 0) (ac 3) 96 rh, aC (cs 0) (ac 4) 96 rmk, oP ap cnt, aC (cs 0) (ap 1) 96 ofc, aC (cs 0) (ap 2) 96 knd, aC (cs 0) (ap 3) 96 col, aC (cs 0) (ap 4) 96 row, aC (cs 0) (ap 5) 96 siz, aC (cs 0) (ap 6) 96 bw, aC (cs 0) (ap 7) 96 bh, oL al wide high border pattern] [(0, .ref ag), (1, .int (iI x)), (2, .int (iI y))] 132 [.int (iI (sR high border (row x)))]
        exact v_iret hC hQ () [0, 14, 6, 7, 8, 9, 10, 11, 12, 13, 1, 2, 3, 4, 5] dX7_ofPiece_132 rfl rfl ⟨by decide, by decide⟩ ⟨by (try dsimp only); all_goals (intro _; first | rfl | (exfalso; omega)), by (try dsimp only); all_goals (intro _; first | rfl | (exfalso; omega)), by (try dsimp only); all_goals (intro _; first | rfl | (exfalso; omega)), by (try dsimp only); all_goals (intro _; first | rfl | (exfalso; omega)), by (try dsimp only); all_goals (intro _; first | rfl | (exfalso; omega)), by (try dsimp only); all_goals (intro _; first | rfl | (exfalso; omega))⟩
    · exfalso; omega
  · exfalso; omega

set_option maxHeartbeats 4000000 in
set_option maxRecDepth 100000 in
theorem t_X7_ofPiece_1 (lx : Launch) (hfl : lx.stackTraces = false) (D : va_G) (cs : Nat → ClassId) (ag : Nat) (al : Nat) (ap : Nat → Nat) (ac : Nat → Nat) (wide : Int) (high : Int) (border : Int) (pattern : Int) (cnt : Int) (ofc : Int → Int) (knd : Int → Int) (col : Int → Int) (row : Int → Int) (siz : Int → Int) (bw : Int → Int) (bh : Int → Int) (nt : Int) (rc : Int) (src : Int → Int) (rw : Int → Int) (rh : Int → Int) (rmk : Int → Int) (ab : Nat → Nat) (ak : Nat → Nat) (aw : Nat → Nat) (af : Nat) (x : Int) (y : Int) (r1 : -2147483648 ≤ x ∧ x < 2147483648) (r2 : -2147483648 ≤ y ∧ y < 2147483648) (hcnt : 0 ≤ cnt ∧ cnt ≤ 96) (hno : ¬ (0 ≤ x ∧ x < cnt)) : Xt lx D cs yX7_ofPiece wsX7_ofPiece ({ frames := 6, cells := 1, slots := 6, locals := 107 }) [.ref ag, .int (iI x), .int (iI y)] [oG ag al (ab 0) (ap 0) (ac 0) (ak 0) (aw 0) af, oL al wide high border pattern, oP ap cnt, aC (cs 0) (ap 1) 96 ofc, aC (cs 0) (ap 2) 96 knd, aC (cs 0) (ap 3) 96 col, aC (cs 0) (ap 4) 96 row, aC (cs 0) (ap 5) 96 siz, aC (cs 0) (ap 6) 96 bw, aC (cs 0) (ap 7) 96 bh, oC ac nt rc, aC (cs 0) (ac 1) 96 src, aC (cs 0) (ac 2) 96 rw, aC (cs 0) (ac 3) 96 rh, aC (cs 0) (ac 4) 96 rmk] IOE 1 6 := by
  refine Xt_of (cc := cX7_ofPiece) (nL := 3) (ret := (some .int)) (lv0 := [(0, .ref ag), (1, .int (iI x)), (2, .int (iI y))]) RX7 "ofPiece" (by decide +kernel) rfl (Nat.le_of_ble_eq_true rfl) rfl (fun p9 e9 s9 m9 ar9 be9 me9 c9 A9 Q9 hQ hC hT htab => ?_)
  have iX7 : ∀ w ∈ wsX70, w ∈ wsX7_ofPiece := by decide +kernel
  have L0 : Cond.fieldLink RX7 26 "Groutline" "pieces" "LGroutline$Pieces;" ∈ wsX7_ofPiece := by decide +kernel
  have L1 : Cond.classLink RX7 97 IOE ∈ wsX7_ofPiece := by decide +kernel
  have L2 : Cond.initialized IOE ∈ wsX7_ofPiece := by decide +kernel
  refine v_aload_n hC 1 0 dX7_ofPiece_0 rfl rfl rfl ?_
  refine v_get hC 4 0 2 (C := RX7) (T := TX7) (N := 7) dX7_ofPiece_1 rfl iX7 L0 rfl rfl (by decide) rfl ?_
  refine v_iload_n hC 5 1 dX7_ofPiece_4 rfl rfl rfl ?_
  refine v_callVi hC 8 1 [2, 3, 4, 5, 6, 7, 8, 9] [0, 1, 10, 11, 12, 13, 14] [oG ag al (ab 0) (ap 0) (ac 0) (ak 0) (aw 0) af, oL al wide high border pattern, oC ac nt rc, aC (cs 0) (ac 1) 96 src, aC (cs 0) (ac 2) 96 rw, aC (cs 0) (ac 3) 96 rh, aC (cs 0) (ac 4) 96 rmk] (As := [.int (iI x)]) (rest := []) (c_X4_has lx D cs ap cnt ofc knd col row siz bw bh x (by omega) (by omega)) dX7_ofPiece_5 rfl rfl 2 rfl rfl gX7_ofPiece_X4_has rfl rfl rfl (by decide +kernel) ⟨by decide, by decide⟩ rfl rfl rfl rfl (by decide) rfl (Nat.le_of_ble_eq_true rfl) ⟨rfl, rfl⟩ ⟨by decide, by decide⟩ (fun z5 u5 h5 => ?_)
  (try dsimp only at h5)
  obtain ⟨h5_1, h5_2⟩ := h5
  show V p9 lx e9 ({ frames := 6, cells := 1, slots := 6, locals := 107 }) s9 m9 ar9 be9 me9 c9 Q9 D A9 s9.heap 3 0 0 [oG ag al (ab 0) (ap 0) (ac 0) (ak 0) (aw 0) af, oL al wide high border pattern, oC ac nt rc, aC (cs 0) (ac 1) 96 src, aC (cs 0) (ac 2) 96 rw, aC (cs 0) (ac 3) 96 rh, aC (cs 0) (ac 4) 96 rmk, oP ap cnt, aC (cs 0) (ap 1) 96 ofc, aC (cs 0) (ap 2) 96 knd, aC (cs 0) (ap 3) 96 col, aC (cs 0) (ap 4) 96 row, aC (cs 0) (ap 5) 96 siz, aC (cs 0) (ap 6) 96 bw, aC (cs 0) (ap 7) 96 bh] [(0, .ref ag), (1, .int (iI x)), (2, .int (iI y))] 8 [.int (iI z5)]
  refine v_if_ne hC 21 11 dX7_ofPiece_8 (by decide) rfl (by omega) (fun c_8 => ?_) (fun c_8 => ?_)
  · skip
    exfalso; omega
  · skip
    exact v_throw (ik := 97) (is := 115) (ic := 101) (E := IOE) (text := "no such piece") hC hfl hT htab hQ dX7_ofPiece_11 dX7_ofPiece_14 dX7_ofPiece_15 dX7_ofPiece_17 dX7_ofPiece_20 thr_fitIOE L1 L2 (by decide +kernel) (by decide +kernel) thr_a101 thr_g97_101 [0, 1, 7, 8, 9, 10, 11, 12, 13, 14, 2, 3, 4, 5, 6] rfl ⟨by decide, Nat.le_of_ble_eq_true rfl, by decide, by decide⟩ ⟨by decide, by decide⟩

set_option maxHeartbeats 4000000 in
set_option maxRecDepth 100000 in
theorem t_X7_ofPiece_2 (lx : Launch) (hfl : lx.stackTraces = false) (D : va_G) (cs : Nat → ClassId) (ag : Nat) (al : Nat) (ap : Nat → Nat) (ac : Nat → Nat) (wide : Int) (high : Int) (border : Int) (pattern : Int) (cnt : Int) (ofc : Int → Int) (knd : Int → Int) (col : Int → Int) (row : Int → Int) (siz : Int → Int) (bw : Int → Int) (bh : Int → Int) (nt : Int) (rc : Int) (src : Int → Int) (rw : Int → Int) (rh : Int → Int) (rmk : Int → Int) (ab : Nat → Nat) (ak : Nat → Nat) (aw : Nat → Nat) (af : Nat) (x : Int) (y : Int) (r1 : -2147483648 ≤ x ∧ x < 2147483648) (r2 : -2147483648 ≤ y ∧ y < 2147483648) (hcnt : 0 ≤ cnt ∧ cnt ≤ 96) (hno : 0 ≤ x ∧ x < cnt) (hy : ¬ (0 ≤ y ∧ y ≤ 5)) : Xt lx D cs yX7_ofPiece wsX7_ofPiece ({ frames := 6, cells := 1, slots := 6, locals := 107 }) [.ref ag, .int (iI x), .int (iI y)] [oG ag al (ab 0) (ap 0) (ac 0) (ak 0) (aw 0) af, oL al wide high border pattern, oP ap cnt, aC (cs 0) (ap 1) 96 ofc, aC (cs 0) (ap 2) 96 knd, aC (cs 0) (ap 3) 96 col, aC (cs 0) (ap 4) 96 row, aC (cs 0) (ap 5) 96 siz, aC (cs 0) (ap 6) 96 bw, aC (cs 0) (ap 7) 96 bh, oC ac nt rc, aC (cs 0) (ac 1) 96 src, aC (cs 0) (ac 2) 96 rw, aC (cs 0) (ac 3) 96 rh, aC (cs 0) (ac 4) 96 rmk] IAE 1 6 := by
  refine Xt_of (cc := cX7_ofPiece) (nL := 3) (ret := (some .int)) (lv0 := [(0, .ref ag), (1, .int (iI x)), (2, .int (iI y))]) RX7 "ofPiece" (by decide +kernel) rfl (Nat.le_of_ble_eq_true rfl) rfl (fun p9 e9 s9 m9 ar9 be9 me9 c9 A9 Q9 hQ hC hT htab => ?_)
  have iX7 : ∀ w ∈ wsX70, w ∈ wsX7_ofPiece := by decide +kernel
  have L0 : Cond.fieldLink RX7 26 "Groutline" "pieces" "LGroutline$Pieces;" ∈ wsX7_ofPiece := by decide +kernel
  have L1 : Cond.classLink RX7 65 IAE ∈ wsX7_ofPiece := by decide +kernel
  have L2 : Cond.initialized IAE ∈ wsX7_ofPiece := by decide +kernel
  refine v_aload_n hC 1 0 dX7_ofPiece_0 rfl rfl rfl ?_
  refine v_get hC 4 0 2 (C := RX7) (T := TX7) (N := 7) dX7_ofPiece_1 rfl iX7 L0 rfl rfl (by decide) rfl ?_
  refine v_iload_n hC 5 1 dX7_ofPiece_4 rfl rfl rfl ?_
  refine v_callVi hC 8 1 [2, 3, 4, 5, 6, 7, 8, 9] [0, 1, 10, 11, 12, 13, 14] [oG ag al (ab 0) (ap 0) (ac 0) (ak 0) (aw 0) af, oL al wide high border pattern, oC ac nt rc, aC (cs 0) (ac 1) 96 src, aC (cs 0) (ac 2) 96 rw, aC (cs 0) (ac 3) 96 rh, aC (cs 0) (ac 4) 96 rmk] (As := [.int (iI x)]) (rest := []) (c_X4_has lx D cs ap cnt ofc knd col row siz bw bh x (by omega) (by omega)) dX7_ofPiece_5 rfl rfl 2 rfl rfl gX7_ofPiece_X4_has rfl rfl rfl (by decide +kernel) ⟨by decide, by decide⟩ rfl rfl rfl rfl (by decide) rfl (Nat.le_of_ble_eq_true rfl) ⟨rfl, rfl⟩ ⟨by decide, by decide⟩ (fun z5 u5 h5 => ?_)
  (try dsimp only at h5)
  obtain ⟨h5_1, h5_2⟩ := h5
  show V p9 lx e9 ({ frames := 6, cells := 1, slots := 6, locals := 107 }) s9 m9 ar9 be9 me9 c9 Q9 D A9 s9.heap 3 0 0 [oG ag al (ab 0) (ap 0) (ac 0) (ak 0) (aw 0) af, oL al wide high border pattern, oC ac nt rc, aC (cs 0) (ac 1) 96 src, aC (cs 0) (ac 2) 96 rw, aC (cs 0) (ac 3) 96 rh, aC (cs 0) (ac 4) 96 rmk, oP ap cnt, aC (cs 0) (ap 1) 96 ofc, aC (cs 0) (ap 2) 96 knd, aC (cs 0) (ap 3) 96 col, aC (cs 0) (ap 4) 96 row, aC (cs 0) (ap 5) 96 siz, aC (cs 0) (ap 6) 96 bw, aC (cs 0) (ap 7) 96 bh] [(0, .ref ag), (1, .int (iI x)), (2, .int (iI y))] 8 [.int (iI z5)]
  refine v_if_ne hC 21 11 dX7_ofPiece_8 (by decide) rfl (by omega) (fun c_8 => ?_) (fun c_8 => ?_)
  · skip
    refine v_iload_n hC 22 2 dX7_ofPiece_21 rfl rfl rfl ?_
    refine v_iconst hC 23 dX7_ofPiece_22 rfl ?_
    refine v_iconst hC 24 dX7_ofPiece_23 rfl ?_
    refine v_callSi hC 27 3 [] [0, 1, 2, 3, 4, 5, 6, 7, 8, 9, 10, 11, 12, 13, 14] [oG ag al (ab 0) (ap 0) (ac 0) (ak 0) (aw 0) af, oL al wide high border pattern, oC ac nt rc, aC (cs 0) (ac 1) 96 src, aC (cs 0) (ac 2) 96 rw, aC (cs 0) (ac 3) 96 rh, aC (cs 0) (ac 4) 96 rmk, oP ap cnt, aC (cs 0) (ap 1) 96 ofc, aC (cs 0) (ap 2) 96 knd, aC (cs 0) (ap 3) 96 col, aC (cs 0) (ap 4) 96 row, aC (cs 0) (ap 5) 96 siz, aC (cs 0) (ap 6) 96 bw, aC (cs 0) (ap 7) 96 bh] (As := [.int (iI y), .int (iI 0), .int (iI 5)]) (rest := []) (c_X7_isWithin lx D cs y 0 5 (by omega) (by omega) (by omega)) dX7_ofPiece_24 rfl rfl gX7_ofPiece_X7_isWithin rfl rfl rfl (by decide +kernel) ⟨by decide, by decide⟩ rfl rfl rfl rfl (by decide) rfl (Nat.le_of_ble_eq_true rfl) ⟨rfl, rfl⟩ ⟨by decide, by decide⟩ (fun z24 u24 h24 => ?_)
    (try dsimp only at h24)
    obtain ⟨h24_1, h24_2⟩ := h24
    show V p9 lx e9 ({ frames := 6, cells := 1, slots := 6, locals := 107 }) s9 m9 ar9 be9 me9 c9 Q9 D A9 s9.heap 3 0 0 [oG ag al (ab 0) (ap 0) (ac 0) (ak 0) (aw 0) af, oL al wide high border pattern, oC ac nt rc, aC (cs 0) (ac 1) 96 src, aC (cs 0) (ac 2) 96 rw, aC (cs 0) (ac 3) 96 rh, aC (cs 0) (ac 4) 96 rmk, oP ap cnt, aC (cs 0) (ap 1) 96 ofc, aC (cs 0) (ap 2) 96 knd, aC (cs 0) (ap 3) 96 col, aC (cs 0) (ap 4) 96 row, aC (cs 0) (ap 5) 96 siz, aC (cs 0) (ap 6) 96 bw, aC (cs 0) (ap 7) 96 bh] [(0, .ref ag), (1, .int (iI x)), (2, .int (iI y))] 27 [.int (iI z24)]
    refine v_if_ne hC 40 30 dX7_ofPiece_27 (by decide) rfl (by omega) (fun c_27 => ?_) (fun c_27 => ?_)
    · skip
      exfalso; omega
    · skip
      exact v_throw (ik := 65) (is := 117) (ic := 69) (E := IAE) (text := "what is 0 to 5") hC hfl hT htab hQ dX7_ofPiece_30 dX7_ofPiece_33 dX7_ofPiece_34 dX7_ofPiece_36 dX7_ofPiece_39 thr_fitIAE L1 L2 (by decide +kernel) (by decide +kernel) thr_a69 thr_g65_69 [0, 1, 7, 8, 9, 10, 11, 12, 13, 14, 2, 3, 4, 5, 6] rfl ⟨by decide, Nat.le_of_ble_eq_true rfl, by decide, by decide⟩ ⟨by decide, by decide⟩
  · skip
    exfalso; omega

set_option maxHeartbeats 4000000 in
set_option maxRecDepth 100000 in
theorem c_X7_pieceAt (lx : Launch) (D : va_G) (cs : Nat → ClassId) (ag : Nat) (ap : Nat → Nat) (cnt : Int) (ofc : Int → Int) (knd : Int → Int) (col : Int → Int) (row : Int → Int) (siz : Int → Int) (bw : Int → Int) (bh : Int → Int) (al : Nat) (ab : Nat → Nat) (ac : Nat → Nat) (ak : Nat → Nat) (aw : Nat → Nat) (af : Nat) (x : Int) (y : Int) (r1 : -2147483648 ≤ x ∧ x < 2147483648) (r2 : -2147483648 ≤ y ∧ y < 2147483648) (hok : ((0 ≤ x ∧ x < 12) ∧ 0 ≤ y ∧ y < 8)) : Ci lx D cs yX7_pieceAt wsX7_pieceAt ({ frames := 2, cells := 0, slots := 0, locals := 45 }) [.ref ag, .int (iI x), .int (iI y)] [oG ag al (ab 0) (ap 0) (ac 0) (ak 0) (aw 0) af, oP ap cnt, aC (cs 0) (ap 1) 96 ofc, aC (cs 0) (ap 2) 96 knd, aC (cs 0) (ap 3) 96 col, aC (cs 0) (ap 4) 96 row, aC (cs 0) (ap 5) 96 siz, aC (cs 0) (ap 6) 96 bw, aC (cs 0) (ap 7) 96 bh] (fun (z : Int) (u : Unit) => (z = ofc (y * 12 + x))) (fun u : Unit => [oG ag al (ab 0) (ap 0) (ac 0) (ak 0) (aw 0) af, oP ap cnt, aC (cs 0) (ap 1) 96 ofc, aC (cs 0) (ap 2) 96 knd, aC (cs 0) (ap 3) 96 col, aC (cs 0) (ap 4) 96 row, aC (cs 0) (ap 5) 96 siz, aC (cs 0) (ap 6) 96 bw, aC (cs 0) (ap 7) 96 bh]) 0 0 := by
  refine Ci_of (cc := cX7_pieceAt) (nL := 3) (ret := (some .int)) (lv0 := [(0, .ref ag), (1, .int (iI x)), (2, .int (iI y))]) RX7 "pieceAt" (by decide +kernel) rfl (Nat.le_of_ble_eq_true rfl) rfl (fun p9 e9 s9 m9 ar9 be9 me9 c9 A9 Q9 hQ hC => ?_)
  have iX7 : ∀ w ∈ wsX70, w ∈ wsX7_pieceAt := by decide +kernel
  have iX4 : ∀ w ∈ wsX40, w ∈ wsX7_pieceAt := by decide +kernel
  have L0 : Cond.fieldLink RX7 26 "Groutline" "pieces" "LGroutline$Pieces;" ∈ wsX7_pieceAt := by decide +kernel
  have L1 : Cond.fieldLink RX7 139 "Groutline$Pieces" "ofCells" "[I" ∈ wsX7_pieceAt := by decide +kernel
  refine v_iload_n hC 1 1 dX7_pieceAt_0 rfl rfl rfl ?_
  refine v_iload_n hC 2 2 dX7_pieceAt_1 rfl rfl rfl ?_
  refine v_callSi hC 5 2 [] [0, 1, 2, 3, 4, 5, 6, 7, 8] [oG ag al (ab 0) (ap 0) (ac 0) (ak 0) (aw 0) af, oP ap cnt, aC (cs 0) (ap 1) 96 ofc, aC (cs 0) (ap 2) 96 knd, aC (cs 0) (ap 3) 96 col, aC (cs 0) (ap 4) 96 row, aC (cs 0) (ap 5) 96 siz, aC (cs 0) (ap 6) 96 bw, aC (cs 0) (ap 7) 96 bh] (As := [.int (iI x), .int (iI y)]) (rest := []) (c_X7_isCell lx D cs x y (by omega) (by omega)) dX7_pieceAt_2 rfl rfl gX7_pieceAt_X7_isCell rfl rfl rfl (by decide +kernel) ⟨by decide, by decide⟩ rfl rfl rfl rfl (by decide) rfl (Nat.le_of_ble_eq_true rfl) ⟨rfl, rfl⟩ ⟨by decide, by decide⟩ (fun z2 u2 h2 => ?_)
  (try dsimp only at h2)
  obtain ⟨h2_1, h2_2⟩ := h2
  show V p9 lx e9 ({ frames := 2, cells := 0, slots := 0, locals := 45 }) s9 m9 ar9 be9 me9 c9 Q9 D A9 s9.heap 3 0 0 [oG ag al (ab 0) (ap 0) (ac 0) (ak 0) (aw 0) af, oP ap cnt, aC (cs 0) (ap 1) 96 ofc, aC (cs 0) (ap 2) 96 knd, aC (cs 0) (ap 3) 96 col, aC (cs 0) (ap 4) 96 row, aC (cs 0) (ap 5) 96 siz, aC (cs 0) (ap 6) 96 bw, aC (cs 0) (ap 7) 96 bh] [(0, .ref ag), (1, .int (iI x)), (2, .int (iI y))] 5 [.int (iI z2)]
  refine v_if_ne hC 18 8 dX7_pieceAt_5 (by decide) rfl (by omega) (fun c_5 => ?_) (fun c_5 => ?_)
  · skip
    refine v_aload_n hC 19 0 dX7_pieceAt_18 rfl rfl rfl ?_
    refine v_get hC 22 0 2 (C := RX7) (T := TX7) (N := 7) dX7_pieceAt_19 rfl iX7 L0 rfl rfl (by decide) rfl ?_
    refine v_get hC 25 1 1 (C := RX4) (T := TX4) (N := 9) dX7_pieceAt_22 rfl iX4 L1 rfl rfl (by decide) rfl ?_
    refine v_iload_n hC 26 1 dX7_pieceAt_25 rfl rfl rfl ?_
    refine v_iload_n hC 27 2 dX7_pieceAt_26 rfl rfl rfl ?_
    refine v_callSi hC 30 2 [] [0, 1, 2, 3, 4, 5, 6, 7, 8] [oG ag al (ab 0) (ap 0) (ac 0) (ak 0) (aw 0) af, oP ap cnt, aC (cs 0) (ap 1) 96 ofc, aC (cs 0) (ap 2) 96 knd, aC (cs 0) (ap 3) 96 col, aC (cs 0) (ap 4) 96 row, aC (cs 0) (ap 5) 96 siz, aC (cs 0) (ap 6) 96 bw, aC (cs 0) (ap 7) 96 bh] (As := [.int (iI x), .int (iI y)]) (rest := [.ref (ap 1)]) (c_X7_cellAt lx D cs x y ) dX7_pieceAt_27 rfl rfl gX7_pieceAt_X7_cellAt rfl rfl rfl (by decide +kernel) ⟨by decide, by decide⟩ rfl rfl rfl rfl (by decide) rfl (Nat.le_of_ble_eq_true rfl) ⟨rfl, rfl⟩ ⟨by decide, by decide⟩ (fun z27 u27 h27 => ?_)
    (try dsimp only at h27)
    subst h27
    show V p9 lx e9 ({ frames := 2, cells := 0, slots := 0, locals := 45 }) s9 m9 ar9 be9 me9 c9 Q9 D A9 s9.heap 3 0 0 [oG ag al (ab 0) (ap 0) (ac 0) (ak 0) (aw 0) af, oP ap cnt, aC (cs 0) (ap 1) 96 ofc, aC (cs 0) (ap 2) 96 knd, aC (cs 0) (ap 3) 96 col, aC (cs 0) (ap 4) 96 row, aC (cs 0) (ap 5) 96 siz, aC (cs 0) (ap 6) 96 bw, aC (cs 0) (ap 7) 96 bh] [(0, .ref ag), (1, .int (iI x)), (2, .int (iI y))] 30 [.int (iI (y * 12 + x)), .ref (ap 1)]
    refine v_iald hC 31 2 dX7_pieceAt_30 rfl rfl (by decide) (by omega) ?_
    exact v_iret hC hQ () [0, 1, 2, 3, 4, 5, 6, 7, 8] dX7_pieceAt_31 rfl rfl ⟨by decide, by decide⟩ (by (try dsimp only); all_goals (first | rfl | omega))
  · exfalso; omega

set_option maxHeartbeats 4000000 in
set_option maxRecDepth 100000 in
theorem t_X7_pieceAt_1 (lx : Launch) (hfl : lx.stackTraces = false) (D : va_G) (cs : Nat → ClassId) (ag : Nat) (ap : Nat → Nat) (cnt : Int) (ofc : Int → Int) (knd : Int → Int) (col : Int → Int) (row : Int → Int) (siz : Int → Int) (bw : Int → Int) (bh : Int → Int) (al : Nat) (ab : Nat → Nat) (ac : Nat → Nat) (ak : Nat → Nat) (aw : Nat → Nat) (af : Nat) (x : Int) (y : Int) (r1 : -2147483648 ≤ x ∧ x < 2147483648) (r2 : -2147483648 ≤ y ∧ y < 2147483648) (hno : ¬ ((0 ≤ x ∧ x < 12) ∧ 0 ≤ y ∧ y < 8)) : Xt lx D cs yX7_pieceAt wsX7_pieceAt ({ frames := 6, cells := 1, slots := 6, locals := 96 }) [.ref ag, .int (iI x), .int (iI y)] [oG ag al (ab 0) (ap 0) (ac 0) (ak 0) (aw 0) af, oP ap cnt, aC (cs 0) (ap 1) 96 ofc, aC (cs 0) (ap 2) 96 knd, aC (cs 0) (ap 3) 96 col, aC (cs 0) (ap 4) 96 row, aC (cs 0) (ap 5) 96 siz, aC (cs 0) (ap 6) 96 bw, aC (cs 0) (ap 7) 96 bh] IOE 1 6 := by
  refine Xt_of (cc := cX7_pieceAt) (nL := 3) (ret := (some .int)) (lv0 := [(0, .ref ag), (1, .int (iI x)), (2, .int (iI y))]) RX7 "pieceAt" (by decide +kernel) rfl (Nat.le_of_ble_eq_true rfl) rfl (fun p9 e9 s9 m9 ar9 be9 me9 c9 A9 Q9 hQ hC hT htab => ?_)
  have L0 : Cond.classLink RX7 97 IOE ∈ wsX7_pieceAt := by decide +kernel
  have L1 : Cond.initialized IOE ∈ wsX7_pieceAt := by decide +kernel
  refine v_iload_n hC 1 1 dX7_pieceAt_0 rfl rfl rfl ?_
  refine v_iload_n hC 2 2 dX7_pieceAt_1 rfl rfl rfl ?_
  refine v_callSi hC 5 2 [] [0, 1, 2, 3, 4, 5, 6, 7, 8] [oG ag al (ab 0) (ap 0) (ac 0) (ak 0) (aw 0) af, oP ap cnt, aC (cs 0) (ap 1) 96 ofc, aC (cs 0) (ap 2) 96 knd, aC (cs 0) (ap 3) 96 col, aC (cs 0) (ap 4) 96 row, aC (cs 0) (ap 5) 96 siz, aC (cs 0) (ap 6) 96 bw, aC (cs 0) (ap 7) 96 bh] (As := [.int (iI x), .int (iI y)]) (rest := []) (c_X7_isCell lx D cs x y (by omega) (by omega)) dX7_pieceAt_2 rfl rfl gX7_pieceAt_X7_isCell rfl rfl rfl (by decide +kernel) ⟨by decide, by decide⟩ rfl rfl rfl rfl (by decide) rfl (Nat.le_of_ble_eq_true rfl) ⟨rfl, rfl⟩ ⟨by decide, by decide⟩ (fun z2 u2 h2 => ?_)
  (try dsimp only at h2)
  obtain ⟨h2_1, h2_2⟩ := h2
  show V p9 lx e9 ({ frames := 6, cells := 1, slots := 6, locals := 96 }) s9 m9 ar9 be9 me9 c9 Q9 D A9 s9.heap 3 0 0 [oG ag al (ab 0) (ap 0) (ac 0) (ak 0) (aw 0) af, oP ap cnt, aC (cs 0) (ap 1) 96 ofc, aC (cs 0) (ap 2) 96 knd, aC (cs 0) (ap 3) 96 col, aC (cs 0) (ap 4) 96 row, aC (cs 0) (ap 5) 96 siz, aC (cs 0) (ap 6) 96 bw, aC (cs 0) (ap 7) 96 bh] [(0, .ref ag), (1, .int (iI x)), (2, .int (iI y))] 5 [.int (iI z2)]
  refine v_if_ne hC 18 8 dX7_pieceAt_5 (by decide) rfl (by omega) (fun c_5 => ?_) (fun c_5 => ?_)
  · skip
    exfalso; omega
  · skip
    exact v_throw (ik := 97) (is := 99) (ic := 101) (E := IOE) (text := "no such cell") hC hfl hT htab hQ dX7_pieceAt_8 dX7_pieceAt_11 dX7_pieceAt_12 dX7_pieceAt_14 dX7_pieceAt_17 thr_fitIOE L0 L1 (by decide +kernel) (by decide +kernel) thr_a101 thr_g97_101 [0, 1, 2, 3, 4, 5, 6, 7, 8] rfl ⟨by decide, Nat.le_of_ble_eq_true rfl, by decide, by decide⟩ ⟨by decide, by decide⟩

set_option maxHeartbeats 4000000 in
set_option maxRecDepth 100000 in
theorem c_X7_rest (lx : Launch) (D : va_G) (cs : Nat → ClassId) (ag : Nat) (ac : Nat → Nat) (nt : Int) (rc : Int) (src : Int → Int) (rw : Int → Int) (rh : Int → Int) (rmk : Int → Int) (al : Nat) (ab : Nat → Nat) (ap : Nat → Nat) (ak : Nat → Nat) (aw : Nat → Nat) (af : Nat) (x : Int) (r1 : -2147483648 ≤ x ∧ x < 2147483648) (hok : 0 ≤ x) (hrc : 0 ≤ rc ∧ rc ≤ 96) : Ci lx D cs yX7_rest wsX7_rest ({ frames := 3, cells := 0, slots := 0, locals := 66 }) [.ref ag, .int (iI x)] [oG ag al (ab 0) (ap 0) (ac 0) (ak 0) (aw 0) af, oC ac nt rc, aC (cs 0) (ac 1) 96 src, aC (cs 0) (ac 2) 96 rw, aC (cs 0) (ac 3) 96 rh, aC (cs 0) (ac 4) 96 rmk] (fun (z : Int) (u : Unit) => (x < rc → z = 10 * rw x + rh x) ∧ (rc ≤ x → z = -1)) (fun u : Unit => [oG ag al (ab 0) (ap 0) (ac 0) (ak 0) (aw 0) af, oC ac nt rc, aC (cs 0) (ac 1) 96 src, aC (cs 0) (ac 2) 96 rw, aC (cs 0) (ac 3) 96 rh, aC (cs 0) (ac 4) 96 rmk]) 0 0 := by
  refine Ci_of (cc := cX7_rest) (nL := 2) (ret := (some .int)) (lv0 := [(0, .ref ag), (1, .int (iI x))]) RX7 "rest" (by decide +kernel) rfl (Nat.le_of_ble_eq_true rfl) rfl (fun p9 e9 s9 m9 ar9 be9 me9 c9 A9 Q9 hQ hC => ?_)
  have iX7 : ∀ w ∈ wsX70, w ∈ wsX7_rest := by decide +kernel
  have L0 : Cond.fieldLink RX7 33 "Groutline" "cuts" "LGroutline$Cuts;" ∈ wsX7_rest := by decide +kernel
  refine v_iload_n hC 1 1 dX7_rest_0 rfl rfl rfl ?_
  refine v_if_ge hC 14 4 dX7_rest_1 (by decide) rfl (by omega) (fun c_1 => ?_) (fun c_1 => ?_)
  · skip
    refine v_aload_n hC 15 0 dX7_rest_14 rfl rfl rfl ?_
    refine v_get hC 18 0 3 (C := RX7) (T := TX7) (N := 7) dX7_rest_15 rfl iX7 L0 rfl rfl (by decide) rfl ?_
    refine v_iload_n hC 19 1 dX7_rest_18 rfl rfl rfl ?_
    refine v_callVi hC 22 1 [1, 2, 3, 4, 5] [0] [oG ag al (ab 0) (ap 0) (ac 0) (ak 0) (aw 0) af] (As := [.int (iI x)]) (rest := []) (c_X1_sizeOfRest lx D cs ac nt rc src rw rh rmk x (by omega) (by omega)) dX7_rest_19 rfl rfl 1 rfl rfl gX7_rest_X1_sizeOfRest rfl rfl rfl (by decide +kernel) ⟨by decide, by decide⟩ rfl rfl rfl rfl (by decide) rfl (Nat.le_of_ble_eq_true rfl) ⟨rfl, rfl⟩ ⟨by decide, by decide⟩ (fun z19 u19 h19 => ?_)
    (try dsimp only at h19)
    obtain ⟨h19_1, h19_2⟩ := h19
    show V p9 lx e9 ({ frames := 3, cells := 0, slots := 0, locals := 66 }) s9 m9 ar9 be9 me9 c9 Q9 D A9 s9.heap 2 0 0 [oG ag al (ab 0) (ap 0) (ac 0) (ak 0) (aw 0) af, oC ac nt rc, aC (cs 0) (ac 1) 96 src, aC (cs 0) (ac 2) 96 rw, aC (cs 0) (ac 3) 96 rh, aC (cs 0) (ac 4) 96 rmk] [(0, .ref ag), (1, .int (iI x))] 22 [.int (iI z19)]
    exact v_iret hC hQ () [0, 1, 2, 3, 4, 5] dX7_rest_22 rfl rfl ⟨by decide, by decide⟩ ⟨by (try dsimp only); all_goals (exact h19_1), by (try dsimp only); all_goals (exact h19_2)⟩
  · exfalso; omega

set_option maxHeartbeats 4000000 in
set_option maxRecDepth 100000 in
theorem t_X7_rest_1 (lx : Launch) (hfl : lx.stackTraces = false) (D : va_G) (cs : Nat → ClassId) (ag : Nat) (ac : Nat → Nat) (nt : Int) (rc : Int) (src : Int → Int) (rw : Int → Int) (rh : Int → Int) (rmk : Int → Int) (al : Nat) (ab : Nat → Nat) (ap : Nat → Nat) (ak : Nat → Nat) (aw : Nat → Nat) (af : Nat) (x : Int) (r1 : -2147483648 ≤ x ∧ x < 2147483648) (hno : x < 0) : Xt lx D cs yX7_rest wsX7_rest ({ frames := 6, cells := 1, slots := 6, locals := 96 }) [.ref ag, .int (iI x)] [oG ag al (ab 0) (ap 0) (ac 0) (ak 0) (aw 0) af, oC ac nt rc, aC (cs 0) (ac 1) 96 src, aC (cs 0) (ac 2) 96 rw, aC (cs 0) (ac 3) 96 rh, aC (cs 0) (ac 4) 96 rmk] IOE 1 6 := by
  refine Xt_of (cc := cX7_rest) (nL := 2) (ret := (some .int)) (lv0 := [(0, .ref ag), (1, .int (iI x))]) RX7 "rest" (by decide +kernel) rfl (Nat.le_of_ble_eq_true rfl) rfl (fun p9 e9 s9 m9 ar9 be9 me9 c9 A9 Q9 hQ hC hT htab => ?_)
  have L0 : Cond.classLink RX7 97 IOE ∈ wsX7_rest := by decide +kernel
  have L1 : Cond.initialized IOE ∈ wsX7_rest := by decide +kernel
  refine v_iload_n hC 1 1 dX7_rest_0 rfl rfl rfl ?_
  refine v_if_ge hC 14 4 dX7_rest_1 (by decide) rfl (by omega) (fun c_1 => ?_) (fun c_1 => ?_)
  · skip
    exfalso; omega
  · skip
    exact v_throw (ik := 97) (is := 152) (ic := 101) (E := IOE) (text := "no place below 0") hC hfl hT htab hQ dX7_rest_4 dX7_rest_7 dX7_rest_8 dX7_rest_10 dX7_rest_13 thr_fitIOE L0 L1 (by decide +kernel) (by decide +kernel) thr_a101 thr_g97_101 [0, 1, 2, 3, 4, 5] rfl ⟨by decide, Nat.le_of_ble_eq_true rfl, by decide, by decide⟩ ⟨by decide, by decide⟩

set_option maxHeartbeats 4000000 in
set_option maxRecDepth 100000 in
theorem c_X7_crate (lx : Launch) (D : va_G) (cs : Nat → ClassId) (ag : Nat) (ak : Nat → Nat) (kc : Int) (km : Int) (kf : Int → Int) (kt : Int → Int) (al : Nat) (ab : Nat → Nat) (ap : Nat → Nat) (ac : Nat → Nat) (aw : Nat → Nat) (af : Nat) (x : Int) (y : Int) (r1 : -2147483648 ≤ x ∧ x < 2147483648) (r2 : -2147483648 ≤ y ∧ y < 2147483648) (hk : 0 ≤ kc ∧ kc ≤ 20) (hok : ((0 ≤ x ∧ x ≤ 9) ∧ 1 ≤ y ∧ y ≤ 100)) (hfull : kc < 20) : Ci lx D cs yX7_crate wsX7_crate ({ frames := 3, cells := 0, slots := 0, locals := 66 }) [.ref ag, .int (iI x), .int (iI y)] [oG ag al (ab 0) (ap 0) (ac 0) (ak 0) (aw 0) af, oK ak kc km, aC (cs 0) (ak 1) 20 kf, aC (cs 0) (ak 2) 20 kt] (fun (z : Int) (u : Unit) => (z = kc + 1)) (fun u : Unit => [oG ag al (ab 0) (ap 0) (ac 0) (ak 0) (aw 0) af, oK ak (kc + 1) km, aC (cs 0) (ak 1) 20 (uI kf kc x), aC (cs 0) (ak 2) 20 (uI kt kc y)]) 0 0 := by
  refine Ci_of (cc := cX7_crate) (nL := 3) (ret := (some .int)) (lv0 := [(0, .ref ag), (1, .int (iI x)), (2, .int (iI y))]) RX7 "crate" (by decide +kernel) rfl (Nat.le_of_ble_eq_true rfl) rfl (fun p9 e9 s9 m9 ar9 be9 me9 c9 A9 Q9 hQ hC => ?_)
  have iX7 : ∀ w ∈ wsX70, w ∈ wsX7_crate := by decide +kernel
  have iX5 : ∀ w ∈ wsX50, w ∈ wsX7_crate := by decide +kernel
  have L0 : Cond.fieldLink RX7 40 "Groutline" "stack" "LGroutline$Stack;" ∈ wsX7_crate := by decide +kernel
  have L1 : Cond.fieldLink RX7 174 "Groutline$Stack" "count" "I" ∈ wsX7_crate := by decide +kernel
  refine v_iload_n hC 1 1 dX7_crate_0 rfl rfl rfl ?_
  refine v_callSi hC 4 1 [] [0, 1, 2, 3] [oG ag al (ab 0) (ap 0) (ac 0) (ak 0) (aw 0) af, oK ak kc km, aC (cs 0) (ak 1) 20 kf, aC (cs 0) (ak 2) 20 kt] (As := [.int (iI x)]) (rest := []) (c_X7_isFloor lx D cs x (by omega)) dX7_crate_1 rfl rfl gX7_crate_X7_isFloor rfl rfl rfl (by decide +kernel) ⟨by decide, by decide⟩ rfl rfl rfl rfl (by decide) rfl (Nat.le_of_ble_eq_true rfl) ⟨rfl, rfl⟩ ⟨by decide, by decide⟩ (fun z1 u1 h1 => ?_)
  (try dsimp only at h1)
  obtain ⟨h1_1, h1_2⟩ := h1
  show V p9 lx e9 ({ frames := 3, cells := 0, slots := 0, locals := 66 }) s9 m9 ar9 be9 me9 c9 Q9 D A9 s9.heap 3 0 0 [oG ag al (ab 0) (ap 0) (ac 0) (ak 0) (aw 0) af, oK ak kc km, aC (cs 0) (ak 1) 20 kf, aC (cs 0) (ak 2) 20 kt] [(0, .ref ag), (1, .int (iI x)), (2, .int (iI y))] 4 [.int (iI z1)]
  refine v_if_ne hC 17 7 dX7_crate_4 (by decide) rfl (by omega) (fun c_4 => ?_) (fun c_4 => ?_)
  · skip
    refine v_iload_n hC 18 2 dX7_crate_17 rfl rfl rfl ?_
    refine v_iconst hC 19 dX7_crate_18 rfl ?_
    refine v_bipush hC 21 dX7_crate_19 rfl rfl ?_
    refine v_callSi hC 24 3 [] [0, 1, 2, 3] [oG ag al (ab 0) (ap 0) (ac 0) (ak 0) (aw 0) af, oK ak kc km, aC (cs 0) (ak 1) 20 kf, aC (cs 0) (ak 2) 20 kt] (As := [.int (iI y), .int (iI 1), .int (iI 100)]) (rest := []) (c_X7_isWithin lx D cs y 1 100 (by omega) (by omega) (by omega)) dX7_crate_21 rfl rfl gX7_crate_X7_isWithin rfl rfl rfl (by decide +kernel) ⟨by decide, by decide⟩ rfl rfl rfl rfl (by decide) rfl (Nat.le_of_ble_eq_true rfl) ⟨rfl, rfl⟩ ⟨by decide, by decide⟩ (fun z21 u21 h21 => ?_)
    (try dsimp only at h21)
    obtain ⟨h21_1, h21_2⟩ := h21
    show V p9 lx e9 ({ frames := 3, cells := 0, slots := 0, locals := 66 }) s9 m9 ar9 be9 me9 c9 Q9 D A9 s9.heap 3 0 0 [oG ag al (ab 0) (ap 0) (ac 0) (ak 0) (aw 0) af, oK ak kc km, aC (cs 0) (ak 1) 20 kf, aC (cs 0) (ak 2) 20 kt] [(0, .ref ag), (1, .int (iI x)), (2, .int (iI y))] 24 [.int (iI z21)]
    refine v_if_ne hC 37 27 dX7_crate_24 (by decide) rfl (by omega) (fun c_24 => ?_) (fun c_24 => ?_)
    · skip
      refine v_aload_n hC 38 0 dX7_crate_37 rfl rfl rfl ?_
      refine v_get hC 41 0 4 (C := RX7) (T := TX7) (N := 7) dX7_crate_38 rfl iX7 L0 rfl rfl (by decide) rfl ?_
      refine v_callVi hC 44 0 [1, 2, 3] [0] [oG ag al (ab 0) (ap 0) (ac 0) (ak 0) (aw 0) af] (As := []) (rest := []) (c_X5_isFull lx D cs ak kc km kf kt (by omega)) dX7_crate_41 rfl rfl 1 rfl rfl gX7_crate_X5_isFull rfl rfl rfl (by decide +kernel) ⟨by decide, by decide⟩ rfl rfl rfl rfl (by decide) rfl (Nat.le_of_ble_eq_true rfl) ⟨rfl, rfl⟩ ⟨by decide, by decide⟩ (fun z41 u41 h41 => ?_)
      (try dsimp only at h41)
      obtain ⟨h41_1, h41_2⟩ := h41
      show V p9 lx e9 ({ frames := 3, cells := 0, slots := 0, locals := 66 }) s9 m9 ar9 be9 me9 c9 Q9 D A9 s9.heap 3 0 0 [oG ag al (ab 0) (ap 0) (ac 0) (ak 0) (aw 0) af, oK ak kc km, aC (cs 0) (ak 1) 20 kf, aC (cs 0) (ak 2) 20 kt] [(0, .ref ag), (1, .int (iI x)), (2, .int (iI y))] 44 [.int (iI z41)]
      refine v_if_eq hC 57 47 dX7_crate_44 (by decide) rfl (by omega) (fun c_44 => ?_) (fun c_44 => ?_)
      · skip
        refine v_aload_n hC 58 0 dX7_crate_57 rfl rfl rfl ?_
        refine v_get hC 61 0 4 (C := RX7) (T := TX7) (N := 7) dX7_crate_58 rfl iX7 L0 rfl rfl (by decide) rfl ?_
        refine v_iload_n hC 62 1 dX7_crate_61 rfl rfl rfl ?_
        refine v_iload_n hC 63 2 dX7_crate_62 rfl rfl rfl ?_
        refine v_callVv hC 66 2 [1, 2, 3] [0] [oG ag al (ab 0) (ap 0) (ac 0) (ak 0) (aw 0) af] (As := [.int (iI x), .int (iI y)]) (rest := []) (c_X5_put lx D cs ak kc km kf kt x y (by omega)) dX7_crate_63 rfl rfl 1 rfl rfl gX7_crate_X5_put rfl rfl rfl (by decide +kernel) ⟨by decide, by decide⟩ rfl rfl rfl rfl (by decide) rfl (Nat.le_of_ble_eq_true rfl) ⟨rfl, rfl⟩ ⟨by decide, by decide⟩ (fun u63 h63 => ?_)
        (try dsimp only at h63)
        show V p9 lx e9 ({ frames := 3, cells := 0, slots := 0, locals := 66 }) s9 m9 ar9 be9 me9 c9 Q9 D A9 s9.heap 3 0 0 [oG ag al (ab 0) (ap 0) (ac 0) (ak 0) (aw 0) af, oK ak (kc + 1) km, aC (cs 0) (ak 1) 20 (uI kf kc x), aC (cs 0) (ak 2) 20 (uI kt kc y)] [(0, .ref ag), (1, .int (iI x)), (2, .int (iI y))] 66 []
        refine v_aload_n hC 67 0 dX7_crate_66 rfl rfl rfl ?_
        refine v_get hC 70 0 4 (C := RX7) (T := TX7) (N := 7) dX7_crate_67 rfl iX7 L0 rfl rfl (by decide) rfl ?_
        refine v_get hC 73 1 0 (C := RX5) (T := TX5) (N := 4) dX7_crate_70 rfl iX5 L1 rfl rfl (by decide) rfl ?_
        exact v_iret hC hQ () [0, 1, 2, 3] dX7_crate_73 rfl rfl ⟨by decide, by decide⟩ (by (try dsimp only); all_goals (first | rfl | omega))
      · exfalso; omega
    · exfalso; omega
  · exfalso; omega

set_option maxHeartbeats 4000000 in
set_option maxRecDepth 100000 in
theorem t_X7_crate_1 (lx : Launch) (hfl : lx.stackTraces = false) (D : va_G) (cs : Nat → ClassId) (ag : Nat) (ak : Nat → Nat) (kc : Int) (km : Int) (kf : Int → Int) (kt : Int → Int) (al : Nat) (ab : Nat → Nat) (ap : Nat → Nat) (ac : Nat → Nat) (aw : Nat → Nat) (af : Nat) (x : Int) (y : Int) (r1 : -2147483648 ≤ x ∧ x < 2147483648) (r2 : -2147483648 ≤ y ∧ y < 2147483648) (hk : 0 ≤ kc ∧ kc ≤ 20) (hno : ¬ ((0 ≤ x ∧ x ≤ 9) ∧ 1 ≤ y ∧ y ≤ 100)) : Xt lx D cs yX7_crate wsX7_crate ({ frames := 6, cells := 1, slots := 6, locals := 96 }) [.ref ag, .int (iI x), .int (iI y)] [oG ag al (ab 0) (ap 0) (ac 0) (ak 0) (aw 0) af, oK ak kc km, aC (cs 0) (ak 1) 20 kf, aC (cs 0) (ak 2) 20 kt] IAE 1 6 := by
  refine Xt_of (cc := cX7_crate) (nL := 3) (ret := (some .int)) (lv0 := [(0, .ref ag), (1, .int (iI x)), (2, .int (iI y))]) RX7 "crate" (by decide +kernel) rfl (Nat.le_of_ble_eq_true rfl) rfl (fun p9 e9 s9 m9 ar9 be9 me9 c9 A9 Q9 hQ hC hT htab => ?_)
  have L0 : Cond.classLink RX7 65 IAE ∈ wsX7_crate := by decide +kernel
  have L1 : Cond.initialized IAE ∈ wsX7_crate := by decide +kernel
  refine v_iload_n hC 1 1 dX7_crate_0 rfl rfl rfl ?_
  refine v_callSi hC 4 1 [] [0, 1, 2, 3] [oG ag al (ab 0) (ap 0) (ac 0) (ak 0) (aw 0) af, oK ak kc km, aC (cs 0) (ak 1) 20 kf, aC (cs 0) (ak 2) 20 kt] (As := [.int (iI x)]) (rest := []) (c_X7_isFloor lx D cs x (by omega)) dX7_crate_1 rfl rfl gX7_crate_X7_isFloor rfl rfl rfl (by decide +kernel) ⟨by decide, by decide⟩ rfl rfl rfl rfl (by decide) rfl (Nat.le_of_ble_eq_true rfl) ⟨rfl, rfl⟩ ⟨by decide, by decide⟩ (fun z1 u1 h1 => ?_)
  (try dsimp only at h1)
  obtain ⟨h1_1, h1_2⟩ := h1
  show V p9 lx e9 ({ frames := 6, cells := 1, slots := 6, locals := 96 }) s9 m9 ar9 be9 me9 c9 Q9 D A9 s9.heap 3 0 0 [oG ag al (ab 0) (ap 0) (ac 0) (ak 0) (aw 0) af, oK ak kc km, aC (cs 0) (ak 1) 20 kf, aC (cs 0) (ak 2) 20 kt] [(0, .ref ag), (1, .int (iI x)), (2, .int (iI y))] 4 [.int (iI z1)]
  refine v_if_ne hC 17 7 dX7_crate_4 (by decide) rfl (by omega) (fun c_4 => ?_) (fun c_4 => ?_)
  · skip
    refine v_iload_n hC 18 2 dX7_crate_17 rfl rfl rfl ?_
    refine v_iconst hC 19 dX7_crate_18 rfl ?_
    refine v_bipush hC 21 dX7_crate_19 rfl rfl ?_
    refine v_callSi hC 24 3 [] [0, 1, 2, 3] [oG ag al (ab 0) (ap 0) (ac 0) (ak 0) (aw 0) af, oK ak kc km, aC (cs 0) (ak 1) 20 kf, aC (cs 0) (ak 2) 20 kt] (As := [.int (iI y), .int (iI 1), .int (iI 100)]) (rest := []) (c_X7_isWithin lx D cs y 1 100 (by omega) (by omega) (by omega)) dX7_crate_21 rfl rfl gX7_crate_X7_isWithin rfl rfl rfl (by decide +kernel) ⟨by decide, by decide⟩ rfl rfl rfl rfl (by decide) rfl (Nat.le_of_ble_eq_true rfl) ⟨rfl, rfl⟩ ⟨by decide, by decide⟩ (fun z21 u21 h21 => ?_)
    (try dsimp only at h21)
    obtain ⟨h21_1, h21_2⟩ := h21
    show V p9 lx e9 ({ frames := 6, cells := 1, slots := 6, locals := 96 }) s9 m9 ar9 be9 me9 c9 Q9 D A9 s9.heap 3 0 0 [oG ag al (ab 0) (ap 0) (ac 0) (ak 0) (aw 0) af, oK ak kc km, aC (cs 0) (ak 1) 20 kf, aC (cs 0) (ak 2) 20 kt] [(0, .ref ag), (1, .int (iI x)), (2, .int (iI y))] 24 [.int (iI z21)]
    refine v_if_ne hC 37 27 dX7_crate_24 (by decide) rfl (by omega) (fun c_24 => ?_) (fun c_24 => ?_)
    · skip
      exfalso; omega
    · skip
      exact v_throw (ik := 65) (is := 162) (ic := 69) (E := IAE) (text := "a crate has 1 to 100 tiles") hC hfl hT htab hQ dX7_crate_27 dX7_crate_30 dX7_crate_31 dX7_crate_33 dX7_crate_36 thr_fitIAE L0 L1 (by decide +kernel) (by decide +kernel) thr_a69 thr_g65_69 [0, 1, 2, 3] rfl ⟨by decide, Nat.le_of_ble_eq_true rfl, by decide, by decide⟩ ⟨by decide, by decide⟩
  · skip
    exact v_throw (ik := 65) (is := 160) (ic := 69) (E := IAE) (text := "a floor is 0 to 9") hC hfl hT htab hQ dX7_crate_7 dX7_crate_10 dX7_crate_11 dX7_crate_13 dX7_crate_16 thr_fitIAE L0 L1 (by decide +kernel) (by decide +kernel) thr_a69 thr_g65_69 [0, 1, 2, 3] rfl ⟨by decide, Nat.le_of_ble_eq_true rfl, by decide, by decide⟩ ⟨by decide, by decide⟩

set_option maxHeartbeats 4000000 in
set_option maxRecDepth 100000 in
theorem t_X7_crate_2 (lx : Launch) (hfl : lx.stackTraces = false) (D : va_G) (cs : Nat → ClassId) (ag : Nat) (ak : Nat → Nat) (kc : Int) (km : Int) (kf : Int → Int) (kt : Int → Int) (al : Nat) (ab : Nat → Nat) (ap : Nat → Nat) (ac : Nat → Nat) (aw : Nat → Nat) (af : Nat) (x : Int) (y : Int) (r1 : -2147483648 ≤ x ∧ x < 2147483648) (r2 : -2147483648 ≤ y ∧ y < 2147483648) (hk : 0 ≤ kc ∧ kc ≤ 20) (hno : ((0 ≤ x ∧ x ≤ 9) ∧ 1 ≤ y ∧ y ≤ 100)) (hfull : kc = 20) : Xt lx D cs yX7_crate wsX7_crate ({ frames := 6, cells := 1, slots := 6, locals := 96 }) [.ref ag, .int (iI x), .int (iI y)] [oG ag al (ab 0) (ap 0) (ac 0) (ak 0) (aw 0) af, oK ak kc km, aC (cs 0) (ak 1) 20 kf, aC (cs 0) (ak 2) 20 kt] ISE 1 6 := by
  refine Xt_of (cc := cX7_crate) (nL := 3) (ret := (some .int)) (lv0 := [(0, .ref ag), (1, .int (iI x)), (2, .int (iI y))]) RX7 "crate" (by decide +kernel) rfl (Nat.le_of_ble_eq_true rfl) rfl (fun p9 e9 s9 m9 ar9 be9 me9 c9 A9 Q9 hQ hC hT htab => ?_)
  have iX7 : ∀ w ∈ wsX70, w ∈ wsX7_crate := by decide +kernel
  have L0 : Cond.fieldLink RX7 40 "Groutline" "stack" "LGroutline$Stack;" ∈ wsX7_crate := by decide +kernel
  have L1 : Cond.classLink RX7 80 ISE ∈ wsX7_crate := by decide +kernel
  have L2 : Cond.initialized ISE ∈ wsX7_crate := by decide +kernel
  refine v_iload_n hC 1 1 dX7_crate_0 rfl rfl rfl ?_
  refine v_callSi hC 4 1 [] [0, 1, 2, 3] [oG ag al (ab 0) (ap 0) (ac 0) (ak 0) (aw 0) af, oK ak kc km, aC (cs 0) (ak 1) 20 kf, aC (cs 0) (ak 2) 20 kt] (As := [.int (iI x)]) (rest := []) (c_X7_isFloor lx D cs x (by omega)) dX7_crate_1 rfl rfl gX7_crate_X7_isFloor rfl rfl rfl (by decide +kernel) ⟨by decide, by decide⟩ rfl rfl rfl rfl (by decide) rfl (Nat.le_of_ble_eq_true rfl) ⟨rfl, rfl⟩ ⟨by decide, by decide⟩ (fun z1 u1 h1 => ?_)
  (try dsimp only at h1)
  obtain ⟨h1_1, h1_2⟩ := h1
  show V p9 lx e9 ({ frames := 6, cells := 1, slots := 6, locals := 96 }) s9 m9 ar9 be9 me9 c9 Q9 D A9 s9.heap 3 0 0 [oG ag al (ab 0) (ap 0) (ac 0) (ak 0) (aw 0) af, oK ak kc km, aC (cs 0) (ak 1) 20 kf, aC (cs 0) (ak 2) 20 kt] [(0, .ref ag), (1, .int (iI x)), (2, .int (iI y))] 4 [.int (iI z1)]
  refine v_if_ne hC 17 7 dX7_crate_4 (by decide) rfl (by omega) (fun c_4 => ?_) (fun c_4 => ?_)
  · skip
    refine v_iload_n hC 18 2 dX7_crate_17 rfl rfl rfl ?_
    refine v_iconst hC 19 dX7_crate_18 rfl ?_
    refine v_bipush hC 21 dX7_crate_19 rfl rfl ?_
    refine v_callSi hC 24 3 [] [0, 1, 2, 3] [oG ag al (ab 0) (ap 0) (ac 0) (ak 0) (aw 0) af, oK ak kc km, aC (cs 0) (ak 1) 20 kf, aC (cs 0) (ak 2) 20 kt] (As := [.int (iI y), .int (iI 1), .int (iI 100)]) (rest := []) (c_X7_isWithin lx D cs y 1 100 (by omega) (by omega) (by omega)) dX7_crate_21 rfl rfl gX7_crate_X7_isWithin rfl rfl rfl (by decide +kernel) ⟨by decide, by decide⟩ rfl rfl rfl rfl (by decide) rfl (Nat.le_of_ble_eq_true rfl) ⟨rfl, rfl⟩ ⟨by decide, by decide⟩ (fun z21 u21 h21 => ?_)
    (try dsimp only at h21)
    obtain ⟨h21_1, h21_2⟩ := h21
    show V p9 lx e9 ({ frames := 6, cells := 1, slots := 6, locals := 96 }) s9 m9 ar9 be9 me9 c9 Q9 D A9 s9.heap 3 0 0 [oG ag al (ab 0) (ap 0) (ac 0) (ak 0) (aw 0) af, oK ak kc km, aC (cs 0) (ak 1) 20 kf, aC (cs 0) (ak 2) 20 kt] [(0, .ref ag), (1, .int (iI x)), (2, .int (iI y))] 24 [.int (iI z21)]
    refine v_if_ne hC 37 27 dX7_crate_24 (by decide) rfl (by omega) (fun c_24 => ?_) (fun c_24 => ?_)
    · skip
      refine v_aload_n hC 38 0 dX7_crate_37 rfl rfl rfl ?_
      refine v_get hC 41 0 4 (C := RX7) (T := TX7) (N := 7) dX7_crate_38 rfl iX7 L0 rfl rfl (by decide) rfl ?_
      refine v_callVi hC 44 0 [1, 2, 3] [0] [oG ag al (ab 0) (ap 0) (ac 0) (ak 0) (aw 0) af] (As := []) (rest := []) (c_X5_isFull lx D cs ak kc km kf kt (by omega)) dX7_crate_41 rfl rfl 1 rfl rfl gX7_crate_X5_isFull rfl rfl rfl (by decide +kernel) ⟨by decide, by decide⟩ rfl rfl rfl rfl (by decide) rfl (Nat.le_of_ble_eq_true rfl) ⟨rfl, rfl⟩ ⟨by decide, by decide⟩ (fun z41 u41 h41 => ?_)
      (try dsimp only at h41)
      obtain ⟨h41_1, h41_2⟩ := h41
      show V p9 lx e9 ({ frames := 6, cells := 1, slots := 6, locals := 96 }) s9 m9 ar9 be9 me9 c9 Q9 D A9 s9.heap 3 0 0 [oG ag al (ab 0) (ap 0) (ac 0) (ak 0) (aw 0) af, oK ak kc km, aC (cs 0) (ak 1) 20 kf, aC (cs 0) (ak 2) 20 kt] [(0, .ref ag), (1, .int (iI x)), (2, .int (iI y))] 44 [.int (iI z41)]
      refine v_if_eq hC 57 47 dX7_crate_44 (by decide) rfl (by omega) (fun c_44 => ?_) (fun c_44 => ?_)
      · skip
        exfalso; omega
      · skip
        exact v_throw (ik := 80) (is := 168) (ic := 84) (E := ISE) (text := "there are 20 crates") hC hfl hT htab hQ dX7_crate_47 dX7_crate_50 dX7_crate_51 dX7_crate_53 dX7_crate_56 thr_fitISE L1 L2 (by decide +kernel) (by decide +kernel) thr_a84 thr_g80_84 [0, 1, 2, 3] rfl ⟨by decide, Nat.le_of_ble_eq_true rfl, by decide, by decide⟩ ⟨by decide, by decide⟩
    · skip
      exfalso; omega
  · skip
    exfalso; omega

set_option maxHeartbeats 4000000 in
set_option maxRecDepth 100000 in
theorem c_X7_fetch (lx : Launch) (D : va_G) (cs : Nat → ClassId) (ag : Nat) (ak : Nat → Nat) (kc : Int) (km : Int) (kf : Int → Int) (kt : Int → Int) (al : Nat) (ab : Nat → Nat) (ap : Nat → Nat) (ac : Nat → Nat) (aw : Nat → Nat) (af : Nat) (x : Int) (r1 : -2147483648 ≤ x ∧ x < 2147483648) (hok : 0 ≤ x ∧ x ≤ 9) (hk : 0 ≤ kc ∧ kc ≤ 20) (hkf : Rn kf 0 9) : Ci lx D cs yX7_fetch wsX7_fetch ({ frames := 4, cells := 0, slots := 0, locals := 90 }) [.ref ag, .int (iI x)] [oG ag al (ab 0) (ap 0) (ac 0) (ak 0) (aw 0) af, oK ak kc km, aC (cs 0) (ak 1) 20 kf, aC (cs 0) (ak 2) 20 kt] (fun (z : Int) (u : (Int → Int) × (Int → Int) × Int × Int) => (tp kf x kc.toNat < 0 → z = -1 ∧ u.1 = kf ∧ u.2.1 = kt ∧ u.2.2.1 = km ∧ u.2.2.2 = kc) ∧ (0 ≤ tp kf x kc.toNat → z = kt (tp kf x kc.toNat) ∧ u.1 = sh kf (tp kf x kc.toNat) kc ∧ u.2.1 = sh kt (tp kf x kc.toNat) kc ∧ u.2.2.1 = km + 2 * (kc - 1 - tp kf x kc.toNat) ∧ u.2.2.2 = kc - 1)) (fun u : (Int → Int) × (Int → Int) × Int × Int => [oG ag al (ab 0) (ap 0) (ac 0) (ak 0) (aw 0) af, oK ak u.2.2.2 u.2.2.1, aC (cs 0) (ak 1) 20 u.1, aC (cs 0) (ak 2) 20 u.2.1]) 0 0 := by
  refine Ci_of (cc := cX7_fetch) (nL := 2) (ret := (some .int)) (lv0 := [(0, .ref ag), (1, .int (iI x))]) RX7 "fetch" (by decide +kernel) rfl (Nat.le_of_ble_eq_true rfl) rfl (fun p9 e9 s9 m9 ar9 be9 me9 c9 A9 Q9 hQ hC => ?_)
  have iX7 : ∀ w ∈ wsX70, w ∈ wsX7_fetch := by decide +kernel
  have L0 : Cond.fieldLink RX7 40 "Groutline" "stack" "LGroutline$Stack;" ∈ wsX7_fetch := by decide +kernel
  refine v_iload_n hC 1 1 dX7_fetch_0 rfl rfl rfl ?_
  refine v_callSi hC 4 1 [] [0, 1, 2, 3] [oG ag al (ab 0) (ap 0) (ac 0) (ak 0) (aw 0) af, oK ak kc km, aC (cs 0) (ak 1) 20 kf, aC (cs 0) (ak 2) 20 kt] (As := [.int (iI x)]) (rest := []) (c_X7_isFloor lx D cs x (by omega)) dX7_fetch_1 rfl rfl gX7_fetch_X7_isFloor rfl rfl rfl (by decide +kernel) ⟨by decide, by decide⟩ rfl rfl rfl rfl (by decide) rfl (Nat.le_of_ble_eq_true rfl) ⟨rfl, rfl⟩ ⟨by decide, by decide⟩ (fun z1 u1 h1 => ?_)
  (try dsimp only at h1)
  obtain ⟨h1_1, h1_2⟩ := h1
  show V p9 lx e9 ({ frames := 4, cells := 0, slots := 0, locals := 90 }) s9 m9 ar9 be9 me9 c9 Q9 D A9 s9.heap 2 0 0 [oG ag al (ab 0) (ap 0) (ac 0) (ak 0) (aw 0) af, oK ak kc km, aC (cs 0) (ak 1) 20 kf, aC (cs 0) (ak 2) 20 kt] [(0, .ref ag), (1, .int (iI x))] 4 [.int (iI z1)]
  refine v_if_ne hC 17 7 dX7_fetch_4 (by decide) rfl (by omega) (fun c_4 => ?_) (fun c_4 => ?_)
  · skip
    refine v_aload_n hC 18 0 dX7_fetch_17 rfl rfl rfl ?_
    refine v_get hC 21 0 4 (C := RX7) (T := TX7) (N := 7) dX7_fetch_18 rfl iX7 L0 rfl rfl (by decide) rfl ?_
    refine v_iload_n hC 22 1 dX7_fetch_21 rfl rfl rfl ?_
    refine v_callVi hC 25 1 [1, 2, 3] [0] [oG ag al (ab 0) (ap 0) (ac 0) (ak 0) (aw 0) af] (As := [.int (iI x)]) (rest := []) (c_X5_takeTopmostFor lx D cs ak kc km kf kt x (by omega) (by omega) (by assumption)) dX7_fetch_22 rfl rfl 1 rfl rfl gX7_fetch_X5_takeTopmostFor rfl rfl rfl (by decide +kernel) ⟨by decide, by decide⟩ rfl rfl rfl rfl (by decide) rfl (Nat.le_of_ble_eq_true rfl) ⟨rfl, rfl⟩ ⟨by decide, by decide⟩ (fun z22 u22 h22 => ?_)
    obtain ⟨kf1_22, kt1_22, km1_22, kc1_22⟩ := u22
    (try dsimp only at h22)
    obtain ⟨h22_1, h22_2⟩ := h22
    show V p9 lx e9 ({ frames := 4, cells := 0, slots := 0, locals := 90 }) s9 m9 ar9 be9 me9 c9 Q9 D A9 s9.heap 2 0 0 [oG ag al (ab 0) (ap 0) (ac 0) (ak 0) (aw 0) af, oK ak kc1_22 km1_22, aC (cs 0) (ak 1) 20 kf1_22, aC (cs 0) (ak 2) 20 kt1_22] [(0, .ref ag), (1, .int (iI x))] 25 [.int (iI z22)]
    exact v_iret hC hQ (kf1_22, kt1_22, km1_22, kc1_22) [0, 1, 2, 3] dX7_fetch_25 rfl rfl ⟨by decide, by decide⟩ ⟨by (try dsimp only); all_goals (exact h22_1), by (try dsimp only); all_goals (exact h22_2)⟩
  · exfalso; omega

set_option maxHeartbeats 4000000 in
set_option maxRecDepth 100000 in
theorem t_X7_fetch_1 (lx : Launch) (hfl : lx.stackTraces = false) (D : va_G) (cs : Nat → ClassId) (ag : Nat) (ak : Nat → Nat) (kc : Int) (km : Int) (kf : Int → Int) (kt : Int → Int) (al : Nat) (ab : Nat → Nat) (ap : Nat → Nat) (ac : Nat → Nat) (aw : Nat → Nat) (af : Nat) (x : Int) (r1 : -2147483648 ≤ x ∧ x < 2147483648) (hno : ¬ (0 ≤ x ∧ x ≤ 9)) : Xt lx D cs yX7_fetch wsX7_fetch ({ frames := 6, cells := 1, slots := 6, locals := 96 }) [.ref ag, .int (iI x)] [oG ag al (ab 0) (ap 0) (ac 0) (ak 0) (aw 0) af, oK ak kc km, aC (cs 0) (ak 1) 20 kf, aC (cs 0) (ak 2) 20 kt] IAE 1 6 := by
  refine Xt_of (cc := cX7_fetch) (nL := 2) (ret := (some .int)) (lv0 := [(0, .ref ag), (1, .int (iI x))]) RX7 "fetch" (by decide +kernel) rfl (Nat.le_of_ble_eq_true rfl) rfl (fun p9 e9 s9 m9 ar9 be9 me9 c9 A9 Q9 hQ hC hT htab => ?_)
  have L0 : Cond.classLink RX7 65 IAE ∈ wsX7_fetch := by decide +kernel
  have L1 : Cond.initialized IAE ∈ wsX7_fetch := by decide +kernel
  refine v_iload_n hC 1 1 dX7_fetch_0 rfl rfl rfl ?_
  refine v_callSi hC 4 1 [] [0, 1, 2, 3] [oG ag al (ab 0) (ap 0) (ac 0) (ak 0) (aw 0) af, oK ak kc km, aC (cs 0) (ak 1) 20 kf, aC (cs 0) (ak 2) 20 kt] (As := [.int (iI x)]) (rest := []) (c_X7_isFloor lx D cs x (by omega)) dX7_fetch_1 rfl rfl gX7_fetch_X7_isFloor rfl rfl rfl (by decide +kernel) ⟨by decide, by decide⟩ rfl rfl rfl rfl (by decide) rfl (Nat.le_of_ble_eq_true rfl) ⟨rfl, rfl⟩ ⟨by decide, by decide⟩ (fun z1 u1 h1 => ?_)
  (try dsimp only at h1)
  obtain ⟨h1_1, h1_2⟩ := h1
  show V p9 lx e9 ({ frames := 6, cells := 1, slots := 6, locals := 96 }) s9 m9 ar9 be9 me9 c9 Q9 D A9 s9.heap 2 0 0 [oG ag al (ab 0) (ap 0) (ac 0) (ak 0) (aw 0) af, oK ak kc km, aC (cs 0) (ak 1) 20 kf, aC (cs 0) (ak 2) 20 kt] [(0, .ref ag), (1, .int (iI x))] 4 [.int (iI z1)]
  refine v_if_ne hC 17 7 dX7_fetch_4 (by decide) rfl (by omega) (fun c_4 => ?_) (fun c_4 => ?_)
  · skip
    exfalso; omega
  · skip
    exact v_throw (ik := 65) (is := 160) (ic := 69) (E := IAE) (text := "a floor is 0 to 9") hC hfl hT htab hQ dX7_fetch_7 dX7_fetch_10 dX7_fetch_11 dX7_fetch_13 dX7_fetch_16 thr_fitIAE L0 L1 (by decide +kernel) (by decide +kernel) thr_a69 thr_g65_69 [0, 1, 2, 3] rfl ⟨by decide, Nat.le_of_ble_eq_true rfl, by decide, by decide⟩ ⟨by decide, by decide⟩

set_option maxHeartbeats 4000000 in
set_option maxRecDepth 100000 in
theorem c_X7_grout (lx : Launch) (D : va_G) (cs : Nat → ClassId) (ag : Nat) (aw : Nat → Nat) (hour : Int) (grt : Int) (beg : Int) (laid : Int → Int) (dryh : Int → Int) (al : Nat) (ab : Nat → Nat) (ap : Nat → Nat) (ac : Nat → Nat) (ak : Nat → Nat) (af : Nat) (x : Int) (r1 : -2147483648 ≤ x ∧ x < 2147483648) (hok : 0 ≤ x ∧ x ≤ 48) : Ci lx D cs yX7_grout wsX7_grout ({ frames := 2, cells := 0, slots := 0, locals := 46 }) [.ref ag, .int (iI x)] [oG ag al (ab 0) (ap 0) (ac 0) (ak 0) (aw 0) af, oW aw hour grt beg, aC (cs 1) (aw 1) 8 laid, aC (cs 0) (aw 2) 8 dryh] (fun (z : Int) (u : Unit) => (z = grt)) (fun u : Unit => [oG ag al (ab 0) (ap 0) (ac 0) (ak 0) (aw 0) af, oW aw hour x beg, aC (cs 1) (aw 1) 8 laid, aC (cs 0) (aw 2) 8 dryh]) 0 0 := by
  refine Ci_of (cc := cX7_grout) (nL := 3) (ret := (some .int)) (lv0 := [(0, .ref ag), (1, .int (iI x))]) RX7 "grout" (by decide +kernel) rfl (Nat.le_of_ble_eq_true rfl) rfl (fun p9 e9 s9 m9 ar9 be9 me9 c9 A9 Q9 hQ hC => ?_)
  have iX7 : ∀ w ∈ wsX70, w ∈ wsX7_grout := by decide +kernel
  have iX6 : ∀ w ∈ wsX60, w ∈ wsX7_grout := by decide +kernel
  have L0 : Cond.fieldLink RX7 47 "Groutline" "work" "LGroutline$Work;" ∈ wsX7_grout := by decide +kernel
  have L1 : Cond.fieldLink RX7 183 "Groutline$Work" "groutHours" "I" ∈ wsX7_grout := by decide +kernel
  refine v_iload_n hC 1 1 dX7_grout_0 rfl rfl rfl ?_
  refine v_iconst hC 2 dX7_grout_1 rfl ?_
  refine v_bipush hC 4 dX7_grout_2 rfl rfl ?_
  refine v_callSi hC 7 3 [] [0, 1, 2, 3] [oG ag al (ab 0) (ap 0) (ac 0) (ak 0) (aw 0) af, oW aw hour grt beg, aC (cs 1) (aw 1) 8 laid, aC (cs 0) (aw 2) 8 dryh] (As := [.int (iI x), .int (iI 0), .int (iI 48)]) (rest := []) (c_X7_isWithin lx D cs x 0 48 (by omega) (by omega) (by omega)) dX7_grout_4 rfl rfl gX7_grout_X7_isWithin rfl rfl rfl (by decide +kernel) ⟨by decide, by decide⟩ rfl rfl rfl rfl (by decide) rfl (Nat.le_of_ble_eq_true rfl) ⟨rfl, rfl⟩ ⟨by decide, by decide⟩ (fun z4 u4 h4 => ?_)
  (try dsimp only at h4)
  obtain ⟨h4_1, h4_2⟩ := h4
  show V p9 lx e9 ({ frames := 2, cells := 0, slots := 0, locals := 46 }) s9 m9 ar9 be9 me9 c9 Q9 D A9 s9.heap 3 0 0 [oG ag al (ab 0) (ap 0) (ac 0) (ak 0) (aw 0) af, oW aw hour grt beg, aC (cs 1) (aw 1) 8 laid, aC (cs 0) (aw 2) 8 dryh] [(0, .ref ag), (1, .int (iI x))] 7 [.int (iI z4)]
  refine v_if_ne hC 20 10 dX7_grout_7 (by decide) rfl (by omega) (fun c_7 => ?_) (fun c_7 => ?_)
  · skip
    refine v_aload_n hC 21 0 dX7_grout_20 rfl rfl rfl ?_
    refine v_get hC 24 0 5 (C := RX7) (T := TX7) (N := 7) dX7_grout_21 rfl iX7 L0 rfl rfl (by decide) rfl ?_
    refine v_get hC 27 1 1 (C := RX6) (T := TX6) (N := 5) dX7_grout_24 rfl iX6 L1 rfl rfl (by decide) rfl ?_
    refine v_istore_n hC 28 [(2, .int (iI grt)), (0, .ref ag), (1, .int (iI x))] dX7_grout_27 rfl rfl (by decide) rfl ?_
    refine v_aload_n hC 29 1 dX7_grout_28 rfl rfl rfl ?_
    refine v_get hC 32 0 5 (C := RX7) (T := TX7) (N := 7) dX7_grout_29 rfl iX7 L0 rfl rfl (by decide) rfl ?_
    refine v_iload_n hC 33 2 dX7_grout_32 rfl rfl rfl ?_
    refine v_put hC 36 1 1 [oG ag al (ab 0) (ap 0) (ac 0) (ak 0) (aw 0) af, oW aw hour x beg, aC (cs 1) (aw 1) 8 laid, aC (cs 0) (aw 2) 8 dryh] (C := RX6) (T := TX6) (N := 5) dX7_grout_33 rfl iX6 tyX6_ok nmX6 L1 rfl rfl (by decide) rfl rfl rfl (Nat.le_of_ble_eq_true rfl) rfl ?_
    refine v_iload_n hC 37 0 dX7_grout_36 rfl rfl rfl ?_
    exact v_iret hC hQ () [0, 1, 2, 3] dX7_grout_37 rfl rfl ⟨by decide, by decide⟩ (by (try dsimp only); all_goals (first | rfl | omega))
  · exfalso; omega

set_option maxHeartbeats 4000000 in
set_option maxRecDepth 100000 in
theorem t_X7_grout_1 (lx : Launch) (hfl : lx.stackTraces = false) (D : va_G) (cs : Nat → ClassId) (ag : Nat) (aw : Nat → Nat) (hour : Int) (grt : Int) (beg : Int) (laid : Int → Int) (dryh : Int → Int) (al : Nat) (ab : Nat → Nat) (ap : Nat → Nat) (ac : Nat → Nat) (ak : Nat → Nat) (af : Nat) (x : Int) (r1 : -2147483648 ≤ x ∧ x < 2147483648) (hno : ¬ (0 ≤ x ∧ x ≤ 48)) : Xt lx D cs yX7_grout wsX7_grout ({ frames := 6, cells := 1, slots := 6, locals := 96 }) [.ref ag, .int (iI x)] [oG ag al (ab 0) (ap 0) (ac 0) (ak 0) (aw 0) af, oW aw hour grt beg, aC (cs 1) (aw 1) 8 laid, aC (cs 0) (aw 2) 8 dryh] IAE 1 6 := by
  refine Xt_of (cc := cX7_grout) (nL := 3) (ret := (some .int)) (lv0 := [(0, .ref ag), (1, .int (iI x))]) RX7 "grout" (by decide +kernel) rfl (Nat.le_of_ble_eq_true rfl) rfl (fun p9 e9 s9 m9 ar9 be9 me9 c9 A9 Q9 hQ hC hT htab => ?_)
  have L0 : Cond.classLink RX7 65 IAE ∈ wsX7_grout := by decide +kernel
  have L1 : Cond.initialized IAE ∈ wsX7_grout := by decide +kernel
  refine v_iload_n hC 1 1 dX7_grout_0 rfl rfl rfl ?_
  refine v_iconst hC 2 dX7_grout_1 rfl ?_
  refine v_bipush hC 4 dX7_grout_2 rfl rfl ?_
  refine v_callSi hC 7 3 [] [0, 1, 2, 3] [oG ag al (ab 0) (ap 0) (ac 0) (ak 0) (aw 0) af, oW aw hour grt beg, aC (cs 1) (aw 1) 8 laid, aC (cs 0) (aw 2) 8 dryh] (As := [.int (iI x), .int (iI 0), .int (iI 48)]) (rest := []) (c_X7_isWithin lx D cs x 0 48 (by omega) (by omega) (by omega)) dX7_grout_4 rfl rfl gX7_grout_X7_isWithin rfl rfl rfl (by decide +kernel) ⟨by decide, by decide⟩ rfl rfl rfl rfl (by decide) rfl (Nat.le_of_ble_eq_true rfl) ⟨rfl, rfl⟩ ⟨by decide, by decide⟩ (fun z4 u4 h4 => ?_)
  (try dsimp only at h4)
  obtain ⟨h4_1, h4_2⟩ := h4
  show V p9 lx e9 ({ frames := 6, cells := 1, slots := 6, locals := 96 }) s9 m9 ar9 be9 me9 c9 Q9 D A9 s9.heap 3 0 0 [oG ag al (ab 0) (ap 0) (ac 0) (ak 0) (aw 0) af, oW aw hour grt beg, aC (cs 1) (aw 1) 8 laid, aC (cs 0) (aw 2) 8 dryh] [(0, .ref ag), (1, .int (iI x))] 7 [.int (iI z4)]
  refine v_if_ne hC 20 10 dX7_grout_7 (by decide) rfl (by omega) (fun c_7 => ?_) (fun c_7 => ?_)
  · skip
    exfalso; omega
  · skip
    exact v_throw (ik := 65) (is := 181) (ic := 69) (E := IAE) (text := "grout dries 0 to 48 hours") hC hfl hT htab hQ dX7_grout_10 dX7_grout_13 dX7_grout_14 dX7_grout_16 dX7_grout_19 thr_fitIAE L0 L1 (by decide +kernel) (by decide +kernel) thr_a69 thr_g65_69 [0, 1, 2, 3] rfl ⟨by decide, Nat.le_of_ble_eq_true rfl, by decide, by decide⟩ ⟨by decide, by decide⟩

set_option maxHeartbeats 4000000 in
set_option maxRecDepth 100000 in
theorem c_X7_pass (lx : Launch) (D : va_G) (cs : Nat → ClassId) (ag : Nat) (aw : Nat → Nat) (hour : Int) (grt : Int) (beg : Int) (laid : Int → Int) (dryh : Int → Int) (al : Nat) (ab : Nat → Nat) (ap : Nat → Nat) (ac : Nat → Nat) (ak : Nat → Nat) (af : Nat) (x : Int) (r1 : -2147483648 ≤ x ∧ x < 2147483648) (hok : 1 ≤ x ∧ x ≤ 100) : Ci lx D cs yX7_pass wsX7_pass ({ frames := 2, cells := 0, slots := 0, locals := 46 }) [.ref ag, .int (iI x)] [oG ag al (ab 0) (ap 0) (ac 0) (ak 0) (aw 0) af, oW aw hour grt beg, aC (cs 1) (aw 1) 8 laid, aC (cs 0) (aw 2) 8 dryh] (fun (z : Int) (u : Unit) => (z = hour + x)) (fun u : Unit => [oG ag al (ab 0) (ap 0) (ac 0) (ak 0) (aw 0) af, oW aw (hour + x) grt beg, aC (cs 1) (aw 1) 8 laid, aC (cs 0) (aw 2) 8 dryh]) 0 0 := by
  refine Ci_of (cc := cX7_pass) (nL := 2) (ret := (some .int)) (lv0 := [(0, .ref ag), (1, .int (iI x))]) RX7 "pass" (by decide +kernel) rfl (Nat.le_of_ble_eq_true rfl) rfl (fun p9 e9 s9 m9 ar9 be9 me9 c9 A9 Q9 hQ hC => ?_)
  have iX7 : ∀ w ∈ wsX70, w ∈ wsX7_pass := by decide +kernel
  have iX6 : ∀ w ∈ wsX60, w ∈ wsX7_pass := by decide +kernel
  have L0 : Cond.fieldLink RX7 47 "Groutline" "work" "LGroutline$Work;" ∈ wsX7_pass := by decide +kernel
  have L1 : Cond.fieldLink RX7 202 "Groutline$Work" "hour" "I" ∈ wsX7_pass := by decide +kernel
  refine v_iload_n hC 1 1 dX7_pass_0 rfl rfl rfl ?_
  refine v_iconst hC 2 dX7_pass_1 rfl ?_
  refine v_bipush hC 4 dX7_pass_2 rfl rfl ?_
  refine v_callSi hC 7 3 [] [0, 1, 2, 3] [oG ag al (ab 0) (ap 0) (ac 0) (ak 0) (aw 0) af, oW aw hour grt beg, aC (cs 1) (aw 1) 8 laid, aC (cs 0) (aw 2) 8 dryh] (As := [.int (iI x), .int (iI 1), .int (iI 100)]) (rest := []) (c_X7_isWithin lx D cs x 1 100 (by omega) (by omega) (by omega)) dX7_pass_4 rfl rfl gX7_pass_X7_isWithin rfl rfl rfl (by decide +kernel) ⟨by decide, by decide⟩ rfl rfl rfl rfl (by decide) rfl (Nat.le_of_ble_eq_true rfl) ⟨rfl, rfl⟩ ⟨by decide, by decide⟩ (fun z4 u4 h4 => ?_)
  (try dsimp only at h4)
  obtain ⟨h4_1, h4_2⟩ := h4
  show V p9 lx e9 ({ frames := 2, cells := 0, slots := 0, locals := 46 }) s9 m9 ar9 be9 me9 c9 Q9 D A9 s9.heap 2 0 0 [oG ag al (ab 0) (ap 0) (ac 0) (ak 0) (aw 0) af, oW aw hour grt beg, aC (cs 1) (aw 1) 8 laid, aC (cs 0) (aw 2) 8 dryh] [(0, .ref ag), (1, .int (iI x))] 7 [.int (iI z4)]
  refine v_if_ne hC 20 10 dX7_pass_7 (by decide) rfl (by omega) (fun c_7 => ?_) (fun c_7 => ?_)
  · skip
    refine v_aload_n hC 21 0 dX7_pass_20 rfl rfl rfl ?_
    refine v_get hC 24 0 5 (C := RX7) (T := TX7) (N := 7) dX7_pass_21 rfl iX7 L0 rfl rfl (by decide) rfl ?_
    refine v_dup hC 25 dX7_pass_24 rfl rfl ?_
    refine v_get hC 28 1 0 (C := RX6) (T := TX6) (N := 5) dX7_pass_25 rfl iX6 L1 rfl rfl (by decide) rfl ?_
    refine v_iload_n hC 29 1 dX7_pass_28 rfl rfl rfl ?_
    refine v_iadd hC 30 (hour + x) dX7_pass_29 rfl rfl ?_
    refine v_put hC 33 1 0 [oG ag al (ab 0) (ap 0) (ac 0) (ak 0) (aw 0) af, oW aw (hour + x) grt beg, aC (cs 1) (aw 1) 8 laid, aC (cs 0) (aw 2) 8 dryh] (C := RX6) (T := TX6) (N := 5) dX7_pass_30 rfl iX6 tyX6_ok nmX6 L1 rfl rfl (by decide) rfl rfl rfl (Nat.le_of_ble_eq_true rfl) rfl ?_
    refine v_aload_n hC 34 0 dX7_pass_33 rfl rfl rfl ?_
    refine v_get hC 37 0 5 (C := RX7) (T := TX7) (N := 7) dX7_pass_34 rfl iX7 L0 rfl rfl (by decide) rfl ?_
    refine v_get hC 40 1 0 (C := RX6) (T := TX6) (N := 5) dX7_pass_37 rfl iX6 L1 rfl rfl (by decide) rfl ?_
    exact v_iret hC hQ () [0, 1, 2, 3] dX7_pass_40 rfl rfl ⟨by decide, by decide⟩ (by (try dsimp only); all_goals (first | rfl | omega))
  · exfalso; omega

set_option maxHeartbeats 4000000 in
set_option maxRecDepth 100000 in
theorem t_X7_pass_1 (lx : Launch) (hfl : lx.stackTraces = false) (D : va_G) (cs : Nat → ClassId) (ag : Nat) (aw : Nat → Nat) (hour : Int) (grt : Int) (beg : Int) (laid : Int → Int) (dryh : Int → Int) (al : Nat) (ab : Nat → Nat) (ap : Nat → Nat) (ac : Nat → Nat) (ak : Nat → Nat) (af : Nat) (x : Int) (r1 : -2147483648 ≤ x ∧ x < 2147483648) (hno : ¬ (1 ≤ x ∧ x ≤ 100)) : Xt lx D cs yX7_pass wsX7_pass ({ frames := 6, cells := 1, slots := 6, locals := 96 }) [.ref ag, .int (iI x)] [oG ag al (ab 0) (ap 0) (ac 0) (ak 0) (aw 0) af, oW aw hour grt beg, aC (cs 1) (aw 1) 8 laid, aC (cs 0) (aw 2) 8 dryh] IAE 1 6 := by
  refine Xt_of (cc := cX7_pass) (nL := 2) (ret := (some .int)) (lv0 := [(0, .ref ag), (1, .int (iI x))]) RX7 "pass" (by decide +kernel) rfl (Nat.le_of_ble_eq_true rfl) rfl (fun p9 e9 s9 m9 ar9 be9 me9 c9 A9 Q9 hQ hC hT htab => ?_)
  have L0 : Cond.classLink RX7 65 IAE ∈ wsX7_pass := by decide +kernel
  have L1 : Cond.initialized IAE ∈ wsX7_pass := by decide +kernel
  refine v_iload_n hC 1 1 dX7_pass_0 rfl rfl rfl ?_
  refine v_iconst hC 2 dX7_pass_1 rfl ?_
  refine v_bipush hC 4 dX7_pass_2 rfl rfl ?_
  refine v_callSi hC 7 3 [] [0, 1, 2, 3] [oG ag al (ab 0) (ap 0) (ac 0) (ak 0) (aw 0) af, oW aw hour grt beg, aC (cs 1) (aw 1) 8 laid, aC (cs 0) (aw 2) 8 dryh] (As := [.int (iI x), .int (iI 1), .int (iI 100)]) (rest := []) (c_X7_isWithin lx D cs x 1 100 (by omega) (by omega) (by omega)) dX7_pass_4 rfl rfl gX7_pass_X7_isWithin rfl rfl rfl (by decide +kernel) ⟨by decide, by decide⟩ rfl rfl rfl rfl (by decide) rfl (Nat.le_of_ble_eq_true rfl) ⟨rfl, rfl⟩ ⟨by decide, by decide⟩ (fun z4 u4 h4 => ?_)
  (try dsimp only at h4)
  obtain ⟨h4_1, h4_2⟩ := h4
  show V p9 lx e9 ({ frames := 6, cells := 1, slots := 6, locals := 96 }) s9 m9 ar9 be9 me9 c9 Q9 D A9 s9.heap 2 0 0 [oG ag al (ab 0) (ap 0) (ac 0) (ak 0) (aw 0) af, oW aw hour grt beg, aC (cs 1) (aw 1) 8 laid, aC (cs 0) (aw 2) 8 dryh] [(0, .ref ag), (1, .int (iI x))] 7 [.int (iI z4)]
  refine v_if_ne hC 20 10 dX7_pass_7 (by decide) rfl (by omega) (fun c_7 => ?_) (fun c_7 => ?_)
  · skip
    exfalso; omega
  · skip
    exact v_throw (ik := 65) (is := 212) (ic := 69) (E := IAE) (text := "to wait takes 1 to 100 hours") hC hfl hT htab hQ dX7_pass_10 dX7_pass_13 dX7_pass_14 dX7_pass_16 dX7_pass_19 thr_fitIAE L0 L1 (by decide +kernel) (by decide +kernel) thr_a69 thr_g65_69 [0, 1, 2, 3] rfl ⟨by decide, Nat.le_of_ble_eq_true rfl, by decide, by decide⟩ ⟨by decide, by decide⟩

set_option maxHeartbeats 4000000 in
set_option maxRecDepth 100000 in
theorem c_X7_lay (lx : Launch) (D : va_G) (cs : Nat → ClassId) (ag : Nat) (al : Nat) (ap : Nat → Nat) (aw : Nat → Nat) (wide : Int) (high : Int) (border : Int) (pattern : Int) (cnt : Int) (ofc : Int → Int) (knd : Int → Int) (col : Int → Int) (row : Int → Int) (siz : Int → Int) (bw : Int → Int) (bh : Int → Int) (hour : Int) (grt : Int) (beg : Int) (laid : Int → Int) (dryh : Int → Int) (ab : Nat → Nat) (ac : Nat → Nat) (ak : Nat → Nat) (af : Nat) (x : Int) (r1 : -2147483648 ≤ x ∧ x < 2147483648) (hh : 1 ≤ high ∧ high ≤ 4) (hb : 0 ≤ border ∧ border ≤ 2) (hok : (0 ≤ x ∧ x < nS high border)) (hcan : (laid x ≠ 1 ∧ ∀ j : Int, 0 ≤ j → j < x → laid j = 1 → dryh j ≤ hour)) (hlaid : Rn laid 0 1) (hdry : Rn dryh 0 1000000) (hhr : 0 ≤ hour ∧ hour ≤ 1000000) (hg : 0 ≤ grt ∧ grt ≤ 48) (hcnt : 0 ≤ cnt ∧ cnt ≤ 96) (hrow : ∀ j : Int, 0 ≤ j → j < cnt → 0 ≤ row j ∧ row j < 8) : Ci lx D cs yX7_lay wsX7_lay ({ frames := 6, cells := 0, slots := 0, locals := 130 }) [.ref ag, .int (iI x)] [oG ag al (ab 0) (ap 0) (ac 0) (ak 0) (aw 0) af, oL al wide high border pattern, oP ap cnt, aC (cs 0) (ap 1) 96 ofc, aC (cs 0) (ap 2) 96 knd, aC (cs 0) (ap 3) 96 col, aC (cs 0) (ap 4) 96 row, aC (cs 0) (ap 5) 96 siz, aC (cs 0) (ap 6) 96 bw, aC (cs 0) (ap 7) 96 bh, oW aw hour grt beg, aC (cs 1) (aw 1) 8 laid, aC (cs 0) (aw 2) 8 dryh] (fun (z : Int) (u : Unit) => (z = hour + (pcn high border row x cnt.toNat + 4 - 1) / 4)) (fun u : Unit => [oG ag al (ab 0) (ap 0) (ac 0) (ak 0) (aw 0) af, oL al wide high border pattern, oP ap cnt, aC (cs 0) (ap 1) 96 ofc, aC (cs 0) (ap 2) 96 knd, aC (cs 0) (ap 3) 96 col, aC (cs 0) (ap 4) 96 row, aC (cs 0) (ap 5) 96 siz, aC (cs 0) (ap 6) 96 bw, aC (cs 0) (ap 7) 96 bh, oW aw (hour + (pcn high border row x cnt.toNat + 4 - 1) / 4) grt 1, aC (cs 1) (aw 1) 8 (uI laid x 1), aC (cs 0) (aw 2) 8 (uI dryh x (hour + (pcn high border row x cnt.toNat + 4 - 1) / 4 + grt))]) 0 0 := by
  refine Ci_of (cc := cX7_lay) (nL := 2) (ret := (some .int)) (lv0 := [(0, .ref ag), (1, .int (iI x))]) RX7 "lay" (by decide +kernel) rfl (Nat.le_of_ble_eq_true rfl) rfl (fun p9 e9 s9 m9 ar9 be9 me9 c9 A9 Q9 hQ hC => ?_)
  have hn9 := nS_rng hh hb
  have iX7 : ∀ w ∈ wsX70, w ∈ wsX7_lay := by decide +kernel
  have iX6 : ∀ w ∈ wsX60, w ∈ wsX7_lay := by decide +kernel
  have L0 : Cond.fieldLink RX7 12 "Groutline" "layout" "LGroutline$Layout;" ∈ wsX7_lay := by decide +kernel
  have L1 : Cond.fieldLink RX7 47 "Groutline" "work" "LGroutline$Work;" ∈ wsX7_lay := by decide +kernel
  have L2 : Cond.fieldLink RX7 202 "Groutline$Work" "hour" "I" ∈ wsX7_lay := by decide +kernel
  refine v_aload_n hC 1 0 dX7_lay_0 rfl rfl rfl ?_
  refine v_get hC 4 0 0 (C := RX7) (T := TX7) (N := 7) dX7_lay_1 rfl iX7 L0 rfl rfl (by decide) rfl ?_
  refine v_iload_n hC 5 1 dX7_lay_4 rfl rfl rfl ?_
  refine v_callVi hC 8 1 [1] [0, 2, 3, 4, 5, 6, 7, 8, 9, 10, 11, 12] [oG ag al (ab 0) (ap 0) (ac 0) (ak 0) (aw 0) af, oP ap cnt, aC (cs 0) (ap 1) 96 ofc, aC (cs 0) (ap 2) 96 knd, aC (cs 0) (ap 3) 96 col, aC (cs 0) (ap 4) 96 row, aC (cs 0) (ap 5) 96 siz, aC (cs 0) (ap 6) 96 bw, aC (cs 0) (ap 7) 96 bh, oW aw hour grt beg, aC (cs 1) (aw 1) 8 laid, aC (cs 0) (aw 2) 8 dryh] (As := [.int (iI x)]) (rest := []) (c_X3_hasStrip lx D cs al wide high border pattern x (by omega) (by omega) (by omega)) dX7_lay_5 rfl rfl 1 rfl rfl gX7_lay_X3_hasStrip rfl rfl rfl (by decide +kernel) ⟨by decide, by decide⟩ rfl rfl rfl rfl (by decide) rfl (Nat.le_of_ble_eq_true rfl) ⟨rfl, rfl⟩ ⟨by decide, by decide⟩ (fun z5 u5 h5 => ?_)
  (try dsimp only at h5)
  obtain ⟨h5_1, h5_2⟩ := h5
  show V p9 lx e9 ({ frames := 6, cells := 0, slots := 0, locals := 130 }) s9 m9 ar9 be9 me9 c9 Q9 D A9 s9.heap 2 0 0 [oG ag al (ab 0) (ap 0) (ac 0) (ak 0) (aw 0) af, oP ap cnt, aC (cs 0) (ap 1) 96 ofc, aC (cs 0) (ap 2) 96 knd, aC (cs 0) (ap 3) 96 col, aC (cs 0) (ap 4) 96 row, aC (cs 0) (ap 5) 96 siz, aC (cs 0) (ap 6) 96 bw, aC (cs 0) (ap 7) 96 bh, oW aw hour grt beg, aC (cs 1) (aw 1) 8 laid, aC (cs 0) (aw 2) 8 dryh, oL al wide high border pattern] [(0, .ref ag), (1, .int (iI x))] 8 [.int (iI z5)]
  refine v_if_ne hC 21 11 dX7_lay_8 (by decide) rfl (by omega) (fun c_8 => ?_) (fun c_8 => ?_)
  · skip
    refine v_aload_n hC 22 0 dX7_lay_21 rfl rfl rfl ?_
    refine v_get hC 25 0 5 (C := RX7) (T := TX7) (N := 7) dX7_lay_22 rfl iX7 L1 rfl rfl (by decide) rfl ?_
    refine v_iload_n hC 26 1 dX7_lay_25 rfl rfl rfl ?_
    refine v_callVi hC 29 1 [9, 10, 11] [0, 1, 2, 3, 4, 5, 6, 7, 8, 12] [oG ag al (ab 0) (ap 0) (ac 0) (ak 0) (aw 0) af, oP ap cnt, aC (cs 0) (ap 1) 96 ofc, aC (cs 0) (ap 2) 96 knd, aC (cs 0) (ap 3) 96 col, aC (cs 0) (ap 4) 96 row, aC (cs 0) (ap 5) 96 siz, aC (cs 0) (ap 6) 96 bw, aC (cs 0) (ap 7) 96 bh, oL al wide high border pattern] (As := [.int (iI x)]) (rest := []) (c_X6_canStart lx D cs aw hour grt beg laid dryh x (by omega) (by assumption) (by assumption) (by omega)) dX7_lay_26 rfl rfl 9 rfl rfl gX7_lay_X6_canStart rfl rfl rfl (by decide +kernel) ⟨by decide, by decide⟩ rfl rfl rfl rfl (by decide) rfl (Nat.le_of_ble_eq_true rfl) ⟨rfl, rfl⟩ ⟨by decide, by decide⟩ (fun z26 u26 h26 => ?_)
    (try dsimp only at h26)
    obtain ⟨h26_1, h26_2⟩ := h26
    show V p9 lx e9 ({ frames := 6, cells := 0, slots := 0, locals := 130 }) s9 m9 ar9 be9 me9 c9 Q9 D A9 s9.heap 2 0 0 [oG ag al (ab 0) (ap 0) (ac 0) (ak 0) (aw 0) af, oP ap cnt, aC (cs 0) (ap 1) 96 ofc, aC (cs 0) (ap 2) 96 knd, aC (cs 0) (ap 3) 96 col, aC (cs 0) (ap 4) 96 row, aC (cs 0) (ap 5) 96 siz, aC (cs 0) (ap 6) 96 bw, aC (cs 0) (ap 7) 96 bh, oL al wide high border pattern, oW aw hour grt beg, aC (cs 1) (aw 1) 8 laid, aC (cs 0) (aw 2) 8 dryh] [(0, .ref ag), (1, .int (iI x))] 29 [.int (iI z26)]
    refine v_if_ne hC 42 32 dX7_lay_29 (by decide) rfl (by omega) (fun c_29 => ?_) (fun c_29 => ?_)
    · skip
      refine v_aload_n hC 43 0 dX7_lay_42 rfl rfl rfl ?_
      refine v_get hC 46 0 5 (C := RX7) (T := TX7) (N := 7) dX7_lay_43 rfl iX7 L1 rfl rfl (by decide) rfl ?_
      refine v_iload_n hC 47 1 dX7_lay_46 rfl rfl rfl ?_
      refine v_aload_n hC 48 0 dX7_lay_47 rfl rfl rfl ?_
      refine v_iload_n hC 49 1 dX7_lay_48 rfl rfl rfl ?_
      refine v_callVi hC 52 1 [0, 9, 1, 2, 3, 4, 5, 6, 7, 8] [10, 11, 12] [oW aw hour grt beg, aC (cs 1) (aw 1) 8 laid, aC (cs 0) (aw 2) 8 dryh] (As := [.int (iI x)]) (rest := [.int (iI x), .ref (aw 0)]) (c_X7_piecesOfStrip lx D cs ag al ap wide high border pattern cnt ofc knd col row siz bw bh ab ac ak aw af x (by omega) (by omega) (by omega) (by omega) (by omega)) dX7_lay_49 rfl rfl 0 rfl rfl gX7_lay_X7_piecesOfStrip rfl rfl rfl (by decide +kernel) ⟨by decide, by decide⟩ rfl rfl rfl rfl (by decide) rfl (Nat.le_of_ble_eq_true rfl) ⟨rfl, rfl⟩ ⟨by decide, by decide⟩ (fun z49 u49 h49 => ?_)
      (try dsimp only at h49)
      subst h49
      have pc9 := pcn_rng (high := high) (border := border) (s := x) (row := row) cnt.toNat
      show V p9 lx e9 ({ frames := 6, cells := 0, slots := 0, locals := 130 }) s9 m9 ar9 be9 me9 c9 Q9 D A9 s9.heap 2 0 0 [oW aw hour grt beg, aC (cs 1) (aw 1) 8 laid, aC (cs 0) (aw 2) 8 dryh, oG ag al (ab 0) (ap 0) (ac 0) (ak 0) (aw 0) af, oL al wide high border pattern, oP ap cnt, aC (cs 0) (ap 1) 96 ofc, aC (cs 0) (ap 2) 96 knd, aC (cs 0) (ap 3) 96 col, aC (cs 0) (ap 4) 96 row, aC (cs 0) (ap 5) 96 siz, aC (cs 0) (ap 6) 96 bw, aC (cs 0) (ap 7) 96 bh] [(0, .ref ag), (1, .int (iI x))] 52 [.int (iI (pcn high border row x cnt.toNat)), .int (iI x), .ref (aw 0)]
      refine v_callVv hC 55 2 [0, 1, 2] [3, 4, 5, 6, 7, 8, 9, 10, 11, 12] [oG ag al (ab 0) (ap 0) (ac 0) (ak 0) (aw 0) af, oL al wide high border pattern, oP ap cnt, aC (cs 0) (ap 1) 96 ofc, aC (cs 0) (ap 2) 96 knd, aC (cs 0) (ap 3) 96 col, aC (cs 0) (ap 4) 96 row, aC (cs 0) (ap 5) 96 siz, aC (cs 0) (ap 6) 96 bw, aC (cs 0) (ap 7) 96 bh] (As := [.int (iI x), .int (iI (pcn high border row x cnt.toNat))]) (rest := []) (c_X6_finish lx D cs aw hour grt beg laid dryh x (pcn high border row x cnt.toNat) (by omega) (by omega) (by omega) (by omega)) dX7_lay_52 rfl rfl 0 rfl rfl gX7_lay_X6_finish rfl rfl rfl (by decide +kernel) ⟨by decide, by decide⟩ rfl rfl rfl rfl (by decide) rfl (Nat.le_of_ble_eq_true rfl) ⟨rfl, rfl⟩ ⟨by decide, by decide⟩ (fun u52 h52 => ?_)
      (try dsimp only at h52)
      show V p9 lx e9 ({ frames := 6, cells := 0, slots := 0, locals := 130 }) s9 m9 ar9 be9 me9 c9 Q9 D A9 s9.heap 2 0 0 [oG ag al (ab 0) (ap 0) (ac 0) (ak 0) (aw 0) af, oL al wide high border pattern, oP ap cnt, aC (cs 0) (ap 1) 96 ofc, aC (cs 0) (ap 2) 96 knd, aC (cs 0) (ap 3) 96 col, aC (cs 0) (ap 4) 96 row, aC (cs 0) (ap 5) 96 siz, aC (cs 0) (ap 6) 96 bw, aC (cs 0) (ap 7) 96 bh, oW aw (hour + ((pcn high border row x cnt.toNat) + 4 - 1) / 4) grt 1, aC (cs 1) (aw 1) 8 (uI laid x 1), aC (cs 0) (aw 2) 8 (uI dryh x (hour + ((pcn high border row x cnt.toNat) + 4 - 1) / 4 + grt))] [(0, .ref ag), (1, .int (iI x))] 55 []
      refine v_aload_n hC 56 0 dX7_lay_55 rfl rfl rfl ?_
      refine v_get hC 59 0 5 (C := RX7) (T := TX7) (N := 7) dX7_lay_56 rfl iX7 L1 rfl rfl (by decide) rfl ?_
      refine v_get hC 62 10 0 (C := RX6) (T := TX6) (N := 5) dX7_lay_59 rfl iX6 L2 rfl rfl (by decide) rfl ?_
      exact v_iret hC hQ () [0, 1, 2, 3, 4, 5, 6, 7, 8, 9, 10, 11, 12] dX7_lay_62 rfl rfl ⟨by decide, by decide⟩ (by (try dsimp only); all_goals (first | rfl | omega))
    · exfalso; exact absurd (h26_2.mpr hcan) (by omega)
  · exfalso; omega

set_option maxHeartbeats 4000000 in
set_option maxRecDepth 100000 in
theorem t_X7_lay_1 (lx : Launch) (hfl : lx.stackTraces = false) (D : va_G) (cs : Nat → ClassId) (ag : Nat) (al : Nat) (ap : Nat → Nat) (aw : Nat → Nat) (wide : Int) (high : Int) (border : Int) (pattern : Int) (cnt : Int) (ofc : Int → Int) (knd : Int → Int) (col : Int → Int) (row : Int → Int) (siz : Int → Int) (bw : Int → Int) (bh : Int → Int) (hour : Int) (grt : Int) (beg : Int) (laid : Int → Int) (dryh : Int → Int) (ab : Nat → Nat) (ac : Nat → Nat) (ak : Nat → Nat) (af : Nat) (x : Int) (r1 : -2147483648 ≤ x ∧ x < 2147483648) (hh : 1 ≤ high ∧ high ≤ 4) (hb : 0 ≤ border ∧ border ≤ 2) (hno : ¬ (0 ≤ x ∧ x < nS high border)) : Xt lx D cs yX7_lay wsX7_lay ({ frames := 6, cells := 1, slots := 6, locals := 130 }) [.ref ag, .int (iI x)] [oG ag al (ab 0) (ap 0) (ac 0) (ak 0) (aw 0) af, oL al wide high border pattern, oP ap cnt, aC (cs 0) (ap 1) 96 ofc, aC (cs 0) (ap 2) 96 knd, aC (cs 0) (ap 3) 96 col, aC (cs 0) (ap 4) 96 row, aC (cs 0) (ap 5) 96 siz, aC (cs 0) (ap 6) 96 bw, aC (cs 0) (ap 7) 96 bh, oW aw hour grt beg, aC (cs 1) (aw 1) 8 laid, aC (cs 0) (aw 2) 8 dryh] IOE 1 6 := by
  refine Xt_of (cc := cX7_lay) (nL := 2) (ret := (some .int)) (lv0 := [(0, .ref ag), (1, .int (iI x))]) RX7 "lay" (by decide +kernel) rfl (Nat.le_of_ble_eq_true rfl) rfl (fun p9 e9 s9 m9 ar9 be9 me9 c9 A9 Q9 hQ hC hT htab => ?_)
  have iX7 : ∀ w ∈ wsX70, w ∈ wsX7_lay := by decide +kernel
  have L0 : Cond.fieldLink RX7 12 "Groutline" "layout" "LGroutline$Layout;" ∈ wsX7_lay := by decide +kernel
  have L1 : Cond.classLink RX7 97 IOE ∈ wsX7_lay := by decide +kernel
  have L2 : Cond.initialized IOE ∈ wsX7_lay := by decide +kernel
  refine v_aload_n hC 1 0 dX7_lay_0 rfl rfl rfl ?_
  refine v_get hC 4 0 0 (C := RX7) (T := TX7) (N := 7) dX7_lay_1 rfl iX7 L0 rfl rfl (by decide) rfl ?_
  refine v_iload_n hC 5 1 dX7_lay_4 rfl rfl rfl ?_
  refine v_callVi hC 8 1 [1] [0, 2, 3, 4, 5, 6, 7, 8, 9, 10, 11, 12] [oG ag al (ab 0) (ap 0) (ac 0) (ak 0) (aw 0) af, oP ap cnt, aC (cs 0) (ap 1) 96 ofc, aC (cs 0) (ap 2) 96 knd, aC (cs 0) (ap 3) 96 col, aC (cs 0) (ap 4) 96 row, aC (cs 0) (ap 5) 96 siz, aC (cs 0) (ap 6) 96 bw, aC (cs 0) (ap 7) 96 bh, oW aw hour grt beg, aC (cs 1) (aw 1) 8 laid, aC (cs 0) (aw 2) 8 dryh] (As := [.int (iI x)]) (rest := []) (c_X3_hasStrip lx D cs al wide high border pattern x (by omega) (by omega) (by omega)) dX7_lay_5 rfl rfl 1 rfl rfl gX7_lay_X3_hasStrip rfl rfl rfl (by decide +kernel) ⟨by decide, by decide⟩ rfl rfl rfl rfl (by decide) rfl (Nat.le_of_ble_eq_true rfl) ⟨rfl, rfl⟩ ⟨by decide, by decide⟩ (fun z5 u5 h5 => ?_)
  (try dsimp only at h5)
  obtain ⟨h5_1, h5_2⟩ := h5
  show V p9 lx e9 ({ frames := 6, cells := 1, slots := 6, locals := 130 }) s9 m9 ar9 be9 me9 c9 Q9 D A9 s9.heap 2 0 0 [oG ag al (ab 0) (ap 0) (ac 0) (ak 0) (aw 0) af, oP ap cnt, aC (cs 0) (ap 1) 96 ofc, aC (cs 0) (ap 2) 96 knd, aC (cs 0) (ap 3) 96 col, aC (cs 0) (ap 4) 96 row, aC (cs 0) (ap 5) 96 siz, aC (cs 0) (ap 6) 96 bw, aC (cs 0) (ap 7) 96 bh, oW aw hour grt beg, aC (cs 1) (aw 1) 8 laid, aC (cs 0) (aw 2) 8 dryh, oL al wide high border pattern] [(0, .ref ag), (1, .int (iI x))] 8 [.int (iI z5)]
  refine v_if_ne hC 21 11 dX7_lay_8 (by decide) rfl (by omega) (fun c_8 => ?_) (fun c_8 => ?_)
  · skip
    exfalso; omega
  · skip
    exact v_throw (ik := 97) (is := 189) (ic := 101) (E := IOE) (text := "no such strip") hC hfl hT htab hQ dX7_lay_11 dX7_lay_14 dX7_lay_15 dX7_lay_17 dX7_lay_20 thr_fitIOE L1 L2 (by decide +kernel) (by decide +kernel) thr_a101 thr_g97_101 [0, 12, 1, 2, 3, 4, 5, 6, 7, 8, 9, 10, 11] rfl ⟨by decide, Nat.le_of_ble_eq_true rfl, by decide, by decide⟩ ⟨by decide, by decide⟩

set_option maxHeartbeats 4000000 in
set_option maxRecDepth 100000 in
theorem t_X7_lay_2 (lx : Launch) (hfl : lx.stackTraces = false) (D : va_G) (cs : Nat → ClassId) (ag : Nat) (al : Nat) (ap : Nat → Nat) (aw : Nat → Nat) (wide : Int) (high : Int) (border : Int) (pattern : Int) (cnt : Int) (ofc : Int → Int) (knd : Int → Int) (col : Int → Int) (row : Int → Int) (siz : Int → Int) (bw : Int → Int) (bh : Int → Int) (hour : Int) (grt : Int) (beg : Int) (laid : Int → Int) (dryh : Int → Int) (ab : Nat → Nat) (ac : Nat → Nat) (ak : Nat → Nat) (af : Nat) (x : Int) (r1 : -2147483648 ≤ x ∧ x < 2147483648) (hh : 1 ≤ high ∧ high ≤ 4) (hb : 0 ≤ border ∧ border ≤ 2) (hok : (0 ≤ x ∧ x < nS high border)) (hcan : ¬ (laid x ≠ 1 ∧ ∀ j : Int, 0 ≤ j → j < x → laid j = 1 → dryh j ≤ hour)) (hlaid : Rn laid 0 1) (hdry : Rn dryh 0 1000000) (hhr : 0 ≤ hour ∧ hour ≤ 1000000) : Xt lx D cs yX7_lay wsX7_lay ({ frames := 6, cells := 1, slots := 6, locals := 130 }) [.ref ag, .int (iI x)] [oG ag al (ab 0) (ap 0) (ac 0) (ak 0) (aw 0) af, oL al wide high border pattern, oP ap cnt, aC (cs 0) (ap 1) 96 ofc, aC (cs 0) (ap 2) 96 knd, aC (cs 0) (ap 3) 96 col, aC (cs 0) (ap 4) 96 row, aC (cs 0) (ap 5) 96 siz, aC (cs 0) (ap 6) 96 bw, aC (cs 0) (ap 7) 96 bh, oW aw hour grt beg, aC (cs 1) (aw 1) 8 laid, aC (cs 0) (aw 2) 8 dryh] ISE 1 6 := by
  refine Xt_of (cc := cX7_lay) (nL := 2) (ret := (some .int)) (lv0 := [(0, .ref ag), (1, .int (iI x))]) RX7 "lay" (by decide +kernel) rfl (Nat.le_of_ble_eq_true rfl) rfl (fun p9 e9 s9 m9 ar9 be9 me9 c9 A9 Q9 hQ hC hT htab => ?_)
  have hn9 := nS_rng hh hb
  have iX7 : ∀ w ∈ wsX70, w ∈ wsX7_lay := by decide +kernel
  have L0 : Cond.fieldLink RX7 12 "Groutline" "layout" "LGroutline$Layout;" ∈ wsX7_lay := by decide +kernel
  have L1 : Cond.fieldLink RX7 47 "Groutline" "work" "LGroutline$Work;" ∈ wsX7_lay := by decide +kernel
  have L2 : Cond.classLink RX7 80 ISE ∈ wsX7_lay := by decide +kernel
  have L3 : Cond.initialized ISE ∈ wsX7_lay := by decide +kernel
  refine v_aload_n hC 1 0 dX7_lay_0 rfl rfl rfl ?_
  refine v_get hC 4 0 0 (C := RX7) (T := TX7) (N := 7) dX7_lay_1 rfl iX7 L0 rfl rfl (by decide) rfl ?_
  refine v_iload_n hC 5 1 dX7_lay_4 rfl rfl rfl ?_
  refine v_callVi hC 8 1 [1] [0, 2, 3, 4, 5, 6, 7, 8, 9, 10, 11, 12] [oG ag al (ab 0) (ap 0) (ac 0) (ak 0) (aw 0) af, oP ap cnt, aC (cs 0) (ap 1) 96 ofc, aC (cs 0) (ap 2) 96 knd, aC (cs 0) (ap 3) 96 col, aC (cs 0) (ap 4) 96 row, aC (cs 0) (ap 5) 96 siz, aC (cs 0) (ap 6) 96 bw, aC (cs 0) (ap 7) 96 bh, oW aw hour grt beg, aC (cs 1) (aw 1) 8 laid, aC (cs 0) (aw 2) 8 dryh] (As := [.int (iI x)]) (rest := []) (c_X3_hasStrip lx D cs al wide high border pattern x (by omega) (by omega) (by omega)) dX7_lay_5 rfl rfl 1 rfl rfl gX7_lay_X3_hasStrip rfl rfl rfl (by decide +kernel) ⟨by decide, by decide⟩ rfl rfl rfl rfl (by decide) rfl (Nat.le_of_ble_eq_true rfl) ⟨rfl, rfl⟩ ⟨by decide, by decide⟩ (fun z5 u5 h5 => ?_)
  (try dsimp only at h5)
  obtain ⟨h5_1, h5_2⟩ := h5
  show V p9 lx e9 ({ frames := 6, cells := 1, slots := 6, locals := 130 }) s9 m9 ar9 be9 me9 c9 Q9 D A9 s9.heap 2 0 0 [oG ag al (ab 0) (ap 0) (ac 0) (ak 0) (aw 0) af, oP ap cnt, aC (cs 0) (ap 1) 96 ofc, aC (cs 0) (ap 2) 96 knd, aC (cs 0) (ap 3) 96 col, aC (cs 0) (ap 4) 96 row, aC (cs 0) (ap 5) 96 siz, aC (cs 0) (ap 6) 96 bw, aC (cs 0) (ap 7) 96 bh, oW aw hour grt beg, aC (cs 1) (aw 1) 8 laid, aC (cs 0) (aw 2) 8 dryh, oL al wide high border pattern] [(0, .ref ag), (1, .int (iI x))] 8 [.int (iI z5)]
  refine v_if_ne hC 21 11 dX7_lay_8 (by decide) rfl (by omega) (fun c_8 => ?_) (fun c_8 => ?_)
  · skip
    refine v_aload_n hC 22 0 dX7_lay_21 rfl rfl rfl ?_
    refine v_get hC 25 0 5 (C := RX7) (T := TX7) (N := 7) dX7_lay_22 rfl iX7 L1 rfl rfl (by decide) rfl ?_
    refine v_iload_n hC 26 1 dX7_lay_25 rfl rfl rfl ?_
    refine v_callVi hC 29 1 [9, 10, 11] [0, 1, 2, 3, 4, 5, 6, 7, 8, 12] [oG ag al (ab 0) (ap 0) (ac 0) (ak 0) (aw 0) af, oP ap cnt, aC (cs 0) (ap 1) 96 ofc, aC (cs 0) (ap 2) 96 knd, aC (cs 0) (ap 3) 96 col, aC (cs 0) (ap 4) 96 row, aC (cs 0) (ap 5) 96 siz, aC (cs 0) (ap 6) 96 bw, aC (cs 0) (ap 7) 96 bh, oL al wide high border pattern] (As := [.int (iI x)]) (rest := []) (c_X6_canStart lx D cs aw hour grt beg laid dryh x (by omega) (by assumption) (by assumption) (by omega)) dX7_lay_26 rfl rfl 9 rfl rfl gX7_lay_X6_canStart rfl rfl rfl (by decide +kernel) ⟨by decide, by decide⟩ rfl rfl rfl rfl (by decide) rfl (Nat.le_of_ble_eq_true rfl) ⟨rfl, rfl⟩ ⟨by decide, by decide⟩ (fun z26 u26 h26 => ?_)
    (try dsimp only at h26)
    obtain ⟨h26_1, h26_2⟩ := h26
    show V p9 lx e9 ({ frames := 6, cells := 1, slots := 6, locals := 130 }) s9 m9 ar9 be9 me9 c9 Q9 D A9 s9.heap 2 0 0 [oG ag al (ab 0) (ap 0) (ac 0) (ak 0) (aw 0) af, oP ap cnt, aC (cs 0) (ap 1) 96 ofc, aC (cs 0) (ap 2) 96 knd, aC (cs 0) (ap 3) 96 col, aC (cs 0) (ap 4) 96 row, aC (cs 0) (ap 5) 96 siz, aC (cs 0) (ap 6) 96 bw, aC (cs 0) (ap 7) 96 bh, oL al wide high border pattern, oW aw hour grt beg, aC (cs 1) (aw 1) 8 laid, aC (cs 0) (aw 2) 8 dryh] [(0, .ref ag), (1, .int (iI x))] 29 [.int (iI z26)]
    refine v_if_ne hC 42 32 dX7_lay_29 (by decide) rfl (by omega) (fun c_29 => ?_) (fun c_29 => ?_)
    · exfalso; exact hcan (h26_2.mp (by omega))
    · skip
      exact v_throw (ik := 80) (is := 194) (ic := 84) (E := ISE) (text := "the strip is laid, or one ahead of it is not dry") hC hfl hT htab hQ dX7_lay_32 dX7_lay_35 dX7_lay_36 dX7_lay_38 dX7_lay_41 thr_fitISE L2 L3 (by decide +kernel) (by decide +kernel) thr_a84 thr_g80_84 [0, 9, 1, 2, 3, 4, 5, 6, 7, 8, 10, 11, 12] rfl ⟨by decide, Nat.le_of_ble_eq_true rfl, by decide, by decide⟩ ⟨by decide, by decide⟩
  · skip
    exfalso; omega

set_option maxHeartbeats 4000000 in
set_option maxRecDepth 100000 in
theorem c_X7_dry (lx : Launch) (D : va_G) (cs : Nat → ClassId) (ag : Nat) (al : Nat) (aw : Nat → Nat) (wide : Int) (high : Int) (border : Int) (pattern : Int) (hour : Int) (grt : Int) (beg : Int) (laid : Int → Int) (dryh : Int → Int) (ab : Nat → Nat) (ap : Nat → Nat) (ac : Nat → Nat) (ak : Nat → Nat) (af : Nat) (x : Int) (r1 : -2147483648 ≤ x ∧ x < 2147483648) (hh : 1 ≤ high ∧ high ≤ 4) (hb : 0 ≤ border ∧ border ≤ 2) (hok : (0 ≤ x ∧ x < nS high border)) (hlaid : Rn laid 0 1) : Ci lx D cs yX7_dry wsX7_dry ({ frames := 6, cells := 0, slots := 0, locals := 127 }) [.ref ag, .int (iI x)] [oG ag al (ab 0) (ap 0) (ac 0) (ak 0) (aw 0) af, oL al wide high border pattern, oW aw hour grt beg, aC (cs 1) (aw 1) 8 laid, aC (cs 0) (aw 2) 8 dryh] (fun (z : Int) (u : Unit) => (laid x = 1 → z = dryh x) ∧ (laid x ≠ 1 → z = -1)) (fun u : Unit => [oG ag al (ab 0) (ap 0) (ac 0) (ak 0) (aw 0) af, oL al wide high border pattern, oW aw hour grt beg, aC (cs 1) (aw 1) 8 laid, aC (cs 0) (aw 2) 8 dryh]) 0 0 := by
  refine Ci_of (cc := cX7_dry) (nL := 2) (ret := (some .int)) (lv0 := [(0, .ref ag), (1, .int (iI x))]) RX7 "dry" (by decide +kernel) rfl (Nat.le_of_ble_eq_true rfl) rfl (fun p9 e9 s9 m9 ar9 be9 me9 c9 A9 Q9 hQ hC => ?_)
  have hn9 := nS_rng hh hb
  have iX7 : ∀ w ∈ wsX70, w ∈ wsX7_dry := by decide +kernel
  have L0 : Cond.fieldLink RX7 12 "Groutline" "layout" "LGroutline$Layout;" ∈ wsX7_dry := by decide +kernel
  have L1 : Cond.fieldLink RX7 47 "Groutline" "work" "LGroutline$Work;" ∈ wsX7_dry := by decide +kernel
  refine v_aload_n hC 1 0 dX7_dry_0 rfl rfl rfl ?_
  refine v_get hC 4 0 0 (C := RX7) (T := TX7) (N := 7) dX7_dry_1 rfl iX7 L0 rfl rfl (by decide) rfl ?_
  refine v_iload_n hC 5 1 dX7_dry_4 rfl rfl rfl ?_
  refine v_callVi hC 8 1 [1] [0, 2, 3, 4] [oG ag al (ab 0) (ap 0) (ac 0) (ak 0) (aw 0) af, oW aw hour grt beg, aC (cs 1) (aw 1) 8 laid, aC (cs 0) (aw 2) 8 dryh] (As := [.int (iI x)]) (rest := []) (c_X3_hasStrip lx D cs al wide high border pattern x (by omega) (by omega) (by omega)) dX7_dry_5 rfl rfl 1 rfl rfl gX7_dry_X3_hasStrip rfl rfl rfl (by decide +kernel) ⟨by decide, by decide⟩ rfl rfl rfl rfl (by decide) rfl (Nat.le_of_ble_eq_true rfl) ⟨rfl, rfl⟩ ⟨by decide, by decide⟩ (fun z5 u5 h5 => ?_)
  (try dsimp only at h5)
  obtain ⟨h5_1, h5_2⟩ := h5
  show V p9 lx e9 ({ frames := 6, cells := 0, slots := 0, locals := 127 }) s9 m9 ar9 be9 me9 c9 Q9 D A9 s9.heap 2 0 0 [oG ag al (ab 0) (ap 0) (ac 0) (ak 0) (aw 0) af, oW aw hour grt beg, aC (cs 1) (aw 1) 8 laid, aC (cs 0) (aw 2) 8 dryh, oL al wide high border pattern] [(0, .ref ag), (1, .int (iI x))] 8 [.int (iI z5)]
  refine v_if_ne hC 21 11 dX7_dry_8 (by decide) rfl (by omega) (fun c_8 => ?_) (fun c_8 => ?_)
  · skip
    refine v_aload_n hC 22 0 dX7_dry_21 rfl rfl rfl ?_
    refine v_get hC 25 0 5 (C := RX7) (T := TX7) (N := 7) dX7_dry_22 rfl iX7 L1 rfl rfl (by decide) rfl ?_
    refine v_iload_n hC 26 1 dX7_dry_25 rfl rfl rfl ?_
    refine v_callVi hC 29 1 [1, 2, 3] [0, 4] [oG ag al (ab 0) (ap 0) (ac 0) (ak 0) (aw 0) af, oL al wide high border pattern] (As := [.int (iI x)]) (rest := []) (c_X6_dryHourOf lx D cs aw hour grt beg laid dryh x (by omega) (by assumption)) dX7_dry_26 rfl rfl 1 rfl rfl gX7_dry_X6_dryHourOf rfl rfl rfl (by decide +kernel) ⟨by decide, by decide⟩ rfl rfl rfl rfl (by decide) rfl (Nat.le_of_ble_eq_true rfl) ⟨rfl, rfl⟩ ⟨by decide, by decide⟩ (fun z26 u26 h26 => ?_)
    (try dsimp only at h26)
    obtain ⟨h26_1, h26_2⟩ := h26
    show V p9 lx e9 ({ frames := 6, cells := 0, slots := 0, locals := 127 }) s9 m9 ar9 be9 me9 c9 Q9 D A9 s9.heap 2 0 0 [oG ag al (ab 0) (ap 0) (ac 0) (ak 0) (aw 0) af, oL al wide high border pattern, oW aw hour grt beg, aC (cs 1) (aw 1) 8 laid, aC (cs 0) (aw 2) 8 dryh] [(0, .ref ag), (1, .int (iI x))] 29 [.int (iI z26)]
    exact v_iret hC hQ () [0, 1, 2, 3, 4] dX7_dry_29 rfl rfl ⟨by decide, by decide⟩ ⟨by (try dsimp only); all_goals (intro q; exact h26_1 ⟨by omega, q⟩), by (try dsimp only); all_goals (intro q; exact h26_2 (fun r => q r.2))⟩
  · exfalso; omega

set_option maxHeartbeats 4000000 in
set_option maxRecDepth 100000 in
theorem t_X7_dry_1 (lx : Launch) (hfl : lx.stackTraces = false) (D : va_G) (cs : Nat → ClassId) (ag : Nat) (al : Nat) (aw : Nat → Nat) (wide : Int) (high : Int) (border : Int) (pattern : Int) (hour : Int) (grt : Int) (beg : Int) (laid : Int → Int) (dryh : Int → Int) (ab : Nat → Nat) (ap : Nat → Nat) (ac : Nat → Nat) (ak : Nat → Nat) (af : Nat) (x : Int) (r1 : -2147483648 ≤ x ∧ x < 2147483648) (hh : 1 ≤ high ∧ high ≤ 4) (hb : 0 ≤ border ∧ border ≤ 2) (hno : ¬ (0 ≤ x ∧ x < nS high border)) : Xt lx D cs yX7_dry wsX7_dry ({ frames := 6, cells := 1, slots := 6, locals := 127 }) [.ref ag, .int (iI x)] [oG ag al (ab 0) (ap 0) (ac 0) (ak 0) (aw 0) af, oL al wide high border pattern, oW aw hour grt beg, aC (cs 1) (aw 1) 8 laid, aC (cs 0) (aw 2) 8 dryh] IOE 1 6 := by
  refine Xt_of (cc := cX7_dry) (nL := 2) (ret := (some .int)) (lv0 := [(0, .ref ag), (1, .int (iI x))]) RX7 "dry" (by decide +kernel) rfl (Nat.le_of_ble_eq_true rfl) rfl (fun p9 e9 s9 m9 ar9 be9 me9 c9 A9 Q9 hQ hC hT htab => ?_)
  have iX7 : ∀ w ∈ wsX70, w ∈ wsX7_dry := by decide +kernel
  have L0 : Cond.fieldLink RX7 12 "Groutline" "layout" "LGroutline$Layout;" ∈ wsX7_dry := by decide +kernel
  have L1 : Cond.classLink RX7 97 IOE ∈ wsX7_dry := by decide +kernel
  have L2 : Cond.initialized IOE ∈ wsX7_dry := by decide +kernel
  refine v_aload_n hC 1 0 dX7_dry_0 rfl rfl rfl ?_
  refine v_get hC 4 0 0 (C := RX7) (T := TX7) (N := 7) dX7_dry_1 rfl iX7 L0 rfl rfl (by decide) rfl ?_
  refine v_iload_n hC 5 1 dX7_dry_4 rfl rfl rfl ?_
  refine v_callVi hC 8 1 [1] [0, 2, 3, 4] [oG ag al (ab 0) (ap 0) (ac 0) (ak 0) (aw 0) af, oW aw hour grt beg, aC (cs 1) (aw 1) 8 laid, aC (cs 0) (aw 2) 8 dryh] (As := [.int (iI x)]) (rest := []) (c_X3_hasStrip lx D cs al wide high border pattern x (by omega) (by omega) (by omega)) dX7_dry_5 rfl rfl 1 rfl rfl gX7_dry_X3_hasStrip rfl rfl rfl (by decide +kernel) ⟨by decide, by decide⟩ rfl rfl rfl rfl (by decide) rfl (Nat.le_of_ble_eq_true rfl) ⟨rfl, rfl⟩ ⟨by decide, by decide⟩ (fun z5 u5 h5 => ?_)
  (try dsimp only at h5)
  obtain ⟨h5_1, h5_2⟩ := h5
  show V p9 lx e9 ({ frames := 6, cells := 1, slots := 6, locals := 127 }) s9 m9 ar9 be9 me9 c9 Q9 D A9 s9.heap 2 0 0 [oG ag al (ab 0) (ap 0) (ac 0) (ak 0) (aw 0) af, oW aw hour grt beg, aC (cs 1) (aw 1) 8 laid, aC (cs 0) (aw 2) 8 dryh, oL al wide high border pattern] [(0, .ref ag), (1, .int (iI x))] 8 [.int (iI z5)]
  refine v_if_ne hC 21 11 dX7_dry_8 (by decide) rfl (by omega) (fun c_8 => ?_) (fun c_8 => ?_)
  · skip
    exfalso; omega
  · skip
    exact v_throw (ik := 97) (is := 189) (ic := 101) (E := IOE) (text := "no such strip") hC hfl hT htab hQ dX7_dry_11 dX7_dry_14 dX7_dry_15 dX7_dry_17 dX7_dry_20 thr_fitIOE L1 L2 (by decide +kernel) (by decide +kernel) thr_a101 thr_g97_101 [0, 4, 1, 2, 3] rfl ⟨by decide, Nat.le_of_ble_eq_true rfl, by decide, by decide⟩ ⟨by decide, by decide⟩

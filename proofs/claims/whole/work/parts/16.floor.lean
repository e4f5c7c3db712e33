set_option maxHeartbeats 4000000 in
set_option maxRecDepth 100000 in
theorem c_X7_tiles (lx : Launch) (D : va_G) (cs : Nat → ClassId) (ag : Nat) (ac : Nat → Nat) (nt : Int) (rc : Int) (src : Int → Int) (rw : Int → Int) (rh : Int → Int) (rmk : Int → Int) (al : Nat) (ab : Nat → Nat) (ap : Nat → Nat) (ak : Nat → Nat) (aw : Nat → Nat) (af : Nat)  : Ci lx D cs yX7_tiles wsX7_tiles ({ frames := 1, cells := 0, slots := 0, locals := 24 }) [.ref ag] [oG ag al (ab 0) (ap 0) (ac 0) (ak 0) (aw 0) af, oC ac nt rc, aC (cs 0) (ac 1) 96 src, aC (cs 0) (ac 2) 96 rw, aC (cs 0) (ac 3) 96 rh, aC (cs 0) (ac 4) 96 rmk] (fun (z : Int) (u : Unit) => (z = nt)) (fun u : Unit => [oG ag al (ab 0) (ap 0) (ac 0) (ak 0) (aw 0) af, oC ac nt rc, aC (cs 0) (ac 1) 96 src, aC (cs 0) (ac 2) 96 rw, aC (cs 0) (ac 3) 96 rh, aC (cs 0) (ac 4) 96 rmk]) 0 0 := by
  refine Ci_of (cc := cX7_tiles) (nL := 1) (ret := (some .int)) (lv0 := [(0, .ref ag)]) RX7 "tiles" (by decide +kernel) rfl (Nat.le_of_ble_eq_true rfl) rfl (fun p9 e9 s9 m9 ar9 be9 me9 c9 A9 Q9 hQ hC => ?_)
  have iX7 : ∀ w ∈ wsX70, w ∈ wsX7_tiles := by decide +kernel
  have iX1 : ∀ w ∈ wsX10, w ∈ wsX7_tiles := by decide +kernel
  have L0 : Cond.fieldLink RX7 33 "Groutline" "cuts" "LGroutline$Cuts;" ∈ wsX7_tiles := by decide +kernel
  have L1 : Cond.fieldLink RX7 149 "Groutline$Cuts" "newTiles" "I" ∈ wsX7_tiles := by decide +kernel
  refine v_aload_n hC 1 0 dX7_tiles_0 rfl rfl rfl ?_
  refine v_get hC 4 0 3 (C := RX7) (T := TX7) (N := 7) dX7_tiles_1 rfl iX7 L0 rfl rfl (by decide) rfl ?_
  refine v_get hC 7 1 0 (C := RX1) (T := TX1) (N := 6) dX7_tiles_4 rfl iX1 L1 rfl rfl (by decide) rfl ?_
  exact v_iret hC hQ () [0, 1, 2, 3, 4, 5] dX7_tiles_7 rfl rfl ⟨by decide, by decide⟩ (by (try dsimp only); all_goals (first | rfl | omega))

set_option maxHeartbeats 4000000 in
set_option maxRecDepth 100000 in
theorem c_X7_moves (lx : Launch) (D : va_G) (cs : Nat → ClassId) (ag : Nat) (ak : Nat → Nat) (kc : Int) (km : Int) (kf : Int → Int) (kt : Int → Int) (al : Nat) (ab : Nat → Nat) (ap : Nat → Nat) (ac : Nat → Nat) (aw : Nat → Nat) (af : Nat)  : Ci lx D cs yX7_moves wsX7_moves ({ frames := 1, cells := 0, slots := 0, locals := 24 }) [.ref ag] [oG ag al (ab 0) (ap 0) (ac 0) (ak 0) (aw 0) af, oK ak kc km, aC (cs 0) (ak 1) 20 kf, aC (cs 0) (ak 2) 20 kt] (fun (z : Int) (u : Unit) => (z = km)) (fun u : Unit => [oG ag al (ab 0) (ap 0) (ac 0) (ak 0) (aw 0) af, oK ak kc km, aC (cs 0) (ak 1) 20 kf, aC (cs 0) (ak 2) 20 kt]) 0 0 := by
  refine Ci_of (cc := cX7_moves) (nL := 1) (ret := (some .int)) (lv0 := [(0, .ref ag)]) RX7 "moves" (by decide +kernel) rfl (Nat.le_of_ble_eq_true rfl) rfl (fun p9 e9 s9 m9 ar9 be9 me9 c9 A9 Q9 hQ hC => ?_)
  have iX7 : ∀ w ∈ wsX70, w ∈ wsX7_moves := by decide +kernel
  have iX5 : ∀ w ∈ wsX50, w ∈ wsX7_moves := by decide +kernel
  have L0 : Cond.fieldLink RX7 40 "Groutline" "stack" "LGroutline$Stack;" ∈ wsX7_moves := by decide +kernel
  have L1 : Cond.fieldLink RX7 178 "Groutline$Stack" "moved" "I" ∈ wsX7_moves := by decide +kernel
  refine v_aload_n hC 1 0 dX7_moves_0 rfl rfl rfl ?_
  refine v_get hC 4 0 4 (C := RX7) (T := TX7) (N := 7) dX7_moves_1 rfl iX7 L0 rfl rfl (by decide) rfl ?_
  refine v_get hC 7 1 1 (C := RX5) (T := TX5) (N := 4) dX7_moves_4 rfl iX5 L1 rfl rfl (by decide) rfl ?_
  exact v_iret hC hQ () [0, 1, 2, 3] dX7_moves_7 rfl rfl ⟨by decide, by decide⟩ (by (try dsimp only); all_goals (first | rfl | omega))

set_option maxHeartbeats 4000000 in
set_option maxRecDepth 100000 in
theorem c_X7_strips (lx : Launch) (D : va_G) (cs : Nat → ClassId) (ag : Nat) (al : Nat) (wide : Int) (high : Int) (border : Int) (pattern : Int) (ab : Nat → Nat) (ap : Nat → Nat) (ac : Nat → Nat) (ak : Nat → Nat) (aw : Nat → Nat) (af : Nat) (hh : 1 ≤ high ∧ high ≤ 4) (hb : 0 ≤ border ∧ border ≤ 2) : Ci lx D cs yX7_strips wsX7_strips ({ frames := 5, cells := 0, slots := 0, locals := 106 }) [.ref ag] [oG ag al (ab 0) (ap 0) (ac 0) (ak 0) (aw 0) af, oL al wide high border pattern] (fun (z : Int) (u : Unit) => (z = nS high border)) (fun u : Unit => [oG ag al (ab 0) (ap 0) (ac 0) (ak 0) (aw 0) af, oL al wide high border pattern]) 0 0 := by
  refine Ci_of (cc := cX7_strips) (nL := 1) (ret := (some .int)) (lv0 := [(0, .ref ag)]) RX7 "strips" (by decide +kernel) rfl (Nat.le_of_ble_eq_true rfl) rfl (fun p9 e9 s9 m9 ar9 be9 me9 c9 A9 Q9 hQ hC => ?_)
  have iX7 : ∀ w ∈ wsX70, w ∈ wsX7_strips := by decide +kernel
  have L0 : Cond.fieldLink RX7 12 "Groutline" "layout" "LGroutline$Layout;" ∈ wsX7_strips := by decide +kernel
  refine v_aload_n hC 1 0 dX7_strips_0 rfl rfl rfl ?_
  refine v_get hC 4 0 0 (C := RX7) (T := TX7) (N := 7) dX7_strips_1 rfl iX7 L0 rfl rfl (by decide) rfl ?_
  refine v_callVi hC 7 0 [1] [0] [oG ag al (ab 0) (ap 0) (ac 0) (ak 0) (aw 0) af] (As := []) (rest := []) (c_X3_countStrips lx D cs al wide high border pattern (by omega) (by omega)) dX7_strips_4 rfl rfl 1 rfl rfl gX7_strips_X3_countStrips rfl rfl rfl (by decide +kernel) ⟨by decide, by decide⟩ rfl rfl rfl rfl (by decide) rfl (Nat.le_of_ble_eq_true rfl) ⟨rfl, rfl⟩ ⟨by decide, by decide⟩ (fun z4 u4 h4 => ?_)
  (try dsimp only at h4)
  subst h4
  show V p9 lx e9 ({ frames := 5, cells := 0, slots := 0, locals := 106 }) s9 m9 ar9 be9 me9 c9 Q9 D A9 s9.heap 1 0 0 [oG ag al (ab 0) (ap 0) (ac 0) (ak 0) (aw 0) af, oL al wide high border pattern] [(0, .ref ag)] 7 [.int (iI (nS high border))]
  exact v_iret hC hQ () [0, 1] dX7_strips_7 rfl rfl ⟨by decide, by decide⟩ (by (try dsimp only); all_goals (first | rfl | omega))

set_option maxHeartbeats 4000000 in
set_option maxRecDepth 100000 in
theorem c_X7_renew (lx : Launch) (D : va_G) (cs : Nat → ClassId) (ag : Nat) (al : Nat) (ab : Nat → Nat) (ap : Nat → Nat) (ac : Nat → Nat) (aw : Nat → Nat) (wide : Int) (high : Int) (border : Int) (pattern : Int) (door : Int) (pil : Int → Int) (bar : Int → Int) (cnt : Int) (ofc : Int → Int) (knd : Int → Int) (col : Int → Int) (row : Int → Int) (siz : Int → Int) (bw : Int → Int) (bh : Int → Int) (fl : Int) (fr : Int) (ft : Int) (fb : Int) (nt : Int) (rc : Int) (src : Int → Int) (rw : Int → Int) (rh : Int → Int) (rmk : Int → Int) (hour : Int) (grt : Int) (beg : Int) (laid : Int → Int) (dryh : Int → Int) (ak : Nat → Nat) (af : Nat) (hw : 1 ≤ wide ∧ wide ≤ 4) (hh : 1 ≤ high ∧ high ≤ 4) (hb : 0 ≤ border ∧ border ≤ 2) (hp : 0 ≤ pattern ∧ pattern ≤ 1) (hd : 0 ≤ door ∧ door ≤ 10) (hpil : Rn pil 0 1) (hbar : Rn bar 0 1) (hlaid : Rn laid 0 1) (hknd : Rn knd 0 2) (hR : Rok (rc, rw, rh, rmk) 96) : Cv lx D cs yX7_renew wsX7_renew ({ frames := 6, cells := 0, slots := 0, locals := 146 }) [.ref ag] [oG ag al (ab 0) (ap 0) (ac 0) (ak 0) (aw 0) af, oL al wide high border pattern, oB ab door, aC (cs 1) (ab 1) 96 pil, aC (cs 1) (ab 2) 96 bar, oP ap cnt, aC (cs 0) (ap 1) 96 ofc, aC (cs 0) (ap 2) 96 knd, aC (cs 0) (ap 3) 96 col, aC (cs 0) (ap 4) 96 row, aC (cs 0) (ap 5) 96 siz, aC (cs 0) (ap 6) 96 bw, aC (cs 0) (ap 7) 96 bh, oF (ap 8) fl fr ft fb, oC ac nt rc, aC (cs 0) (ac 1) 96 src, aC (cs 0) (ac 2) 96 rw, aC (cs 0) (ac 3) 96 rh, aC (cs 0) (ac 4) 96 rmk, oW aw hour grt beg, aC (cs 1) (aw 1) 8 laid, aC (cs 0) (aw 2) 8 dryh] (fun (u : (Int → Int) × Int × (Int → Int) × (Int → Int) × (Int → Int) × (Int → Int) × (Int → Int) × (Int → Int) × (Int → Int) × Int × Int × Int × Int × Int × Int × (Int → Int) × (Int → Int) × (Int → Int) × (Int → Int)) => (u.1 = rnw pil bar laid door high border 8) ∧ (PFI wide high border pattern u.1 96 u.2.1 u.2.2.1 u.2.2.2.1 u.2.2.2.2.1 u.2.2.2.2.2.1 u.2.2.2.2.2.2.1 u.2.2.2.2.2.2.2.1 u.2.2.2.2.2.2.2.2.1) ∧ (Rn u.2.2.2.1 0 2) ∧ (((u.2.2.2.2.2.2.2.2.2.2.2.2.2.2.1, u.2.2.2.2.2.2.2.2.2.2.2.2.2.2.2.1, u.2.2.2.2.2.2.2.2.2.2.2.2.2.2.2.2.1, u.2.2.2.2.2.2.2.2.2.2.2.2.2.2.2.2.2.1) : Rs) = ctR wide high u.2.2.2.1 u.2.2.2.2.2.2.2.1 u.2.2.2.2.2.2.2.2.1 (rc, rw, rh, rmk) u.2.1.toNat) ∧ (u.2.2.2.2.2.2.2.2.2.2.2.2.2.1 = ctT wide high u.2.2.2.1 u.2.2.2.2.2.2.2.1 u.2.2.2.2.2.2.2.2.1 (rc, rw, rh, rmk) u.2.1.toNat) ∧ (∀ j : Int, 0 ≤ j → j < u.2.1 → u.2.2.2.2.2.2.2.2.2.2.2.2.2.2.2.2.2.2 j = ctS wide high u.2.2.2.1 u.2.2.2.2.2.2.2.1 u.2.2.2.2.2.2.2.2.1 (rc, rw, rh, rmk) j.toNat) ∧ (0 ≤ u.2.1 ∧ u.2.1 ≤ 96)) (fun u : (Int → Int) × Int × (Int → Int) × (Int → Int) × (Int → Int) × (Int → Int) × (Int → Int) × (Int → Int) × (Int → Int) × Int × Int × Int × Int × Int × Int × (Int → Int) × (Int → Int) × (Int → Int) × (Int → Int) => [oG ag al (ab 0) (ap 0) (ac 0) (ak 0) (aw 0) af, oL al wide high border pattern, oB ab door, aC (cs 1) (ab 1) 96 pil, aC (cs 1) (ab 2) 96 u.1, oP ap u.2.1, aC (cs 0) (ap 1) 96 u.2.2.1, aC (cs 0) (ap 2) 96 u.2.2.2.1, aC (cs 0) (ap 3) 96 u.2.2.2.2.1, aC (cs 0) (ap 4) 96 u.2.2.2.2.2.1, aC (cs 0) (ap 5) 96 u.2.2.2.2.2.2.1, aC (cs 0) (ap 6) 96 u.2.2.2.2.2.2.2.1, aC (cs 0) (ap 7) 96 u.2.2.2.2.2.2.2.2.1, oF (ap 8) u.2.2.2.2.2.2.2.2.2.1 u.2.2.2.2.2.2.2.2.2.2.1 u.2.2.2.2.2.2.2.2.2.2.2.1 u.2.2.2.2.2.2.2.2.2.2.2.2.1, oC ac u.2.2.2.2.2.2.2.2.2.2.2.2.2.1 u.2.2.2.2.2.2.2.2.2.2.2.2.2.2.1, aC (cs 0) (ac 1) 96 u.2.2.2.2.2.2.2.2.2.2.2.2.2.2.2.2.2.2, aC (cs 0) (ac 2) 96 u.2.2.2.2.2.2.2.2.2.2.2.2.2.2.2.1, aC (cs 0) (ac 3) 96 u.2.2.2.2.2.2.2.2.2.2.2.2.2.2.2.2.1, aC (cs 0) (ac 4) 96 u.2.2.2.2.2.2.2.2.2.2.2.2.2.2.2.2.2.1, oW aw hour grt beg, aC (cs 1) (aw 1) 8 laid, aC (cs 0) (aw 2) 8 dryh]) 0 0 := by
  refine Cv_of (cc := cX7_renew) (nL := 1) (ret := none) (lv0 := [(0, .ref ag)]) RX7 "renew" (by decide +kernel) rfl (Nat.le_of_ble_eq_true rfl) rfl (fun p9 e9 s9 m9 ar9 be9 me9 c9 A9 Q9 hQ hC => ?_)
  have iX7 : ∀ w ∈ wsX70, w ∈ wsX7_renew := by decide +kernel
  have L0 : Cond.fieldLink RX7 19 "Groutline" "bars" "LGroutline$Bars;" ∈ wsX7_renew := by decide +kernel
  have L1 : Cond.fieldLink RX7 12 "Groutline" "layout" "LGroutline$Layout;" ∈ wsX7_renew := by decide +kernel
  have L2 : Cond.fieldLink RX7 47 "Groutline" "work" "LGroutline$Work;" ∈ wsX7_renew := by decide +kernel
  have L3 : Cond.fieldLink RX7 26 "Groutline" "pieces" "LGroutline$Pieces;" ∈ wsX7_renew := by decide +kernel
  have L4 : Cond.fieldLink RX7 33 "Groutline" "cuts" "LGroutline$Cuts;" ∈ wsX7_renew := by decide +kernel
  refine v_aload_n hC 1 0 dX7_renew_0 rfl rfl rfl ?_
  refine v_get hC 4 0 1 (C := RX7) (T := TX7) (N := 7) dX7_renew_1 rfl iX7 L0 rfl rfl (by decide) rfl ?_
  refine v_aload_n hC 5 0 dX7_renew_4 rfl rfl rfl ?_
  refine v_get hC 8 0 0 (C := RX7) (T := TX7) (N := 7) dX7_renew_5 rfl iX7 L1 rfl rfl (by decide) rfl ?_
  refine v_aload_n hC 9 0 dX7_renew_8 rfl rfl rfl ?_
  refine v_get hC 12 0 5 (C := RX7) (T := TX7) (N := 7) dX7_renew_9 rfl iX7 L2 rfl rfl (by decide) rfl ?_
  refine v_callVv hC 15 2 [2, 3, 4, 1, 19, 20, 21] [0, 5, 6, 7, 8, 9, 10, 11, 12, 13, 14, 15, 16, 17, 18] [oG ag al (ab 0) (ap 0) (ac 0) (ak 0) (aw 0) af, oP ap cnt, aC (cs 0) (ap 1) 96 ofc, aC (cs 0) (ap 2) 96 knd, aC (cs 0) (ap 3) 96 col, aC (cs 0) (ap 4) 96 row, aC (cs 0) (ap 5) 96 siz, aC (cs 0) (ap 6) 96 bw, aC (cs 0) (ap 7) 96 bh, oF (ap 8) fl fr ft fb, oC ac nt rc, aC (cs 0) (ac 1) 96 src, aC (cs 0) (ac 2) 96 rw, aC (cs 0) (ac 3) 96 rh, aC (cs 0) (ac 4) 96 rmk] (As := [.ref al, .ref (aw 0)]) (rest := []) (c_X0_renew lx D cs ab al aw door pil bar wide high border pattern hour grt beg laid dryh (by omega) (by omega) (by omega) (by assumption) (by assumption)) dX7_renew_12 rfl rfl 2 rfl rfl gX7_renew_X0_renew rfl rfl rfl (by decide +kernel) ⟨by decide, by decide⟩ rfl rfl rfl rfl (by decide) rfl (Nat.le_of_ble_eq_true rfl) ⟨rfl, rfl⟩ ⟨by decide, by decide⟩ (fun u12 h12 => ?_)
  obtain ⟨bar1_12, rfl⟩ : ∃ y9, y9 = u12 := ⟨_, rfl⟩
  (try dsimp only at h12)
  show V p9 lx e9 ({ frames := 6, cells := 0, slots := 0, locals := 146 }) s9 m9 ar9 be9 me9 c9 Q9 D A9 s9.heap 1 0 0 [oG ag al (ab 0) (ap 0) (ac 0) (ak 0) (aw 0) af, oP ap cnt, aC (cs 0) (ap 1) 96 ofc, aC (cs 0) (ap 2) 96 knd, aC (cs 0) (ap 3) 96 col, aC (cs 0) (ap 4) 96 row, aC (cs 0) (ap 5) 96 siz, aC (cs 0) (ap 6) 96 bw, aC (cs 0) (ap 7) 96 bh, oF (ap 8) fl fr ft fb, oC ac nt rc, aC (cs 0) (ac 1) 96 src, aC (cs 0) (ac 2) 96 rw, aC (cs 0) (ac 3) 96 rh, aC (cs 0) (ac 4) 96 rmk, oB ab door, aC (cs 1) (ab 1) 96 pil, aC (cs 1) (ab 2) 96 bar1_12, oL al wide high border pattern, oW aw hour grt beg, aC (cs 1) (aw 1) 8 laid, aC (cs 0) (aw 2) 8 dryh] [(0, .ref ag)] 15 []
  refine v_aload_n hC 16 0 dX7_renew_15 rfl rfl rfl ?_
  refine v_get hC 19 0 2 (C := RX7) (T := TX7) (N := 7) dX7_renew_16 rfl iX7 L3 rfl rfl (by decide) rfl ?_
  refine v_aload_n hC 20 0 dX7_renew_19 rfl rfl rfl ?_
  refine v_get hC 23 0 0 (C := RX7) (T := TX7) (N := 7) dX7_renew_20 rfl iX7 L1 rfl rfl (by decide) rfl ?_
  refine v_aload_n hC 24 0 dX7_renew_23 rfl rfl rfl ?_
  refine v_get hC 27 0 1 (C := RX7) (T := TX7) (N := 7) dX7_renew_24 rfl iX7 L0 rfl rfl (by decide) rfl ?_
  refine v_callVv hC 30 2 [1, 2, 3, 4, 5, 6, 7, 8, 18, 15, 16, 17, 9] [0, 10, 11, 12, 13, 14, 19, 20, 21] [oG ag al (ab 0) (ap 0) (ac 0) (ak 0) (aw 0) af, oC ac nt rc, aC (cs 0) (ac 1) 96 src, aC (cs 0) (ac 2) 96 rw, aC (cs 0) (ac 3) 96 rh, aC (cs 0) (ac 4) 96 rmk, oW aw hour grt beg, aC (cs 1) (aw 1) 8 laid, aC (cs 0) (aw 2) 8 dryh] (As := [.ref al, .ref (ab 0)]) (rest := []) (c_X4_find lx D cs ap al ab cnt ofc knd col row siz bw bh wide high border pattern door pil bar1_12 fl fr ft fb (by omega) (by omega) (by omega) (by omega) (by rw [h12]; exact Rn_rnw hbar) (by assumption)) dX7_renew_27 rfl rfl 1 rfl rfl gX7_renew_X4_find rfl rfl rfl (by decide +kernel) ⟨by decide, by decide⟩ rfl rfl rfl rfl (by decide) rfl (Nat.le_of_ble_eq_true rfl) ⟨rfl, rfl⟩ ⟨by decide, by decide⟩ (fun u27 h27 => ?_)
  obtain ⟨cnt1_27, ofc1_27, knd1_27, col1_27, row1_27, siz1_27, bw1_27, bh1_27, fl1_27, fr1_27, ft1_27, fb1_27⟩ := u27
  (try dsimp only at h27)
  obtain ⟨h27_1, h27_2⟩ := h27
  have hd9 := PFI_dim hw hh hb h27_1
  show V p9 lx e9 ({ frames := 6, cells := 0, slots := 0, locals := 146 }) s9 m9 ar9 be9 me9 c9 Q9 D A9 s9.heap 1 0 0 [oG ag al (ab 0) (ap 0) (ac 0) (ak 0) (aw 0) af, oC ac nt rc, aC (cs 0) (ac 1) 96 src, aC (cs 0) (ac 2) 96 rw, aC (cs 0) (ac 3) 96 rh, aC (cs 0) (ac 4) 96 rmk, oW aw hour grt beg, aC (cs 1) (aw 1) 8 laid, aC (cs 0) (aw 2) 8 dryh, oP ap cnt1_27, aC (cs 0) (ap 1) 96 ofc1_27, aC (cs 0) (ap 2) 96 knd1_27, aC (cs 0) (ap 3) 96 col1_27, aC (cs 0) (ap 4) 96 row1_27, aC (cs 0) (ap 5) 96 siz1_27, aC (cs 0) (ap 6) 96 bw1_27, aC (cs 0) (ap 7) 96 bh1_27, oL al wide high border pattern, oB ab door, aC (cs 1) (ab 1) 96 pil, aC (cs 1) (ab 2) 96 bar1_12, oF (ap 8) fl1_27 fr1_27 ft1_27 fb1_27] [(0, .ref ag)] 30 []
  refine v_aload_n hC 31 0 dX7_renew_30 rfl rfl rfl ?_
  refine v_get hC 34 0 3 (C := RX7) (T := TX7) (N := 7) dX7_renew_31 rfl iX7 L4 rfl rfl (by decide) rfl ?_
  refine v_aload_n hC 35 0 dX7_renew_34 rfl rfl rfl ?_
  refine v_get hC 38 0 0 (C := RX7) (T := TX7) (N := 7) dX7_renew_35 rfl iX7 L1 rfl rfl (by decide) rfl ?_
  refine v_aload_n hC 39 0 dX7_renew_38 rfl rfl rfl ?_
  refine v_get hC 42 0 2 (C := RX7) (T := TX7) (N := 7) dX7_renew_39 rfl iX7 L3 rfl rfl (by decide) rfl ?_
  refine v_callVv hC 45 2 [1, 2, 3, 4, 5, 17, 9, 10, 11, 12, 13, 14, 15, 16] [0, 6, 7, 8, 18, 19, 20, 21] [oG ag al (ab 0) (ap 0) (ac 0) (ak 0) (aw 0) af, oW aw hour grt beg, aC (cs 1) (aw 1) 8 laid, aC (cs 0) (aw 2) 8 dryh, oB ab door, aC (cs 1) (ab 1) 96 pil, aC (cs 1) (ab 2) 96 bar1_12, oF (ap 8) fl1_27 fr1_27 ft1_27 fb1_27] (As := [.ref al, .ref (ap 0)]) (rest := []) (c_X1_cutAll lx D cs ac al ap nt rc src rw rh rmk wide high border pattern cnt1_27 ofc1_27 knd1_27 col1_27 row1_27 siz1_27 bw1_27 bh1_27 (by omega) (by omega) (by exact hd9.1) (by exact hR) (by exact h27_2) (by intro j h1 h2 h3; exact (hd9.2 j h1 h2).2.2.2 h3)) dX7_renew_42 rfl rfl 1 rfl rfl gX7_renew_X1_cutAll rfl rfl rfl (by decide +kernel) ⟨by decide, by decide⟩ rfl rfl rfl rfl (by decide) rfl (Nat.le_of_ble_eq_true rfl) ⟨rfl, rfl⟩ ⟨by decide, by decide⟩ (fun u42 h42 => ?_)
  obtain ⟨nt1_42, rc1_42, rw1_42, rh1_42, rm1_42, src1_42⟩ := u42
  (try dsimp only at h42)
  obtain ⟨h42_1, h42_2, h42_3⟩ := h42
  show V p9 lx e9 ({ frames := 6, cells := 0, slots := 0, locals := 146 }) s9 m9 ar9 be9 me9 c9 Q9 D A9 s9.heap 1 0 0 [oG ag al (ab 0) (ap 0) (ac 0) (ak 0) (aw 0) af, oW aw hour grt beg, aC (cs 1) (aw 1) 8 laid, aC (cs 0) (aw 2) 8 dryh, oB ab door, aC (cs 1) (ab 1) 96 pil, aC (cs 1) (ab 2) 96 bar1_12, oF (ap 8) fl1_27 fr1_27 ft1_27 fb1_27, oC ac nt1_42 rc1_42, aC (cs 0) (ac 1) 96 src1_42, aC (cs 0) (ac 2) 96 rw1_42, aC (cs 0) (ac 3) 96 rh1_42, aC (cs 0) (ac 4) 96 rm1_42, oL al wide high border pattern, oP ap cnt1_27, aC (cs 0) (ap 1) 96 ofc1_27, aC (cs 0) (ap 2) 96 knd1_27, aC (cs 0) (ap 3) 96 col1_27, aC (cs 0) (ap 4) 96 row1_27, aC (cs 0) (ap 5) 96 siz1_27, aC (cs 0) (ap 6) 96 bw1_27, aC (cs 0) (ap 7) 96 bh1_27] [(0, .ref ag)] 45 []
  exact v_vret hC hQ (bar1_12, cnt1_27, ofc1_27, knd1_27, col1_27, row1_27, siz1_27, bw1_27, bh1_27, fl1_27, fr1_27, ft1_27, fb1_27, nt1_42, rc1_42, rw1_42, rh1_42, rm1_42, src1_42) [0, 13, 4, 5, 6, 14, 15, 16, 17, 18, 19, 20, 21, 7, 8, 9, 10, 11, 12, 1, 2, 3] dX7_renew_45 rfl rfl ⟨by decide, by decide⟩ ⟨by (try dsimp only); all_goals (exact h12), by (try dsimp only); all_goals (exact h27_1), by (try dsimp only); all_goals (exact h27_2), by (try dsimp only); all_goals (exact h42_1), by (try dsimp only); all_goals (exact h42_2), by (try dsimp only); all_goals (exact h42_3), by (try dsimp only); all_goals (exact hd9.1)⟩

set_option maxHeartbeats 4000000 in
set_option maxRecDepth 100000 in
theorem c_X7_piecesOfStrip (lx : Launch) (D : va_G) (cs : Nat → ClassId) (ag : Nat) (al : Nat) (ap : Nat → Nat) (wide : Int) (high : Int) (border : Int) (pattern : Int) (cnt : Int) (ofc : Int → Int) (knd : Int → Int) (col : Int → Int) (row : Int → Int) (siz : Int → Int) (bw : Int → Int) (bh : Int → Int) (ab : Nat → Nat) (ac : Nat → Nat) (ak : Nat → Nat) (aw : Nat → Nat) (af : Nat) (x : Int) (hh : 1 ≤ high ∧ high ≤ 4) (hb : 0 ≤ border ∧ border ≤ 2) (hcnt : 0 ≤ cnt ∧ cnt ≤ 96) (hrow : ∀ j : Int, 0 ≤ j → j < cnt → 0 ≤ row j ∧ row j < 8) (hx : -2147483648 ≤ x ∧ x < 2147483648) : Ci lx D cs yX7_piecesOfStrip wsX7_piecesOfStrip ({ frames := 5, cells := 0, slots := 0, locals := 107 }) [.ref ag, .int (iI x)] [oG ag al (ab 0) (ap 0) (ac 0) (ak 0) (aw 0) af, oL al wide high border pattern, oP ap cnt, aC (cs 0) (ap 1) 96 ofc, aC (cs 0) (ap 2) 96 knd, aC (cs 0) (ap 3) 96 col, aC (cs 0) (ap 4) 96 row, aC (cs 0) (ap 5) 96 siz, aC (cs 0) (ap 6) 96 bw, aC (cs 0) (ap 7) 96 bh] (fun (z : Int) (u : Unit) => (z = pcn high border row x cnt.toNat)) (fun u : Unit => [oG ag al (ab 0) (ap 0) (ac 0) (ak 0) (aw 0) af, oL al wide high border pattern, oP ap cnt, aC (cs 0) (ap 1) 96 ofc, aC (cs 0) (ap 2) 96 knd, aC (cs 0) (ap 3) 96 col, aC (cs 0) (ap 4) 96 row, aC (cs 0) (ap 5) 96 siz, aC (cs 0) (ap 6) 96 bw, aC (cs 0) (ap 7) 96 bh]) 0 0 := by
  refine Ci_of (cc := cX7_piecesOfStrip) (nL := 4) (ret := (some .int)) (lv0 := [(0, .ref ag), (1, .int (iI x))]) RX7 "piecesOfStrip" (by decide +kernel) rfl (Nat.le_of_ble_eq_true rfl) rfl (fun p9 e9 s9 m9 ar9 be9 me9 c9 A9 Q9 hQ hC => ?_)
  have iX7 : ∀ w ∈ wsX70, w ∈ wsX7_piecesOfStrip := by decide +kernel
  have iX4 : ∀ w ∈ wsX40, w ∈ wsX7_piecesOfStrip := by decide +kernel
  have L0 : Cond.fieldLink RX7 26 "Groutline" "pieces" "LGroutline$Pieces;" ∈ wsX7_piecesOfStrip := by decide +kernel
  have L1 : Cond.fieldLink RX7 12 "Groutline" "layout" "LGroutline$Layout;" ∈ wsX7_piecesOfStrip := by decide +kernel
  have L2 : Cond.fieldLink RX7 126 "Groutline$Pieces" "rows" "[I" ∈ wsX7_piecesOfStrip := by decide +kernel
  refine v_iconst hC 1 dX7_piecesOfStrip_0 rfl ?_
  refine v_istore_n hC 2 [(2, .int (iI 0)), (0, .ref ag), (1, .int (iI x))] dX7_piecesOfStrip_1 rfl rfl (by decide) rfl ?_
  refine v_iconst hC 3 dX7_piecesOfStrip_2 rfl ?_
  refine v_istore_n hC 4 [(3, .int (iI 0)), (2, .int (iI 0)), (0, .ref ag), (1, .int (iI x))] dX7_piecesOfStrip_3 rfl rfl (by decide) rfl ?_
  have cut_4 : ∀ (n : Nat) (found : Int) (i : Int), (0 ≤ i ∧ i ≤ 96) → (0 ≤ found ∧ found ≤ i) → (found = pcn high border row x (min i cnt).toNat) → (96 - i < (n : Int)) → V p9 lx e9 ({ frames := 5, cells := 0, slots := 0, locals := 107 }) s9 m9 ar9 be9 me9 c9 Q9 D A9 s9.heap 4 0 0 [oG ag al (ab 0) (ap 0) (ac 0) (ak 0) (aw 0) af, oL al wide high border pattern, oP ap cnt, aC (cs 0) (ap 1) 96 ofc, aC (cs 0) (ap 2) 96 knd, aC (cs 0) (ap 3) 96 col, aC (cs 0) (ap 4) 96 row, aC (cs 0) (ap 5) 96 siz, aC (cs 0) (ap 6) 96 bw, aC (cs 0) (ap 7) 96 bh] [(0, .ref ag), (1, .int (iI x)), (2, .int (iI found)), (3, .int (iI i))] 4 [] := by
    intro n
    induction n with
    | zero =>
      intro found i hi hf0 hf hn
      exfalso; omega
    | succ n ih =>
      intro found i hi hf0 hf hn
      have ih_4 := ih
      clear ih
      refine v_iload_n hC 5 3 dX7_piecesOfStrip_4 rfl rfl rfl ?_
      refine v_bipush hC 7 dX7_piecesOfStrip_5 rfl rfl ?_
      refine v_icmp_ge hC 50 10 dX7_piecesOfStrip_7 (by decide) rfl (by omega) (by omega) (fun c_7 => ?_) (fun c_7 => ?_)
      · skip
        refine v_iload_n hC 51 2 dX7_piecesOfStrip_50 rfl rfl rfl ?_
        exact v_iret hC hQ () [0, 1, 2, 3, 4, 5, 6, 7, 8, 9] dX7_piecesOfStrip_51 rfl rfl ⟨by decide, by decide⟩ (by (try dsimp only); all_goals (rw [hf, show min i cnt = cnt by omega]))
      · skip
        refine v_aload_n hC 11 0 dX7_piecesOfStrip_10 rfl rfl rfl ?_
        refine v_get hC 14 0 2 (C := RX7) (T := TX7) (N := 7) dX7_piecesOfStrip_11 rfl iX7 L0 rfl rfl (by decide) rfl ?_
        refine v_iload_n hC 15 3 dX7_piecesOfStrip_14 rfl rfl rfl ?_
        refine v_callVi hC 18 1 [2, 3, 4, 5, 6, 7, 8, 9] [0, 1] [oG ag al (ab 0) (ap 0) (ac 0) (ak 0) (aw 0) af, oL al wide high border pattern] (As := [.int (iI i)]) (rest := []) (c_X4_has lx D cs ap cnt ofc knd col row siz bw bh i (by omega) (by omega)) dX7_piecesOfStrip_15 rfl rfl 2 rfl rfl gX7_piecesOfStrip_X4_has rfl rfl rfl (by decide +kernel) ⟨by decide, by decide⟩ rfl rfl rfl rfl (by decide) rfl (Nat.le_of_ble_eq_true rfl) ⟨rfl, rfl⟩ ⟨by decide, by decide⟩ (fun z15 u15 h15 => ?_)
        (try dsimp only at h15)
        obtain ⟨h15_1, h15_2⟩ := h15
        show V p9 lx e9 ({ frames := 5, cells := 0, slots := 0, locals := 107 }) s9 m9 ar9 be9 me9 c9 Q9 D A9 s9.heap 4 0 0 [oG ag al (ab 0) (ap 0) (ac 0) (ak 0) (aw 0) af, oL al wide high border pattern, oP ap cnt, aC (cs 0) (ap 1) 96 ofc, aC (cs 0) (ap 2) 96 knd, aC (cs 0) (ap 3) 96 col, aC (cs 0) (ap 4) 96 row, aC (cs 0) (ap 5) 96 siz, aC (cs 0) (ap 6) 96 bw, aC (cs 0) (ap 7) 96 bh] [(0, .ref ag), (1, .int (iI x)), (2, .int (iI found)), (3, .int (iI i))] 18 [.int (iI z15)]
        refine v_if_eq hC 44 21 dX7_piecesOfStrip_18 (by decide) rfl (by omega) (fun c_18 => ?_) (fun c_18 => ?_)
        · skip
          refine v_iinc hC 47 3 [(3, .int (iI (i + 1))), (0, .ref ag), (1, .int (iI x)), (2, .int (iI found))] dX7_piecesOfStrip_44 rfl rfl (by decide) rfl ?_
          refine v_goto hC 4 dX7_piecesOfStrip_47 (by decide) ?_
          exact v_sub [0, 1, 2, 3, 4, 5, 6, 7, 8, 9] [1, 2, 3, 0] _ _ rfl rfl rfl (ih_4 found (i + 1) (by omega) (by omega) (by first | (rw [show min (i + 1) cnt = min i cnt by omega]; exact hf) | (rw [show min (i + 1) cnt = i + 1 by omega, pcn_I hi.1, if_pos (by omega), hf, show min i cnt = i by omega]) | (rw [show min (i + 1) cnt = i + 1 by omega, pcn_I hi.1, if_neg (by omega), hf, show min i cnt = i by omega]; omega)) (by omega))
        · skip
          refine v_aload_n hC 22 0 dX7_piecesOfStrip_21 rfl rfl rfl ?_
          refine v_get hC 25 0 0 (C := RX7) (T := TX7) (N := 7) dX7_piecesOfStrip_22 rfl iX7 L1 rfl rfl (by decide) rfl ?_
          refine v_aload_n hC 26 0 dX7_piecesOfStrip_25 rfl rfl rfl ?_
          refine v_get hC 29 0 2 (C := RX7) (T := TX7) (N := 7) dX7_piecesOfStrip_26 rfl iX7 L0 rfl rfl (by decide) rfl ?_
          have hr9 := hrow i (by omega) (by omega)
          have hs9 := sR_rng hh hb hr9
          have hn9 := nS_rng hh hb
          refine v_get hC 32 2 4 (C := RX4) (T := TX4) (N := 9) dX7_piecesOfStrip_29 rfl iX4 L2 rfl rfl (by decide) rfl ?_
          refine v_iload_n hC 33 3 dX7_piecesOfStrip_32 rfl rfl rfl ?_
          refine v_iald hC 34 6 dX7_piecesOfStrip_33 rfl rfl (by decide) (by omega) ?_
          refine v_callVi hC 37 1 [1] [0, 2, 3, 4, 5, 6, 7, 8, 9] [oG ag al (ab 0) (ap 0) (ac 0) (ak 0) (aw 0) af, oP ap cnt, aC (cs 0) (ap 1) 96 ofc, aC (cs 0) (ap 2) 96 knd, aC (cs 0) (ap 3) 96 col, aC (cs 0) (ap 4) 96 row, aC (cs 0) (ap 5) 96 siz, aC (cs 0) (ap 6) 96 bw, aC (cs 0) (ap 7) 96 bh] (As := [.int (iI (row i))]) (rest := []) (c_X3_stripOfRow lx D cs al wide high border pattern (row i) (by omega) (by omega) (by omega)) dX7_piecesOfStrip_34 rfl rfl 1 rfl rfl gX7_piecesOfStrip_X3_stripOfRow rfl rfl rfl (by decide +kernel) ⟨by decide, by decide⟩ rfl rfl rfl rfl (by decide) rfl (Nat.le_of_ble_eq_true rfl) ⟨rfl, rfl⟩ ⟨by decide, by decide⟩ (fun z34 u34 h34 => ?_)
          (try dsimp only at h34)
          subst h34
          show V p9 lx e9 ({ frames := 5, cells := 0, slots := 0, locals := 107 }) s9 m9 ar9 be9 me9 c9 Q9 D A9 s9.heap 4 0 0 [oG ag al (ab 0) (ap 0) (ac 0) (ak 0) (aw 0) af, oP ap cnt, aC (cs 0) (ap 1) 96 ofc, aC (cs 0) (ap 2) 96 knd, aC (cs 0) (ap 3) 96 col, aC (cs 0) (ap 4) 96 row, aC (cs 0) (ap 5) 96 siz, aC (cs 0) (ap 6) 96 bw, aC (cs 0) (ap 7) 96 bh, oL al wide high border pattern] [(0, .ref ag), (1, .int (iI x)), (2, .int (iI found)), (3, .int (iI i))] 37 [.int (iI (sR high border (row i)))]
          refine v_iload_n hC 38 1 dX7_piecesOfStrip_37 rfl rfl rfl ?_
          refine v_icmp_ne hC 44 41 dX7_piecesOfStrip_38 (by decide) rfl (by omega) (by omega) (fun c_38 => ?_) (fun c_38 => ?_)
          · skip
            refine v_iinc hC 47 3 [(3, .int (iI (i + 1))), (0, .ref ag), (1, .int (iI x)), (2, .int (iI found))] dX7_piecesOfStrip_44 rfl rfl (by decide) rfl ?_
            refine v_goto hC 4 dX7_piecesOfStrip_47 (by decide) ?_
            exact v_sub [0, 9, 1, 2, 3, 4, 5, 6, 7, 8] [1, 2, 3, 0] _ _ rfl rfl rfl (ih_4 found (i + 1) (by omega) (by omega) (by first | (rw [show min (i + 1) cnt = min i cnt by omega]; exact hf) | (rw [show min (i + 1) cnt = i + 1 by omega, pcn_I hi.1, if_pos (by omega), hf, show min i cnt = i by omega]) | (rw [show min (i + 1) cnt = i + 1 by omega, pcn_I hi.1, if_neg (by omega), hf, show min i cnt = i by omega]; omega)) (by omega))
          · skip
            refine v_iinc hC 44 2 [(2, .int (iI (found + 1))), (0, .ref ag), (1, .int (iI x)), (3, .int (iI i))] dX7_piecesOfStrip_41 rfl rfl (by decide) rfl ?_
            refine v_iinc hC 47 3 [(3, .int (iI (i + 1))), (2, .int (iI (found + 1))), (0, .ref ag), (1, .int (iI x))] dX7_piecesOfStrip_44 rfl rfl (by decide) rfl ?_
            refine v_goto hC 4 dX7_piecesOfStrip_47 (by decide) ?_
            exact v_sub [0, 9, 1, 2, 3, 4, 5, 6, 7, 8] [2, 3, 1, 0] _ _ rfl rfl rfl (ih_4 (found + 1) (i + 1) (by omega) (by omega) (by first | (rw [show min (i + 1) cnt = min i cnt by omega]; exact hf) | (rw [show min (i + 1) cnt = i + 1 by omega, pcn_I hi.1, if_pos (by omega), hf, show min i cnt = i by omega]) | (rw [show min (i + 1) cnt = i + 1 by omega, pcn_I hi.1, if_neg (by omega), hf, show min i cnt = i by omega]; omega)) (by omega))
  exact v_sub [0, 1, 2, 3, 4, 5, 6, 7, 8, 9] [2, 3, 1, 0] _ _ rfl rfl rfl (cut_4 (Int.toNat (96 - 0) + 1) 0 0 (by omega) (by omega) (by rw [show min 0 cnt = 0 by omega]; rfl) (by omega))

set_option maxHeartbeats 4000000 in
set_option maxRecDepth 100000 in
theorem c_X7_isFirstOfItsPiece (lx : Launch) (D : va_G) (cs : Nat → ClassId) (ag : Nat) (al : Nat) (ab : Nat → Nat) (af : Nat) (wide : Int) (high : Int) (border : Int) (pattern : Int) (door : Int) (pil : Int → Int) (bar : Int → Int) (gfl : Int) (gfr : Int) (gft : Int) (gfb : Int) (ap : Nat → Nat) (ac : Nat → Nat) (ak : Nat → Nat) (aw : Nat → Nat) (x : Int) (y : Int) (hw : 1 ≤ wide ∧ wide ≤ 4) (hh : 1 ≤ high ∧ high ≤ 4) (hb : 0 ≤ border ∧ border ≤ 2) (hp : 0 ≤ pattern ∧ pattern ≤ 1) (hx : 0 ≤ x ∧ x < 12) (hy : 0 ≤ y ∧ y < 8) (hbar : Rn bar 0 1) : Ci lx D cs yX7_isFirstOfItsPiece wsX7_isFirstOfItsPiece ({ frames := 4, cells := 0, slots := 0, locals := 94 }) [.ref ag, .int (iI x), .int (iI y)] [oG ag al (ab 0) (ap 0) (ac 0) (ak 0) (aw 0) af, oL al wide high border pattern, oB ab door, aC (cs 1) (ab 1) 96 pil, aC (cs 1) (ab 2) 96 bar, oF af gfl gfr gft gfb] (fun (z : Int) (u : Int × Int × Int × Int) => (z = 0 ∨ z = 1) ∧ (z = 1 ↔ bar (y * 12 + x) ≠ 1 ∧ ∀ d : Int, 0 ≤ d → d < y * 12 + x → sm wide high border pattern (y * 12 + x) d → bar d = 1)) (fun u : Int × Int × Int × Int => [oG ag al (ab 0) (ap 0) (ac 0) (ak 0) (aw 0) af, oL al wide high border pattern, oB ab door, aC (cs 1) (ab 1) 96 pil, aC (cs 1) (ab 2) 96 bar, oF af u.1 u.2.1 u.2.2.1 u.2.2.2]) 0 0 := by
  refine Ci_of (cc := cX7_isFirstOfItsPiece) (nL := 6) (ret := (some .boolean)) (lv0 := [(0, .ref ag), (1, .int (iI x)), (2, .int (iI y))]) RX7 "isFirstOfItsPiece" (by decide +kernel) rfl (Nat.le_of_ble_eq_true rfl) rfl (fun p9 e9 s9 m9 ar9 be9 me9 c9 A9 Q9 hQ hC => ?_)
  have iX7 : ∀ w ∈ wsX70, w ∈ wsX7_isFirstOfItsPiece := by decide +kernel
  have iX2 : ∀ w ∈ wsX20, w ∈ wsX7_isFirstOfItsPiece := by decide +kernel
  have L0 : Cond.fieldLink RX7 19 "Groutline" "bars" "LGroutline$Bars;" ∈ wsX7_isFirstOfItsPiece := by decide +kernel
  have L1 : Cond.fieldLink RX7 12 "Groutline" "layout" "LGroutline$Layout;" ∈ wsX7_isFirstOfItsPiece := by decide +kernel
  have L2 : Cond.fieldLink RX7 54 "Groutline" "frame" "LGroutline$Frame;" ∈ wsX7_isFirstOfItsPiece := by decide +kernel
  have L3 : Cond.fieldLink RX7 231 "Groutline$Frame" "top" "I" ∈ wsX7_isFirstOfItsPiece := by decide +kernel
  have L4 : Cond.fieldLink RX7 234 "Groutline$Frame" "left" "I" ∈ wsX7_isFirstOfItsPiece := by decide +kernel
  have L5 : Cond.fieldLink RX7 237 "Groutline$Frame" "right" "I" ∈ wsX7_isFirstOfItsPiece := by decide +kernel
  refine v_aload_n hC 1 0 dX7_isFirstOfItsPiece_0 rfl rfl rfl ?_
  refine v_get hC 4 0 1 (C := RX7) (T := TX7) (N := 7) dX7_isFirstOfItsPiece_1 rfl iX7 L0 rfl rfl (by decide) rfl ?_
  refine v_iload_n hC 5 1 dX7_isFirstOfItsPiece_4 rfl rfl rfl ?_
  refine v_iload_n hC 6 2 dX7_isFirstOfItsPiece_5 rfl rfl rfl ?_
  refine v_callVi hC 9 2 [2, 3, 4] [0, 1, 5] [oG ag al (ab 0) (ap 0) (ac 0) (ak 0) (aw 0) af, oL al wide high border pattern, oF af gfl gfr gft gfb] (As := [.int (iI x), .int (iI y)]) (rest := []) (c_X0_areAt lx D cs ab door pil bar x y (by omega) (by omega) (by assumption)) dX7_isFirstOfItsPiece_6 rfl rfl 2 rfl rfl gX7_isFirstOfItsPiece_X0_areAt rfl rfl rfl (by decide +kernel) ⟨by decide, by decide⟩ rfl rfl rfl rfl (by decide) rfl (Nat.le_of_ble_eq_true rfl) ⟨rfl, rfl⟩ ⟨by decide, by decide⟩ (fun z6 u6 h6 => ?_)
  (try dsimp only at h6)
  obtain ⟨h6_1, h6_2⟩ := h6
  show V p9 lx e9 ({ frames := 4, cells := 0, slots := 0, locals := 94 }) s9 m9 ar9 be9 me9 c9 Q9 D A9 s9.heap 6 0 0 [oG ag al (ab 0) (ap 0) (ac 0) (ak 0) (aw 0) af, oL al wide high border pattern, oF af gfl gfr gft gfb, oB ab door, aC (cs 1) (ab 1) 96 pil, aC (cs 1) (ab 2) 96 bar] [(0, .ref ag), (1, .int (iI x)), (2, .int (iI y))] 9 [.int (iI z6)]
  refine v_if_eq hC 14 12 dX7_isFirstOfItsPiece_9 (by decide) rfl (by omega) (fun c_9 => ?_) (fun c_9 => ?_)
  · skip
    refine v_aload_n hC 15 0 dX7_isFirstOfItsPiece_14 rfl rfl rfl ?_
    refine v_get hC 18 0 0 (C := RX7) (T := TX7) (N := 7) dX7_isFirstOfItsPiece_15 rfl iX7 L1 rfl rfl (by decide) rfl ?_
    refine v_iload_n hC 19 1 dX7_isFirstOfItsPiece_18 rfl rfl rfl ?_
    refine v_iload_n hC 20 2 dX7_isFirstOfItsPiece_19 rfl rfl rfl ?_
    refine v_aload_n hC 21 0 dX7_isFirstOfItsPiece_20 rfl rfl rfl ?_
    refine v_get hC 24 0 6 (C := RX7) (T := TX7) (N := 7) dX7_isFirstOfItsPiece_21 rfl iX7 L2 rfl rfl (by decide) rfl ?_
    refine v_callVv hC 27 3 [1, 2] [0, 3, 4, 5] [oG ag al (ab 0) (ap 0) (ac 0) (ak 0) (aw 0) af, oB ab door, aC (cs 1) (ab 1) 96 pil, aC (cs 1) (ab 2) 96 bar] (As := [.int (iI x), .int (iI y), .ref af]) (rest := []) (c_X3_frame lx D cs al af wide high border pattern gfl gfr gft gfb x y (by omega) (by omega) (by omega) (by omega) (by omega) (by omega)) dX7_isFirstOfItsPiece_24 rfl rfl 1 rfl rfl gX7_isFirstOfItsPiece_X3_frame rfl rfl rfl (by decide +kernel) ⟨by decide, by decide⟩ rfl rfl rfl rfl (by decide) rfl (Nat.le_of_ble_eq_true rfl) ⟨rfl, rfl⟩ ⟨by decide, by decide⟩ (fun u24 h24 => ?_)
    obtain ⟨fl1_24, fr1_24, ft1_24, fb1_24⟩ := u24
    (try dsimp only at h24)
    obtain ⟨h24_1, h24_2, h24_3, h24_4⟩ := h24
    have hf9 := frame_rng (pattern := pattern) hw hh hb hx hy
    show V p9 lx e9 ({ frames := 4, cells := 0, slots := 0, locals := 94 }) s9 m9 ar9 be9 me9 c9 Q9 D A9 s9.heap 6 0 0 [oG ag al (ab 0) (ap 0) (ac 0) (ak 0) (aw 0) af, oB ab door, aC (cs 1) (ab 1) 96 pil, aC (cs 1) (ab 2) 96 bar, oL al wide high border pattern, oF af fl1_24 fr1_24 ft1_24 fb1_24] [(0, .ref ag), (1, .int (iI x)), (2, .int (iI y))] 27 []
    refine v_aload_n hC 28 0 dX7_isFirstOfItsPiece_27 rfl rfl rfl ?_
    refine v_get hC 31 0 6 (C := RX7) (T := TX7) (N := 7) dX7_isFirstOfItsPiece_28 rfl iX7 L2 rfl rfl (by decide) rfl ?_
    refine v_get hC 34 5 2 (C := RX2) (T := TX2) (N := 4) dX7_isFirstOfItsPiece_31 rfl iX2 L3 rfl rfl (by decide) rfl ?_
    refine v_istore_n hC 35 [(3, .int (iI ft1_24)), (0, .ref ag), (1, .int (iI x)), (2, .int (iI y))] dX7_isFirstOfItsPiece_34 rfl rfl (by decide) rfl ?_
    have cut_35 : ∀ (n : Nat) (r : Int), (ft1_24 ≤ r ∧ r ≤ y + 1) → (∀ d : Int, 0 ≤ d → d < y * 12 + x → sm wide high border pattern (y * 12 + x) d → d / 12 < r → bar d = 1) → (y + 1 - r < (n : Int)) → V p9 lx e9 ({ frames := 4, cells := 0, slots := 0, locals := 94 }) s9 m9 ar9 be9 me9 c9 Q9 D A9 s9.heap 6 0 0 [oG ag al (ab 0) (ap 0) (ac 0) (ak 0) (aw 0) af, oB ab door, aC (cs 1) (ab 1) 96 pil, aC (cs 1) (ab 2) 96 bar, oL al wide high border pattern, oF af fl1_24 fr1_24 ft1_24 fb1_24] [(0, .ref ag), (1, .int (iI x)), (2, .int (iI y)), (3, .int (iI r))] 35 [] := by
      intro n
      induction n with
      | zero =>
        intro r hr hall hn
        exfalso; omega
      | succ n ih =>
        intro r hr hall hn
        have ih_35 := ih
        clear ih
        refine v_iload_n hC 36 3 dX7_isFirstOfItsPiece_35 rfl rfl rfl ?_
        refine v_iload_n hC 37 2 dX7_isFirstOfItsPiece_36 rfl rfl rfl ?_
        refine v_icmp_gt hC 111 40 dX7_isFirstOfItsPiece_37 (by decide) rfl (by omega) (by omega) (fun c_37 => ?_) (fun c_37 => ?_)
        · skip
          refine v_iconst hC 112 dX7_isFirstOfItsPiece_111 rfl ?_
          exact v_zret hC hQ (fl1_24, fr1_24, ft1_24, fb1_24) [0, 4, 1, 2, 3, 5] dX7_isFirstOfItsPiece_112 (by omega) rfl rfl ⟨by decide, by decide⟩ ⟨by (try dsimp only); all_goals (omega), by (try dsimp only); all_goals (exact ⟨fun _ => ⟨by omega, fun d h1 h2 h3 => hall d h1 h2 h3 (by omega)⟩, fun _ => rfl⟩)⟩
        · skip
          refine v_aload_n hC 41 0 dX7_isFirstOfItsPiece_40 rfl rfl rfl ?_
          refine v_get hC 44 0 6 (C := RX7) (T := TX7) (N := 7) dX7_isFirstOfItsPiece_41 rfl iX7 L2 rfl rfl (by decide) rfl ?_
          refine v_get hC 47 5 0 (C := RX2) (T := TX2) (N := 4) dX7_isFirstOfItsPiece_44 rfl iX2 L4 rfl rfl (by decide) rfl ?_
          refine v_istore hC 49 [(4, .int (iI fl1_24)), (0, .ref ag), (1, .int (iI x)), (2, .int (iI y)), (3, .int (iI r))] dX7_isFirstOfItsPiece_47 rfl (by decide) rfl ?_
          have cut_49 : ∀ (n : Nat) (u : Int), (fl1_24 ≤ u ∧ u ≤ fr1_24) → (∀ d : Int, 0 ≤ d → d < y * 12 + x → sm wide high border pattern (y * 12 + x) d → (d / 12 < r ∨ (d / 12 = r ∧ d % 12 < u)) → bar d = 1) → (fr1_24 - u < (n : Int)) → V p9 lx e9 ({ frames := 4, cells := 0, slots := 0, locals := 94 }) s9 m9 ar9 be9 me9 c9 Q9 D A9 s9.heap 6 0 0 [oG ag al (ab 0) (ap 0) (ac 0) (ak 0) (aw 0) af, oB ab door, aC (cs 1) (ab 1) 96 pil, aC (cs 1) (ab 2) 96 bar, oL al wide high border pattern, oF af fl1_24 fr1_24 ft1_24 fb1_24] [(0, .ref ag), (1, .int (iI x)), (2, .int (iI y)), (3, .int (iI r)), (4, .int (iI u))] 49 [] := by
            intro n
            induction n with
            | zero =>
              intro u hu hall2 hn
              exfalso; omega
            | succ n ih =>
              intro u hu hall2 hn
              have ih_49 := ih
              clear ih
              refine v_iload hC 51 4 dX7_isFirstOfItsPiece_49 rfl rfl ?_
              refine v_aload_n hC 52 0 dX7_isFirstOfItsPiece_51 rfl rfl rfl ?_
              refine v_get hC 55 0 6 (C := RX7) (T := TX7) (N := 7) dX7_isFirstOfItsPiece_52 rfl iX7 L2 rfl rfl (by decide) rfl ?_
              refine v_get hC 58 5 1 (C := RX2) (T := TX2) (N := 4) dX7_isFirstOfItsPiece_55 rfl iX2 L5 rfl rfl (by decide) rfl ?_
              refine v_icmp_ge hC 105 61 dX7_isFirstOfItsPiece_58 (by decide) rfl (by omega) (by omega) (fun c_58 => ?_) (fun c_58 => ?_)
              · skip
                refine v_iinc hC 108 3 [(3, .int (iI (r + 1))), (0, .ref ag), (1, .int (iI x)), (2, .int (iI y)), (4, .int (iI u))] dX7_isFirstOfItsPiece_105 rfl rfl (by decide) rfl ?_
                refine v_goto hC 35 dX7_isFirstOfItsPiece_108 (by decide) ?_
                exact v_sub [0, 1, 2, 3, 4, 5] [1, 2, 3, 0] _ _ rfl rfl rfl (ih_35 (r + 1) (by omega) (by intro d h1 h2 h3 h4; have q9 := (frame_sm (pattern := pattern) hw hh hb hx hy (u := d % 12) (r := d / 12) ⟨by omega, by omega⟩ ⟨by omega, by omega⟩).mp (by rw [show d / 12 * 12 + d % 12 = d by omega]; exact h3); exact hall2 d h1 h2 h3 (by omega)) (by omega))
              · skip
                refine v_iload_n hC 62 3 dX7_isFirstOfItsPiece_61 rfl rfl rfl ?_
                refine v_iload_n hC 63 2 dX7_isFirstOfItsPiece_62 rfl rfl rfl ?_
                refine v_icmp_lt hC 72 66 dX7_isFirstOfItsPiece_63 (by decide) rfl (by omega) (by omega) (fun c_63 => ?_) (fun c_63 => ?_)
                · skip
                  refine v_iconst hC 73 dX7_isFirstOfItsPiece_72 rfl ?_
                  refine v_goto hC 77 dX7_isFirstOfItsPiece_73 (by decide) ?_
                  refine v_istore hC 79 [(5, .int (iI 1)), (0, .ref ag), (1, .int (iI x)), (2, .int (iI y)), (3, .int (iI r)), (4, .int (iI u))] dX7_isFirstOfItsPiece_77 rfl (by decide) rfl ?_
                  refine v_iload hC 81 0 dX7_isFirstOfItsPiece_79 rfl rfl ?_
                  refine v_if_eq hC 99 84 dX7_isFirstOfItsPiece_81 (by decide) rfl (by omega) (fun c_81 => ?_) (fun c_81 => ?_)
                  · exfalso; exact absurd c_81 (by decide)
                  · skip
                    refine v_aload_n hC 85 1 dX7_isFirstOfItsPiece_84 rfl rfl rfl ?_
                    refine v_get hC 88 0 1 (C := RX7) (T := TX7) (N := 7) dX7_isFirstOfItsPiece_85 rfl iX7 L0 rfl rfl (by decide) rfl ?_
                    refine v_iload hC 90 5 dX7_isFirstOfItsPiece_88 rfl rfl ?_
                    refine v_iload_n hC 91 4 dX7_isFirstOfItsPiece_90 rfl rfl rfl ?_
                    refine v_callVi hC 94 2 [1, 2, 3] [0, 4, 5] [oG ag al (ab 0) (ap 0) (ac 0) (ak 0) (aw 0) af, oL al wide high border pattern, oF af fl1_24 fr1_24 ft1_24 fb1_24] (As := [.int (iI u), .int (iI r)]) (rest := []) (c_X0_areAt lx D cs ab door pil bar u r (by omega) (by omega) (by assumption)) dX7_isFirstOfItsPiece_91 rfl rfl 1 rfl rfl gX7_isFirstOfItsPiece_X0_areAt rfl rfl rfl (by decide +kernel) ⟨by decide, by decide⟩ rfl rfl rfl rfl (by decide) rfl (Nat.le_of_ble_eq_true rfl) ⟨rfl, rfl⟩ ⟨by decide, by decide⟩ (fun z91 u91 h91 => ?_)
                    (try dsimp only at h91)
                    obtain ⟨h91_1, h91_2⟩ := h91
                    show V p9 lx e9 ({ frames := 4, cells := 0, slots := 0, locals := 94 }) s9 m9 ar9 be9 me9 c9 Q9 D A9 s9.heap 6 0 0 [oG ag al (ab 0) (ap 0) (ac 0) (ak 0) (aw 0) af, oL al wide high border pattern, oF af fl1_24 fr1_24 ft1_24 fb1_24, oB ab door, aC (cs 1) (ab 1) 96 pil, aC (cs 1) (ab 2) 96 bar] [(5, .int (iI 1)), (0, .ref ag), (1, .int (iI x)), (2, .int (iI y)), (3, .int (iI r)), (4, .int (iI u))] 94 [.int (iI z91)]
                    refine v_if_ne hC 99 97 dX7_isFirstOfItsPiece_94 (by decide) rfl (by omega) (fun c_94 => ?_) (fun c_94 => ?_)
                    · skip
                      refine v_iinc hC 102 5 [(4, .int (iI (u + 1))), (5, .int (iI 1)), (0, .ref ag), (1, .int (iI x)), (2, .int (iI y)), (3, .int (iI r))] dX7_isFirstOfItsPiece_99 rfl rfl (by decide) rfl ?_
                      refine v_goto hC 49 dX7_isFirstOfItsPiece_102 (by decide) ?_
                      exact v_sub [0, 3, 4, 5, 1, 2] [2, 3, 4, 5, 0] _ _ rfl rfl rfl (ih_49 (u + 1) (by omega) (by intro d h1 h2 h3 h4; by_cases hq : d / 12 < r ∨ (d / 12 = r ∧ d % 12 < u) <;> first | exact hall2 d h1 h2 h3 hq | (have e9 : d = r * 12 + u := (by omega); subst e9; omega)) (by omega))
                    · skip
                      refine v_iconst hC 98 dX7_isFirstOfItsPiece_97 rfl ?_
                      exact v_zret hC hQ (fl1_24, fr1_24, ft1_24, fb1_24) [0, 1, 3, 4, 5, 2] dX7_isFirstOfItsPiece_98 (by omega) rfl rfl ⟨by decide, by decide⟩ ⟨by (try dsimp only); all_goals (omega), by (try dsimp only); all_goals (exact ⟨fun h => absurd h (by omega), fun h => absurd (h.2 (r * 12 + u) (by omega) (by omega) ((frame_sm (pattern := pattern) hw hh hb hx hy ⟨by omega, by omega⟩ ⟨by omega, by omega⟩).mpr ⟨⟨by omega, by omega⟩, by omega, by omega⟩)) (by omega)⟩)⟩
                · skip
                  refine v_iload hC 68 4 dX7_isFirstOfItsPiece_66 rfl rfl ?_
                  refine v_iload_n hC 69 1 dX7_isFirstOfItsPiece_68 rfl rfl rfl ?_
                  refine v_icmp_ge hC 76 72 dX7_isFirstOfItsPiece_69 (by decide) rfl (by omega) (by omega) (fun c_69 => ?_) (fun c_69 => ?_)
                  · skip
                    refine v_iconst hC 77 dX7_isFirstOfItsPiece_76 rfl ?_
                    refine v_istore hC 79 [(5, .int (iI 0)), (0, .ref ag), (1, .int (iI x)), (2, .int (iI y)), (3, .int (iI r)), (4, .int (iI u))] dX7_isFirstOfItsPiece_77 rfl (by decide) rfl ?_
                    refine v_iload hC 81 0 dX7_isFirstOfItsPiece_79 rfl rfl ?_
                    refine v_if_eq hC 99 84 dX7_isFirstOfItsPiece_81 (by decide) rfl (by omega) (fun c_81 => ?_) (fun c_81 => ?_)
                    · skip
                      refine v_iinc hC 102 5 [(4, .int (iI (u + 1))), (5, .int (iI 0)), (0, .ref ag), (1, .int (iI x)), (2, .int (iI y)), (3, .int (iI r))] dX7_isFirstOfItsPiece_99 rfl rfl (by decide) rfl ?_
                      refine v_goto hC 49 dX7_isFirstOfItsPiece_102 (by decide) ?_
                      exact v_sub [0, 1, 2, 3, 4, 5] [2, 3, 4, 5, 0] _ _ rfl rfl rfl (ih_49 (u + 1) (by omega) (by intro d h1 h2 h3 h4; by_cases hq : d / 12 < r ∨ (d / 12 = r ∧ d % 12 < u) <;> first | exact hall2 d h1 h2 h3 hq | (have e9 : d = r * 12 + u := (by omega); subst e9; omega)) (by omega))
                    · exfalso; exact absurd c_81 (by decide)
                  · skip
                    refine v_iconst hC 73 dX7_isFirstOfItsPiece_72 rfl ?_
                    refine v_goto hC 77 dX7_isFirstOfItsPiece_73 (by decide) ?_
                    refine v_istore hC 79 [(5, .int (iI 1)), (0, .ref ag), (1, .int (iI x)), (2, .int (iI y)), (3, .int (iI r)), (4, .int (iI u))] dX7_isFirstOfItsPiece_77 rfl (by decide) rfl ?_
                    refine v_iload hC 81 0 dX7_isFirstOfItsPiece_79 rfl rfl ?_
                    refine v_if_eq hC 99 84 dX7_isFirstOfItsPiece_81 (by decide) rfl (by omega) (fun c_81 => ?_) (fun c_81 => ?_)
                    · exfalso; exact absurd c_81 (by decide)
                    · skip
                      refine v_aload_n hC 85 1 dX7_isFirstOfItsPiece_84 rfl rfl rfl ?_
                      refine v_get hC 88 0 1 (C := RX7) (T := TX7) (N := 7) dX7_isFirstOfItsPiece_85 rfl iX7 L0 rfl rfl (by decide) rfl ?_
                      refine v_iload hC 90 5 dX7_isFirstOfItsPiece_88 rfl rfl ?_
                      refine v_iload_n hC 91 4 dX7_isFirstOfItsPiece_90 rfl rfl rfl ?_
                      refine v_callVi hC 94 2 [1, 2, 3] [0, 4, 5] [oG ag al (ab 0) (ap 0) (ac 0) (ak 0) (aw 0) af, oL al wide high border pattern, oF af fl1_24 fr1_24 ft1_24 fb1_24] (As := [.int (iI u), .int (iI r)]) (rest := []) (c_X0_areAt lx D cs ab door pil bar u r (by omega) (by omega) (by assumption)) dX7_isFirstOfItsPiece_91 rfl rfl 1 rfl rfl gX7_isFirstOfItsPiece_X0_areAt rfl rfl rfl (by decide +kernel) ⟨by decide, by decide⟩ rfl rfl rfl rfl (by decide) rfl (Nat.le_of_ble_eq_true rfl) ⟨rfl, rfl⟩ ⟨by decide, by decide⟩ (fun z91 u91 h91 => ?_)
                      (try dsimp only at h91)
                      obtain ⟨h91_1, h91_2⟩ := h91
                      show V p9 lx e9 ({ frames := 4, cells := 0, slots := 0, locals := 94 }) s9 m9 ar9 be9 me9 c9 Q9 D A9 s9.heap 6 0 0 [oG ag al (ab 0) (ap 0) (ac 0) (ak 0) (aw 0) af, oL al wide high border pattern, oF af fl1_24 fr1_24 ft1_24 fb1_24, oB ab door, aC (cs 1) (ab 1) 96 pil, aC (cs 1) (ab 2) 96 bar] [(5, .int (iI 1)), (0, .ref ag), (1, .int (iI x)), (2, .int (iI y)), (3, .int (iI r)), (4, .int (iI u))] 94 [.int (iI z91)]
                      refine v_if_ne hC 99 97 dX7_isFirstOfItsPiece_94 (by decide) rfl (by omega) (fun c_94 => ?_) (fun c_94 => ?_)
                      · skip
                        refine v_iinc hC 102 5 [(4, .int (iI (u + 1))), (5, .int (iI 1)), (0, .ref ag), (1, .int (iI x)), (2, .int (iI y)), (3, .int (iI r))] dX7_isFirstOfItsPiece_99 rfl rfl (by decide) rfl ?_
                        refine v_goto hC 49 dX7_isFirstOfItsPiece_102 (by decide) ?_
                        exact v_sub [0, 3, 4, 5, 1, 2] [2, 3, 4, 5, 0] _ _ rfl rfl rfl (ih_49 (u + 1) (by omega) (by intro d h1 h2 h3 h4; by_cases hq : d / 12 < r ∨ (d / 12 = r ∧ d % 12 < u) <;> first | exact hall2 d h1 h2 h3 hq | (have e9 : d = r * 12 + u := (by omega); subst e9; omega)) (by omega))
                      · skip
                        refine v_iconst hC 98 dX7_isFirstOfItsPiece_97 rfl ?_
                        exact v_zret hC hQ (fl1_24, fr1_24, ft1_24, fb1_24) [0, 1, 3, 4, 5, 2] dX7_isFirstOfItsPiece_98 (by omega) rfl rfl ⟨by decide, by decide⟩ ⟨by (try dsimp only); all_goals (omega), by (try dsimp only); all_goals (exact ⟨fun h => absurd h (by omega), fun h => absurd (h.2 (r * 12 + u) (by omega) (by omega) ((frame_sm (pattern := pattern) hw hh hb hx hy ⟨by omega, by omega⟩ ⟨by omega, by omega⟩).mpr ⟨⟨by omega, by omega⟩, by omega, by omega⟩)) (by omega)⟩)⟩
          exact v_sub [0, 1, 2, 3, 4, 5] [1, 2, 3, 4, 0] _ _ rfl rfl rfl (cut_49 (Int.toNat (fr1_24 - fl1_24) + 1) fl1_24 (by omega) (by intro d h1 h2 h3 h4; have q9 := (frame_sm (pattern := pattern) hw hh hb hx hy (u := d % 12) (r := d / 12) ⟨by omega, by omega⟩ ⟨by omega, by omega⟩).mp (by rw [show d / 12 * 12 + d % 12 = d by omega]; exact h3); exact hall d h1 h2 h3 (by omega)) (by omega))
    exact v_sub [0, 1, 2, 3, 4, 5] [1, 2, 3, 0] _ _ rfl rfl rfl (cut_35 (Int.toNat (y + 1 - ft1_24) + 1) ft1_24 (by omega) (by intro d h1 h2 h3 h4; have q9 := (frame_sm (pattern := pattern) hw hh hb hx hy (u := d % 12) (r := d / 12) ⟨by omega, by omega⟩ ⟨by omega, by omega⟩).mp (by rw [show d / 12 * 12 + d % 12 = d by omega]; exact h3); exfalso; omega) (by omega))
  · skip
    refine v_iconst hC 13 dX7_isFirstOfItsPiece_12 rfl ?_
    exact v_zret hC hQ (gfl, gfr, gft, gfb) [0, 1, 3, 4, 5, 2] dX7_isFirstOfItsPiece_13 (by omega) rfl rfl ⟨by decide, by decide⟩ ⟨by (try dsimp only); all_goals (omega), by (try dsimp only); all_goals (exact ⟨fun h => absurd h (by omega), fun h => absurd (h6_2.mp (by omega)).2 h.1⟩)⟩

set_option maxHeartbeats 4000000 in
set_option maxRecDepth 100000 in
theorem c_X7_piecesAnew (lx : Launch) (D : va_G) (cs : Nat → ClassId) (ag : Nat) (al : Nat) (ab : Nat → Nat) (af : Nat) (wide : Int) (high : Int) (border : Int) (pattern : Int) (door : Int) (pil : Int → Int) (bar : Int → Int) (gfl : Int) (gfr : Int) (gft : Int) (gfb : Int) (ap : Nat → Nat) (ac : Nat → Nat) (ak : Nat → Nat) (aw : Nat → Nat) (hw : 1 ≤ wide ∧ wide ≤ 4) (hh : 1 ≤ high ∧ high ≤ 4) (hb : 0 ≤ border ∧ border ≤ 2) (hp : 0 ≤ pattern ∧ pattern ≤ 1) (hbar : Rn bar 0 1) : Ci lx D cs yX7_piecesAnew wsX7_piecesAnew ({ frames := 5, cells := 0, slots := 0, locals := 119 }) [.ref ag] [oG ag al (ab 0) (ap 0) (ac 0) (ak 0) (aw 0) af, oL al wide high border pattern, oB ab door, aC (cs 1) (ab 1) 96 pil, aC (cs 1) (ab 2) 96 bar, oF af gfl gfr gft gfb] (fun (z : Int) (u : Int × Int × Int × Int) => (z = (pf wide high border pattern bar 96).1)) (fun u : Int × Int × Int × Int => [oG ag al (ab 0) (ap 0) (ac 0) (ak 0) (aw 0) af, oL al wide high border pattern, oB ab door, aC (cs 1) (ab 1) 96 pil, aC (cs 1) (ab 2) 96 bar, oF af u.1 u.2.1 u.2.2.1 u.2.2.2]) 0 0 := by
  refine Ci_of (cc := cX7_piecesAnew) (nL := 4) (ret := (some .int)) (lv0 := [(0, .ref ag)]) RX7 "piecesAnew" (by decide +kernel) rfl (Nat.le_of_ble_eq_true rfl) rfl (fun p9 e9 s9 m9 ar9 be9 me9 c9 A9 Q9 hQ hC => ?_)
  refine v_iconst hC 1 dX7_piecesAnew_0 rfl ?_
  refine v_istore_n hC 2 [(1, .int (iI 0)), (0, .ref ag)] dX7_piecesAnew_1 rfl rfl (by decide) rfl ?_
  refine v_iconst hC 3 dX7_piecesAnew_2 rfl ?_
  refine v_istore_n hC 4 [(2, .int (iI 0)), (1, .int (iI 0)), (0, .ref ag)] dX7_piecesAnew_3 rfl rfl (by decide) rfl ?_
  have cut_4 : ∀ (n : Nat) (found : Int) (r : Int) (gfl2 : Int) (gfr2 : Int) (gft2 : Int) (gfb2 : Int), (0 ≤ r ∧ r ≤ 8) → (found = (pf wide high border pattern bar (r * 12).toNat).1) → (8 - r < (n : Int)) → V p9 lx e9 ({ frames := 5, cells := 0, slots := 0, locals := 119 }) s9 m9 ar9 be9 me9 c9 Q9 D A9 s9.heap 4 0 0 [oG ag al (ab 0) (ap 0) (ac 0) (ak 0) (aw 0) af, oL al wide high border pattern, oB ab door, aC (cs 1) (ab 1) 96 pil, aC (cs 1) (ab 2) 96 bar, oF af gfl2 gfr2 gft2 gfb2] [(0, .ref ag), (1, .int (iI found)), (2, .int (iI r))] 4 [] := by
    intro n
    induction n with
    | zero =>
      intro found r gfl2 gfr2 gft2 gfb2 hr hf hn
      exfalso; omega
    | succ n ih =>
      intro found r gfl2 gfr2 gft2 gfb2 hr hf hn
      have ih_4 := ih
      clear ih
      refine v_iload_n hC 5 2 dX7_piecesAnew_4 rfl rfl rfl ?_
      refine v_bipush hC 7 dX7_piecesAnew_5 rfl rfl ?_
      refine v_icmp_ge hC 42 10 dX7_piecesAnew_7 (by decide) rfl (by omega) (by omega) (fun c_7 => ?_) (fun c_7 => ?_)
      · skip
        refine v_iload_n hC 43 1 dX7_piecesAnew_42 rfl rfl rfl ?_
        exact v_iret hC hQ (gfl2, gfr2, gft2, gfb2) [0, 1, 2, 3, 4, 5] dX7_piecesAnew_43 rfl rfl ⟨by decide, by decide⟩ (by (try dsimp only); all_goals (rw [hf, show (r * 12).toNat = 96 by omega]))
      · skip
        refine v_iconst hC 11 dX7_piecesAnew_10 rfl ?_
        refine v_istore_n hC 12 [(3, .int (iI 0)), (0, .ref ag), (1, .int (iI found)), (2, .int (iI r))] dX7_piecesAnew_11 rfl rfl (by decide) rfl ?_
        have cut_12 : ∀ (n : Nat) (found3 : Int) (u : Int) (gfl3 : Int) (gfr3 : Int) (gft3 : Int) (gfb3 : Int), (0 ≤ u ∧ u ≤ 12) → (found3 = (pf wide high border pattern bar (r * 12 + u).toNat).1) → (12 - u < (n : Int)) → V p9 lx e9 ({ frames := 5, cells := 0, slots := 0, locals := 119 }) s9 m9 ar9 be9 me9 c9 Q9 D A9 s9.heap 4 0 0 [oG ag al (ab 0) (ap 0) (ac 0) (ak 0) (aw 0) af, oL al wide high border pattern, oB ab door, aC (cs 1) (ab 1) 96 pil, aC (cs 1) (ab 2) 96 bar, oF af gfl3 gfr3 gft3 gfb3] [(0, .ref ag), (1, .int (iI found3)), (2, .int (iI r)), (3, .int (iI u))] 12 [] := by
          intro n
          induction n with
          | zero =>
            intro found3 u gfl3 gfr3 gft3 gfb3 hu hf3 hn
            exfalso; omega
          | succ n ih =>
            intro found3 u gfl3 gfr3 gft3 gfb3 hu hf3 hn
            have ih_12 := ih
            clear ih
            refine v_iload_n hC 13 3 dX7_piecesAnew_12 rfl rfl rfl ?_
            refine v_bipush hC 15 dX7_piecesAnew_13 rfl rfl ?_
            refine v_icmp_ge hC 36 18 dX7_piecesAnew_15 (by decide) rfl (by omega) (by omega) (fun c_15 => ?_) (fun c_15 => ?_)
            · skip
              refine v_iinc hC 39 2 [(2, .int (iI (r + 1))), (0, .ref ag), (1, .int (iI found3)), (3, .int (iI u))] dX7_piecesAnew_36 rfl rfl (by decide) rfl ?_
              refine v_goto hC 4 dX7_piecesAnew_39 (by decide) ?_
              exact v_sub [0, 1, 2, 3, 4, 5] [1, 2, 0] _ _ rfl rfl rfl (ih_4 found3 (r + 1) gfl3 gfr3 gft3 gfb3 (by omega) (by rw [show (r + 1) * 12 = r * 12 + u by omega]; exact hf3) (by omega))
            · skip
              refine v_aload_n hC 19 0 dX7_piecesAnew_18 rfl rfl rfl ?_
              refine v_iload_n hC 20 3 dX7_piecesAnew_19 rfl rfl rfl ?_
              refine v_iload_n hC 21 2 dX7_piecesAnew_20 rfl rfl rfl ?_
              refine v_callVi hC 24 2 [0, 1, 2, 3, 4, 5] [] [] (As := [.int (iI u), .int (iI r)]) (rest := []) (c_X7_isFirstOfItsPiece lx D cs ag al ab af wide high border pattern door pil bar gfl3 gfr3 gft3 gfb3 ap ac ak aw u r (by omega) (by omega) (by omega) (by omega) (by omega) (by omega) (by assumption)) dX7_piecesAnew_21 rfl rfl 0 rfl rfl gX7_piecesAnew_X7_isFirstOfItsPiece rfl rfl rfl (by decide +kernel) ⟨by decide, by decide⟩ rfl rfl rfl rfl (by decide) rfl (Nat.le_of_ble_eq_true rfl) ⟨rfl, rfl⟩ ⟨by decide, by decide⟩ (fun z21 u21 h21 => ?_)
              obtain ⟨gfl1_21, gfr1_21, gft1_21, gfb1_21⟩ := u21
              (try dsimp only at h21)
              obtain ⟨h21_1, h21_2⟩ := h21
              show V p9 lx e9 ({ frames := 5, cells := 0, slots := 0, locals := 119 }) s9 m9 ar9 be9 me9 c9 Q9 D A9 s9.heap 4 0 0 [oG ag al (ab 0) (ap 0) (ac 0) (ak 0) (aw 0) af, oL al wide high border pattern, oB ab door, aC (cs 1) (ab 1) 96 pil, aC (cs 1) (ab 2) 96 bar, oF af gfl1_21 gfr1_21 gft1_21 gfb1_21] [(0, .ref ag), (1, .int (iI found3)), (2, .int (iI r)), (3, .int (iI u))] 24 [.int (iI z21)]
              refine v_if_eq hC 30 27 dX7_piecesAnew_24 (by decide) rfl (by omega) (fun c_24 => ?_) (fun c_24 => ?_)
              · skip
                refine v_iinc hC 33 3 [(3, .int (iI (u + 1))), (0, .ref ag), (1, .int (iI found3)), (2, .int (iI r))] dX7_piecesAnew_30 rfl rfl (by decide) rfl ?_
                refine v_goto hC 12 dX7_piecesAnew_33 (by decide) ?_
                exact v_sub [0, 1, 2, 3, 4, 5] [1, 2, 3, 0] _ _ rfl rfl rfl (ih_12 found3 (u + 1) gfl1_21 gfr1_21 gft1_21 gfb1_21 (by omega) (by rw [show r * 12 + (u + 1) = r * 12 + u + 1 by omega]; first | (rw [pf_oldI ⟨by omega, by omega⟩ (fun q => absurd (h21_2.mpr q) (by omega))]; exact hf3) | (rw [pf_newI ⟨by omega, by omega⟩ (h21_2.mp (by omega)), hf3])) (by omega))
              · skip
                refine v_iinc hC 30 1 [(1, .int (iI (found3 + 1))), (0, .ref ag), (2, .int (iI r)), (3, .int (iI u))] dX7_piecesAnew_27 rfl rfl (by decide) rfl ?_
                refine v_iinc hC 33 3 [(3, .int (iI (u + 1))), (1, .int (iI (found3 + 1))), (0, .ref ag), (2, .int (iI r))] dX7_piecesAnew_30 rfl rfl (by decide) rfl ?_
                refine v_goto hC 12 dX7_piecesAnew_33 (by decide) ?_
                exact v_sub [0, 1, 2, 3, 4, 5] [2, 1, 3, 0] _ _ rfl rfl rfl (ih_12 (found3 + 1) (u + 1) gfl1_21 gfr1_21 gft1_21 gfb1_21 (by omega) (by rw [show r * 12 + (u + 1) = r * 12 + u + 1 by omega]; first | (rw [pf_oldI ⟨by omega, by omega⟩ (fun q => absurd (h21_2.mpr q) (by omega))]; exact hf3) | (rw [pf_newI ⟨by omega, by omega⟩ (h21_2.mp (by omega)), hf3])) (by omega))
        exact v_sub [0, 1, 2, 3, 4, 5] [1, 2, 3, 0] _ _ rfl rfl rfl (cut_12 (Int.toNat (12 - 0) + 1) found 0 gfl2 gfr2 gft2 gfb2 (by omega) (by rw [show r * 12 + 0 = r * 12 by omega]; exact hf) (by omega))
  exact v_sub [0, 1, 2, 3, 4, 5] [2, 1, 0] _ _ rfl rfl rfl (cut_4 (Int.toNat (8 - 0) + 1) 0 0 gfl gfr gft gfb (by omega) (by rfl) (by omega))

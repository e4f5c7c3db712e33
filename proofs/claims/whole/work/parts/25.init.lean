set_option maxHeartbeats 4000000 in
set_option maxRecDepth 100000 in
theorem c_X3_init (lx : Launch) (D : va_G) (cs : Nat → ClassId) (al : Nat) (wide : Int) (high : Int) (border : Int) (pattern : Int)  : Cv lx D cs yX3_init wsX3_init ({ frames := 1, cells := 0, slots := 0, locals := 24 }) [.ref al] [oL al wide high border pattern] (fun (u : Unit) => True) (fun u : Unit => [oL al 2 2 0 0]) 0 0 := by
  refine Cv_of (cc := cX3_init) (nL := 1) (ret := none) (lv0 := [(0, .ref al)]) RX3 "<init>" (by decide +kernel) rfl (Nat.le_of_ble_eq_true rfl) rfl (fun p9 e9 s9 m9 ar9 be9 me9 c9 A9 Q9 hQ hC => ?_)
  have iX3 : ∀ w ∈ wsX30, w ∈ wsX3_init := by decide +kernel
  have L0 : Cond.methodLink RX3 3 objectInit ∈ wsX3_init := by decide +kernel
  have L1 : Cond.instanceMethod objectInit ∈ wsX3_init := by decide +kernel
  have L2 : Cond.code objectInit ⟨#[0xb1]⟩ 1 none ∈ wsX3_init := by decide +kernel
  have L3 : Cond.fieldLink RX3 9 "Groutline$Layout" "wide" "I" ∈ wsX3_init := by decide +kernel
  have L4 : Cond.fieldLink RX3 15 "Groutline$Layout" "high" "I" ∈ wsX3_init := by decide +kernel
  have L5 : Cond.fieldLink RX3 18 "Groutline$Layout" "border" "I" ∈ wsX3_init := by decide +kernel
  have L6 : Cond.fieldLink RX3 21 "Groutline$Layout" "pattern" "I" ∈ wsX3_init := by decide +kernel
  refine v_aload_n hC 1 0 dX3_init_0 rfl rfl rfl ?_
  refine v_objInit hC 4 dX3_init_1 rfl L0 L1 L2 ⟨by decide, Nat.le_of_ble_eq_true rfl⟩ ?_
  refine v_aload_n hC 5 0 dX3_init_4 rfl rfl rfl ?_
  refine v_iconst hC 6 dX3_init_5 rfl ?_
  refine v_put hC 9 0 0 [oL al 2 high border pattern] (C := RX3) (T := TX3) (N := 4) dX3_init_6 rfl iX3 tyX3_ok nmX3 L3 rfl rfl (by decide) rfl rfl rfl (Nat.le_of_ble_eq_true rfl) rfl ?_
  refine v_aload_n hC 10 0 dX3_init_9 rfl rfl rfl ?_
  refine v_iconst hC 11 dX3_init_10 rfl ?_
  refine v_put hC 14 0 1 [oL al 2 2 border pattern] (C := RX3) (T := TX3) (N := 4) dX3_init_11 rfl iX3 tyX3_ok nmX3 L4 rfl rfl (by decide) rfl rfl rfl (Nat.le_of_ble_eq_true rfl) rfl ?_
  refine v_aload_n hC 15 0 dX3_init_14 rfl rfl rfl ?_
  refine v_iconst hC 16 dX3_init_15 rfl ?_
  refine v_put hC 19 0 2 [oL al 2 2 0 pattern] (C := RX3) (T := TX3) (N := 4) dX3_init_16 rfl iX3 tyX3_ok nmX3 L5 rfl rfl (by decide) rfl rfl rfl (Nat.le_of_ble_eq_true rfl) rfl ?_
  refine v_aload_n hC 20 0 dX3_init_19 rfl rfl rfl ?_
  refine v_iconst hC 21 dX3_init_20 rfl ?_
  refine v_put hC 24 0 3 [oL al 2 2 0 0] (C := RX3) (T := TX3) (N := 4) dX3_init_21 rfl iX3 tyX3_ok nmX3 L6 rfl rfl (by decide) rfl rfl rfl (Nat.le_of_ble_eq_true rfl) rfl ?_
  exact v_vret hC hQ () [0] dX3_init_24 rfl rfl ⟨by decide, by decide⟩ trivial

set_option maxHeartbeats 4000000 in
set_option maxRecDepth 100000 in
theorem c_X2_init (lx : Launch) (D : va_G) (cs : Nat → ClassId) (af : Nat) (fl : Int) (fr : Int) (ft : Int) (fb : Int)  : Cv lx D cs yX2_init wsX2_init ({ frames := 1, cells := 0, slots := 0, locals := 24 }) [.ref af] [oF af fl fr ft fb] (fun (u : Unit) => True) (fun u : Unit => [oF af 0 0 0 0]) 0 0 := by
  refine Cv_of (cc := cX2_init) (nL := 1) (ret := none) (lv0 := [(0, .ref af)]) RX2 "<init>" (by decide +kernel) rfl (Nat.le_of_ble_eq_true rfl) rfl (fun p9 e9 s9 m9 ar9 be9 me9 c9 A9 Q9 hQ hC => ?_)
  have iX2 : ∀ w ∈ wsX20, w ∈ wsX2_init := by decide +kernel
  have L0 : Cond.methodLink RX2 1 objectInit ∈ wsX2_init := by decide +kernel
  have L1 : Cond.instanceMethod objectInit ∈ wsX2_init := by decide +kernel
  have L2 : Cond.code objectInit ⟨#[0xb1]⟩ 1 none ∈ wsX2_init := by decide +kernel
  have L3 : Cond.fieldLink RX2 7 "Groutline$Frame" "left" "I" ∈ wsX2_init := by decide +kernel
  have L4 : Cond.fieldLink RX2 13 "Groutline$Frame" "right" "I" ∈ wsX2_init := by decide +kernel
  have L5 : Cond.fieldLink RX2 16 "Groutline$Frame" "top" "I" ∈ wsX2_init := by decide +kernel
  have L6 : Cond.fieldLink RX2 19 "Groutline$Frame" "bottom" "I" ∈ wsX2_init := by decide +kernel
  refine v_aload_n hC 1 0 dX2_init_0 rfl rfl rfl ?_
  refine v_objInit hC 4 dX2_init_1 rfl L0 L1 L2 ⟨by decide, Nat.le_of_ble_eq_true rfl⟩ ?_
  refine v_aload_n hC 5 0 dX2_init_4 rfl rfl rfl ?_
  refine v_iconst hC 6 dX2_init_5 rfl ?_
  refine v_put hC 9 0 0 [oF af 0 fr ft fb] (C := RX2) (T := TX2) (N := 4) dX2_init_6 rfl iX2 tyX2_ok nmX2 L3 rfl rfl (by decide) rfl rfl rfl (Nat.le_of_ble_eq_true rfl) rfl ?_
  refine v_aload_n hC 10 0 dX2_init_9 rfl rfl rfl ?_
  refine v_iconst hC 11 dX2_init_10 rfl ?_
  refine v_put hC 14 0 1 [oF af 0 0 ft fb] (C := RX2) (T := TX2) (N := 4) dX2_init_11 rfl iX2 tyX2_ok nmX2 L4 rfl rfl (by decide) rfl rfl rfl (Nat.le_of_ble_eq_true rfl) rfl ?_
  refine v_aload_n hC 15 0 dX2_init_14 rfl rfl rfl ?_
  refine v_iconst hC 16 dX2_init_15 rfl ?_
  refine v_put hC 19 0 2 [oF af 0 0 0 fb] (C := RX2) (T := TX2) (N := 4) dX2_init_16 rfl iX2 tyX2_ok nmX2 L5 rfl rfl (by decide) rfl rfl rfl (Nat.le_of_ble_eq_true rfl) rfl ?_
  refine v_aload_n hC 20 0 dX2_init_19 rfl rfl rfl ?_
  refine v_iconst hC 21 dX2_init_20 rfl ?_
  refine v_put hC 24 0 3 [oF af 0 0 0 0] (C := RX2) (T := TX2) (N := 4) dX2_init_21 rfl iX2 tyX2_ok nmX2 L6 rfl rfl (by decide) rfl rfl rfl (Nat.le_of_ble_eq_true rfl) rfl ?_
  exact v_vret hC hQ () [0] dX2_init_24 rfl rfl ⟨by decide, by decide⟩ trivial

set_option maxHeartbeats 4000000 in
set_option maxRecDepth 100000 in
theorem c_X0_init (lx : Launch) (D : va_G) (cs : Nat → ClassId) (h0 : Nat) (v0 : Int)  : Cv lx D cs yX0_init wsX0_init ({ frames := 1, cells := 2, slots := 192, locals := 24 }) [.ref h0] [(h0, .inr (0, [.null, .null, .int (iI v0)]))] (fun (u : Nat × Nat) => True) (fun u : Nat × Nat => [(h0, .inr (0, [.ref u.1, .ref u.2, .int (iI 0)])), aC (cs 1) u.1 96 (fun _ => 0), aC (cs 1) u.2 96 (fun _ => 0)]) 2 192 := by
  refine Cv_of (cc := cX0_init) (nL := 1) (ret := none) (lv0 := [(0, .ref h0)]) RX0 "<init>" (by decide +kernel) rfl (Nat.le_of_ble_eq_true rfl) rfl (fun p9 e9 s9 m9 ar9 be9 me9 c9 A9 Q9 hQ hC => ?_)
  have iX0 : ∀ w ∈ wsX00, w ∈ wsX0_init := by decide +kernel
  have L0 : Cond.methodLink RX0 3 objectInit ∈ wsX0_init := by decide +kernel
  have L1 : Cond.instanceMethod objectInit ∈ wsX0_init := by decide +kernel
  have L2 : Cond.code objectInit ⟨#[0xb1]⟩ 1 none ∈ wsX0_init := by decide +kernel
  have L3 : Cond.arrayClass .boolean ∈ wsX0_init := by decide +kernel
  have L4 : Cond.fieldLink RX0 9 "Groutline$Bars" "pillars" "[Z" ∈ wsX0_init := by decide +kernel
  have L5 : Cond.fieldLink RX0 15 "Groutline$Bars" "barred" "[Z" ∈ wsX0_init := by decide +kernel
  have L6 : Cond.fieldLink RX0 18 "Groutline$Bars" "doorColumn" "I" ∈ wsX0_init := by decide +kernel
  refine v_aload_n hC 1 0 dX0_init_0 rfl rfl rfl ?_
  refine v_objInit hC 4 dX0_init_1 rfl L0 L1 L2 ⟨by decide, Nat.le_of_ble_eq_true rfl⟩ ?_
  refine v_aload_n hC 5 0 dX0_init_4 rfl rfl rfl ?_
  refine v_bipush hC 7 dX0_init_5 rfl rfl ?_
  refine v_newaz hC 9 (n := 96) dX0_init_7 rfl L3 (by decide) ⟨rfl, rfl⟩ ⟨by decide, by decide⟩ (fun q7 => ?_)
  refine v_putF hC 12 0 0 [(h0, .inr (0, [.ref q7, .null, .int (iI v0)])), aC (cs 1) q7 96 (fun _ => 0)] (C := RX0) (T := TX0) (N := 3) dX0_init_9 rfl iX0 tyX0_ok nmX0 L4 rfl rfl (by decide) rfl rfl rfl rfl rfl (Nat.le_of_ble_eq_true rfl) rfl ?_
  refine v_aload_n hC 13 0 dX0_init_12 rfl rfl rfl ?_
  refine v_bipush hC 15 dX0_init_13 rfl rfl ?_
  refine v_newaz hC 17 (n := 96) dX0_init_15 rfl L3 (by decide) ⟨rfl, rfl⟩ ⟨by decide, by decide⟩ (fun q15 => ?_)
  refine v_putF hC 20 0 1 [(h0, .inr (0, [.ref q7, .ref q15, .int (iI v0)])), aC (cs 1) q7 96 (fun _ => 0), aC (cs 1) q15 96 (fun _ => 0)] (C := RX0) (T := TX0) (N := 3) dX0_init_17 rfl iX0 tyX0_ok nmX0 L5 rfl rfl (by decide) rfl rfl rfl rfl rfl (Nat.le_of_ble_eq_true rfl) rfl ?_
  refine v_aload_n hC 21 0 dX0_init_20 rfl rfl rfl ?_
  refine v_iconst hC 22 dX0_init_21 rfl ?_
  refine v_put hC 25 0 2 [(h0, .inr (0, [.ref q7, .ref q15, .int (iI 0)])), aC (cs 1) q7 96 (fun _ => 0), aC (cs 1) q15 96 (fun _ => 0)] (C := RX0) (T := TX0) (N := 3) dX0_init_22 rfl iX0 tyX0_ok nmX0 L6 rfl rfl (by decide) rfl rfl rfl (Nat.le_of_ble_eq_true rfl) rfl ?_
  exact v_vret hC hQ (q7, q15) [0, 1, 2] dX0_init_25 rfl rfl ⟨by decide, by decide⟩ trivial

set_option maxHeartbeats 4000000 in
set_option maxRecDepth 100000 in
theorem c_X1_init (lx : Launch) (D : va_G) (cs : Nat → ClassId) (h0 : Nat) (v0 : Int) (v1 : Int)  : Cv lx D cs yX1_init wsX1_init ({ frames := 1, cells := 4, slots := 384, locals := 24 }) [.ref h0] [(h0, .inr (1, [.int (iI v0), .null, .int (iI v1), .null, .null, .null]))] (fun (u : Nat × Nat × Nat × Nat) => True) (fun u : Nat × Nat × Nat × Nat => [(h0, .inr (1, [.int (iI 0), .ref u.1, .int (iI 0), .ref u.2.1, .ref u.2.2.1, .ref u.2.2.2])), aC (cs 0) u.1 96 (fun _ => 0), aC (cs 0) u.2.1 96 (fun _ => 0), aC (cs 0) u.2.2.1 96 (fun _ => 0), aC (cs 0) u.2.2.2 96 (fun _ => 0)]) 4 384 := by
  refine Cv_of (cc := cX1_init) (nL := 1) (ret := none) (lv0 := [(0, .ref h0)]) RX1 "<init>" (by decide +kernel) rfl (Nat.le_of_ble_eq_true rfl) rfl (fun p9 e9 s9 m9 ar9 be9 me9 c9 A9 Q9 hQ hC => ?_)
  have iX1 : ∀ w ∈ wsX10, w ∈ wsX1_init := by decide +kernel
  have L0 : Cond.methodLink RX1 3 objectInit ∈ wsX1_init := by decide +kernel
  have L1 : Cond.instanceMethod objectInit ∈ wsX1_init := by decide +kernel
  have L2 : Cond.code objectInit ⟨#[0xb1]⟩ 1 none ∈ wsX1_init := by decide +kernel
  have L3 : Cond.fieldLink RX1 9 "Groutline$Cuts" "newTiles" "I" ∈ wsX1_init := by decide +kernel
  have L4 : Cond.arrayClass .int ∈ wsX1_init := by decide +kernel
  have L5 : Cond.fieldLink RX1 15 "Groutline$Cuts" "sources" "[I" ∈ wsX1_init := by decide +kernel
  have L6 : Cond.fieldLink RX1 19 "Groutline$Cuts" "restCount" "I" ∈ wsX1_init := by decide +kernel
  have L7 : Cond.fieldLink RX1 22 "Groutline$Cuts" "restWides" "[I" ∈ wsX1_init := by decide +kernel
  have L8 : Cond.fieldLink RX1 25 "Groutline$Cuts" "restHighs" "[I" ∈ wsX1_init := by decide +kernel
  have L9 : Cond.fieldLink RX1 28 "Groutline$Cuts" "restMakers" "[I" ∈ wsX1_init := by decide +kernel
  refine v_aload_n hC 1 0 dX1_init_0 rfl rfl rfl ?_
  refine v_objInit hC 4 dX1_init_1 rfl L0 L1 L2 ⟨by decide, Nat.le_of_ble_eq_true rfl⟩ ?_
  refine v_aload_n hC 5 0 dX1_init_4 rfl rfl rfl ?_
  refine v_iconst hC 6 dX1_init_5 rfl ?_
  refine v_put hC 9 0 0 [(h0, .inr (1, [.int (iI 0), .null, .int (iI v1), .null, .null, .null]))] (C := RX1) (T := TX1) (N := 6) dX1_init_6 rfl iX1 tyX1_ok nmX1 L3 rfl rfl (by decide) rfl rfl rfl (Nat.le_of_ble_eq_true rfl) rfl ?_
  refine v_aload_n hC 10 0 dX1_init_9 rfl rfl rfl ?_
  refine v_bipush hC 12 dX1_init_10 rfl rfl ?_
  refine v_newai hC 14 (n := 96) dX1_init_12 rfl L4 (by decide) ⟨rfl, rfl⟩ ⟨by decide, by decide⟩ (fun q12 => ?_)
  refine v_putF hC 17 0 1 [(h0, .inr (1, [.int (iI 0), .ref q12, .int (iI v1), .null, .null, .null])), aC (cs 0) q12 96 (fun _ => 0)] (C := RX1) (T := TX1) (N := 6) dX1_init_14 rfl iX1 tyX1_ok nmX1 L5 rfl rfl (by decide) rfl rfl rfl rfl rfl (Nat.le_of_ble_eq_true rfl) rfl ?_
  refine v_aload_n hC 18 0 dX1_init_17 rfl rfl rfl ?_
  refine v_iconst hC 19 dX1_init_18 rfl ?_
  refine v_put hC 22 0 2 [(h0, .inr (1, [.int (iI 0), .ref q12, .int (iI 0), .null, .null, .null])), aC (cs 0) q12 96 (fun _ => 0)] (C := RX1) (T := TX1) (N := 6) dX1_init_19 rfl iX1 tyX1_ok nmX1 L6 rfl rfl (by decide) rfl rfl rfl (Nat.le_of_ble_eq_true rfl) rfl ?_
  refine v_aload_n hC 23 0 dX1_init_22 rfl rfl rfl ?_
  refine v_bipush hC 25 dX1_init_23 rfl rfl ?_
  refine v_newai hC 27 (n := 96) dX1_init_25 rfl L4 (by decide) ⟨rfl, rfl⟩ ⟨by decide, by decide⟩ (fun q25 => ?_)
  refine v_putF hC 30 0 3 [(h0, .inr (1, [.int (iI 0), .ref q12, .int (iI 0), .ref q25, .null, .null])), aC (cs 0) q12 96 (fun _ => 0), aC (cs 0) q25 96 (fun _ => 0)] (C := RX1) (T := TX1) (N := 6) dX1_init_27 rfl iX1 tyX1_ok nmX1 L7 rfl rfl (by decide) rfl rfl rfl rfl rfl (Nat.le_of_ble_eq_true rfl) rfl ?_
  refine v_aload_n hC 31 0 dX1_init_30 rfl rfl rfl ?_
  refine v_bipush hC 33 dX1_init_31 rfl rfl ?_
  refine v_newai hC 35 (n := 96) dX1_init_33 rfl L4 (by decide) ⟨rfl, rfl⟩ ⟨by decide, by decide⟩ (fun q33 => ?_)
  refine v_putF hC 38 0 4 [(h0, .inr (1, [.int (iI 0), .ref q12, .int (iI 0), .ref q25, .ref q33, .null])), aC (cs 0) q12 96 (fun _ => 0), aC (cs 0) q25 96 (fun _ => 0), aC (cs 0) q33 96 (fun _ => 0)] (C := RX1) (T := TX1) (N := 6) dX1_init_35 rfl iX1 tyX1_ok nmX1 L8 rfl rfl (by decide) rfl rfl rfl rfl rfl (Nat.le_of_ble_eq_true rfl) rfl ?_
  refine v_aload_n hC 39 0 dX1_init_38 rfl rfl rfl ?_
  refine v_bipush hC 41 dX1_init_39 rfl rfl ?_
  refine v_newai hC 43 (n := 96) dX1_init_41 rfl L4 (by decide) ⟨rfl, rfl⟩ ⟨by decide, by decide⟩ (fun q41 => ?_)
  refine v_putF hC 46 0 5 [(h0, .inr (1, [.int (iI 0), .ref q12, .int (iI 0), .ref q25, .ref q33, .ref q41])), aC (cs 0) q12 96 (fun _ => 0), aC (cs 0) q25 96 (fun _ => 0), aC (cs 0) q33 96 (fun _ => 0), aC (cs 0) q41 96 (fun _ => 0)] (C := RX1) (T := TX1) (N := 6) dX1_init_43 rfl iX1 tyX1_ok nmX1 L9 rfl rfl (by decide) rfl rfl rfl rfl rfl (Nat.le_of_ble_eq_true rfl) rfl ?_
  exact v_vret hC hQ (q12, q25, q33, q41) [0, 1, 2, 3, 4] dX1_init_46 rfl rfl ⟨by decide, by decide⟩ trivial

set_option maxHeartbeats 4000000 in
set_option maxRecDepth 100000 in
theorem c_X5_init (lx : Launch) (D : va_G) (cs : Nat → ClassId) (h0 : Nat) (v0 : Int) (v1 : Int)  : Cv lx D cs yX5_init wsX5_init ({ frames := 1, cells := 2, slots := 40, locals := 24 }) [.ref h0] [(h0, .inr (5, [.int (iI v0), .int (iI v1), .null, .null]))] (fun (u : Nat × Nat) => True) (fun u : Nat × Nat => [(h0, .inr (5, [.int (iI 0), .int (iI 0), .ref u.1, .ref u.2])), aC (cs 0) u.1 20 (fun _ => 0), aC (cs 0) u.2 20 (fun _ => 0)]) 2 40 := by
  refine Cv_of (cc := cX5_init) (nL := 1) (ret := none) (lv0 := [(0, .ref h0)]) RX5 "<init>" (by decide +kernel) rfl (Nat.le_of_ble_eq_true rfl) rfl (fun p9 e9 s9 m9 ar9 be9 me9 c9 A9 Q9 hQ hC => ?_)
  have iX5 : ∀ w ∈ wsX50, w ∈ wsX5_init := by decide +kernel
  have L0 : Cond.methodLink RX5 3 objectInit ∈ wsX5_init := by decide +kernel
  have L1 : Cond.instanceMethod objectInit ∈ wsX5_init := by decide +kernel
  have L2 : Cond.code objectInit ⟨#[0xb1]⟩ 1 none ∈ wsX5_init := by decide +kernel
  have L3 : Cond.fieldLink RX5 9 "Groutline$Stack" "count" "I" ∈ wsX5_init := by decide +kernel
  have L4 : Cond.fieldLink RX5 15 "Groutline$Stack" "moved" "I" ∈ wsX5_init := by decide +kernel
  have L5 : Cond.arrayClass .int ∈ wsX5_init := by decide +kernel
  have L6 : Cond.fieldLink RX5 18 "Groutline$Stack" "crateFloors" "[I" ∈ wsX5_init := by decide +kernel
  have L7 : Cond.fieldLink RX5 22 "Groutline$Stack" "crateTiles" "[I" ∈ wsX5_init := by decide +kernel
  refine v_aload_n hC 1 0 dX5_init_0 rfl rfl rfl ?_
  refine v_objInit hC 4 dX5_init_1 rfl L0 L1 L2 ⟨by decide, Nat.le_of_ble_eq_true rfl⟩ ?_
  refine v_aload_n hC 5 0 dX5_init_4 rfl rfl rfl ?_
  refine v_iconst hC 6 dX5_init_5 rfl ?_
  refine v_put hC 9 0 0 [(h0, .inr (5, [.int (iI 0), .int (iI v1), .null, .null]))] (C := RX5) (T := TX5) (N := 4) dX5_init_6 rfl iX5 tyX5_ok nmX5 L3 rfl rfl (by decide) rfl rfl rfl (Nat.le_of_ble_eq_true rfl) rfl ?_
  refine v_aload_n hC 10 0 dX5_init_9 rfl rfl rfl ?_
  refine v_iconst hC 11 dX5_init_10 rfl ?_
  refine v_put hC 14 0 1 [(h0, .inr (5, [.int (iI 0), .int (iI 0), .null, .null]))] (C := RX5) (T := TX5) (N := 4) dX5_init_11 rfl iX5 tyX5_ok nmX5 L4 rfl rfl (by decide) rfl rfl rfl (Nat.le_of_ble_eq_true rfl) rfl ?_
  refine v_aload_n hC 15 0 dX5_init_14 rfl rfl rfl ?_
  refine v_bipush hC 17 dX5_init_15 rfl rfl ?_
  refine v_newai hC 19 (n := 20) dX5_init_17 rfl L5 (by decide) ⟨rfl, rfl⟩ ⟨by decide, by decide⟩ (fun q17 => ?_)
  refine v_putF hC 22 0 2 [(h0, .inr (5, [.int (iI 0), .int (iI 0), .ref q17, .null])), aC (cs 0) q17 20 (fun _ => 0)] (C := RX5) (T := TX5) (N := 4) dX5_init_19 rfl iX5 tyX5_ok nmX5 L6 rfl rfl (by decide) rfl rfl rfl rfl rfl (Nat.le_of_ble_eq_true rfl) rfl ?_
  refine v_aload_n hC 23 0 dX5_init_22 rfl rfl rfl ?_
  refine v_bipush hC 25 dX5_init_23 rfl rfl ?_
  refine v_newai hC 27 (n := 20) dX5_init_25 rfl L5 (by decide) ⟨rfl, rfl⟩ ⟨by decide, by decide⟩ (fun q25 => ?_)
  refine v_putF hC 30 0 3 [(h0, .inr (5, [.int (iI 0), .int (iI 0), .ref q17, .ref q25])), aC (cs 0) q17 20 (fun _ => 0), aC (cs 0) q25 20 (fun _ => 0)] (C := RX5) (T := TX5) (N := 4) dX5_init_27 rfl iX5 tyX5_ok nmX5 L7 rfl rfl (by decide) rfl rfl rfl rfl rfl (Nat.le_of_ble_eq_true rfl) rfl ?_
  exact v_vret hC hQ (q17, q25) [0, 1, 2] dX5_init_30 rfl rfl ⟨by decide, by decide⟩ trivial

set_option maxHeartbeats 4000000 in
set_option maxRecDepth 100000 in
theorem c_X6_init (lx : Launch) (D : va_G) (cs : Nat → ClassId) (h0 : Nat) (v0 : Int) (v1 : Int) (v2 : Int)  : Cv lx D cs yX6_init wsX6_init ({ frames := 1, cells := 2, slots := 16, locals := 24 }) [.ref h0] [(h0, .inr (6, [.int (iI v0), .int (iI v1), .int (iI v2), .null, .null]))] (fun (u : Nat × Nat) => True) (fun u : Nat × Nat => [(h0, .inr (6, [.int (iI 0), .int (iI 6), .int (iI 0), .ref u.1, .ref u.2])), aC (cs 1) u.1 8 (fun _ => 0), aC (cs 0) u.2 8 (fun _ => 0)]) 2 16 := by
  refine Cv_of (cc := cX6_init) (nL := 1) (ret := none) (lv0 := [(0, .ref h0)]) RX6 "<init>" (by decide +kernel) rfl (Nat.le_of_ble_eq_true rfl) rfl (fun p9 e9 s9 m9 ar9 be9 me9 c9 A9 Q9 hQ hC => ?_)
  have iX6 : ∀ w ∈ wsX60, w ∈ wsX6_init := by decide +kernel
  have L0 : Cond.methodLink RX6 3 objectInit ∈ wsX6_init := by decide +kernel
  have L1 : Cond.instanceMethod objectInit ∈ wsX6_init := by decide +kernel
  have L2 : Cond.code objectInit ⟨#[0xb1]⟩ 1 none ∈ wsX6_init := by decide +kernel
  have L3 : Cond.fieldLink RX6 9 "Groutline$Work" "hour" "I" ∈ wsX6_init := by decide +kernel
  have L4 : Cond.fieldLink RX6 15 "Groutline$Work" "groutHours" "I" ∈ wsX6_init := by decide +kernel
  have L5 : Cond.fieldLink RX6 18 "Groutline$Work" "hasBegun" "Z" ∈ wsX6_init := by decide +kernel
  have L6 : Cond.arrayClass .boolean ∈ wsX6_init := by decide +kernel
  have L7 : Cond.fieldLink RX6 22 "Groutline$Work" "laid" "[Z" ∈ wsX6_init := by decide +kernel
  have L8 : Cond.arrayClass .int ∈ wsX6_init := by decide +kernel
  have L9 : Cond.fieldLink RX6 26 "Groutline$Work" "dryHours" "[I" ∈ wsX6_init := by decide +kernel
  refine v_aload_n hC 1 0 dX6_init_0 rfl rfl rfl ?_
  refine v_objInit hC 4 dX6_init_1 rfl L0 L1 L2 ⟨by decide, Nat.le_of_ble_eq_true rfl⟩ ?_
  refine v_aload_n hC 5 0 dX6_init_4 rfl rfl rfl ?_
  refine v_iconst hC 6 dX6_init_5 rfl ?_
  refine v_put hC 9 0 0 [(h0, .inr (6, [.int (iI 0), .int (iI v1), .int (iI v2), .null, .null]))] (C := RX6) (T := TX6) (N := 5) dX6_init_6 rfl iX6 tyX6_ok nmX6 L3 rfl rfl (by decide) rfl rfl rfl (Nat.le_of_ble_eq_true rfl) rfl ?_
  refine v_aload_n hC 10 0 dX6_init_9 rfl rfl rfl ?_
  refine v_bipush hC 12 dX6_init_10 rfl rfl ?_
  refine v_put hC 15 0 1 [(h0, .inr (6, [.int (iI 0), .int (iI 6), .int (iI v2), .null, .null]))] (C := RX6) (T := TX6) (N := 5) dX6_init_12 rfl iX6 tyX6_ok nmX6 L4 rfl rfl (by decide) rfl rfl rfl (Nat.le_of_ble_eq_true rfl) rfl ?_
  refine v_aload_n hC 16 0 dX6_init_15 rfl rfl rfl ?_
  refine v_iconst hC 17 dX6_init_16 rfl ?_
  refine v_put hC 20 0 2 [(h0, .inr (6, [.int (iI 0), .int (iI 6), .int (iI 0), .null, .null]))] (C := RX6) (T := TX6) (N := 5) dX6_init_17 rfl iX6 tyX6_ok nmX6 L5 rfl rfl (by decide) rfl (iI_01 (by omega)) rfl (Nat.le_of_ble_eq_true rfl) rfl ?_
  refine v_aload_n hC 21 0 dX6_init_20 rfl rfl rfl ?_
  refine v_bipush hC 23 dX6_init_21 rfl rfl ?_
  refine v_newaz hC 25 (n := 8) dX6_init_23 rfl L6 (by decide) ⟨rfl, rfl⟩ ⟨by decide, by decide⟩ (fun q23 => ?_)
  refine v_putF hC 28 0 3 [(h0, .inr (6, [.int (iI 0), .int (iI 6), .int (iI 0), .ref q23, .null])), aC (cs 1) q23 8 (fun _ => 0)] (C := RX6) (T := TX6) (N := 5) dX6_init_25 rfl iX6 tyX6_ok nmX6 L7 rfl rfl (by decide) rfl rfl rfl rfl rfl (Nat.le_of_ble_eq_true rfl) rfl ?_
  refine v_aload_n hC 29 0 dX6_init_28 rfl rfl rfl ?_
  refine v_bipush hC 31 dX6_init_29 rfl rfl ?_
  refine v_newai hC 33 (n := 8) dX6_init_31 rfl L8 (by decide) ⟨rfl, rfl⟩ ⟨by decide, by decide⟩ (fun q31 => ?_)
  refine v_putF hC 36 0 4 [(h0, .inr (6, [.int (iI 0), .int (iI 6), .int (iI 0), .ref q23, .ref q31])), aC (cs 1) q23 8 (fun _ => 0), aC (cs 0) q31 8 (fun _ => 0)] (C := RX6) (T := TX6) (N := 5) dX6_init_33 rfl iX6 tyX6_ok nmX6 L9 rfl rfl (by decide) rfl rfl rfl rfl rfl (Nat.le_of_ble_eq_true rfl) rfl ?_
  exact v_vret hC hQ (q23, q31) [0, 1, 2] dX6_init_36 rfl rfl ⟨by decide, by decide⟩ trivial

set_option maxHeartbeats 4000000 in
set_option maxRecDepth 100000 in
theorem c_X4_init (lx : Launch) (D : va_G) (cs : Nat → ClassId) (h0 : Nat) (v0 : Int)  : Cv lx D cs yX4_init wsX4_init ({ frames := 2, cells := 8, slots := 676, locals := 44 }) [.ref h0] [(h0, .inr (4, [.int (iI v0), .null, .null, .null, .null, .null, .null, .null, .null]))] (fun (u : Nat × Nat × Nat × Nat × Nat × Nat × Nat × Nat) => True) (fun u : Nat × Nat × Nat × Nat × Nat × Nat × Nat × Nat => [(h0, .inr (4, [.int (iI 0), .ref u.1, .ref u.2.1, .ref u.2.2.1, .ref u.2.2.2.1, .ref u.2.2.2.2.1, .ref u.2.2.2.2.2.1, .ref u.2.2.2.2.2.2.1, .ref u.2.2.2.2.2.2.2])), aC (cs 0) u.1 96 (fun _ => 0), aC (cs 0) u.2.1 96 (fun _ => 0), aC (cs 0) u.2.2.1 96 (fun _ => 0), aC (cs 0) u.2.2.2.1 96 (fun _ => 0), aC (cs 0) u.2.2.2.2.1 96 (fun _ => 0), aC (cs 0) u.2.2.2.2.2.1 96 (fun _ => 0), aC (cs 0) u.2.2.2.2.2.2.1 96 (fun _ => 0), oF u.2.2.2.2.2.2.2 0 0 0 0]) 8 676 := by
  refine Cv_of (cc := cX4_init) (nL := 1) (ret := none) (lv0 := [(0, .ref h0)]) RX4 "<init>" (by decide +kernel) rfl (Nat.le_of_ble_eq_true rfl) rfl (fun p9 e9 s9 m9 ar9 be9 me9 c9 A9 Q9 hQ hC => ?_)
  have iX4 : ∀ w ∈ wsX40, w ∈ wsX4_init := by decide +kernel
  have iX2 : ∀ w ∈ wsX20, w ∈ wsX4_init := by decide +kernel
  have L0 : Cond.methodLink RX4 3 objectInit ∈ wsX4_init := by decide +kernel
  have L1 : Cond.instanceMethod objectInit ∈ wsX4_init := by decide +kernel
  have L2 : Cond.code objectInit ⟨#[0xb1]⟩ 1 none ∈ wsX4_init := by decide +kernel
  have L3 : Cond.fieldLink RX4 9 "Groutline$Pieces" "count" "I" ∈ wsX4_init := by decide +kernel
  have L4 : Cond.arrayClass .int ∈ wsX4_init := by decide +kernel
  have L5 : Cond.fieldLink RX4 15 "Groutline$Pieces" "ofCells" "[I" ∈ wsX4_init := by decide +kernel
  have L6 : Cond.fieldLink RX4 19 "Groutline$Pieces" "kinds" "[I" ∈ wsX4_init := by decide +kernel
  have L7 : Cond.fieldLink RX4 22 "Groutline$Pieces" "columns" "[I" ∈ wsX4_init := by decide +kernel
  have L8 : Cond.fieldLink RX4 25 "Groutline$Pieces" "rows" "[I" ∈ wsX4_init := by decide +kernel
  have L9 : Cond.fieldLink RX4 28 "Groutline$Pieces" "sizes" "[I" ∈ wsX4_init := by decide +kernel
  have L10 : Cond.fieldLink RX4 31 "Groutline$Pieces" "boxWides" "[I" ∈ wsX4_init := by decide +kernel
  have L11 : Cond.fieldLink RX4 34 "Groutline$Pieces" "boxHighs" "[I" ∈ wsX4_init := by decide +kernel
  have L12 : Cond.classLink RX4 37 RX2 ∈ wsX4_init := by decide +kernel
  have L13 : Cond.instantiable RX2 4 ∈ wsX4_init := by decide +kernel
  have L14 : Cond.initialized RX2 ∈ wsX4_init := by decide +kernel
  have L15 : Cond.initialized yX2_init.cls ∈ wsX4_init := by decide +kernel
  have L16 : Cond.instanceMethod yX2_init ∈ wsX4_init := by decide +kernel
  have L17 : Cond.fieldLink RX4 40 "Groutline$Pieces" "frame" "LGroutline$Frame;" ∈ wsX4_init := by decide +kernel
  refine v_aload_n hC 1 0 dX4_init_0 rfl rfl rfl ?_
  refine v_objInit hC 4 dX4_init_1 rfl L0 L1 L2 ⟨by decide, Nat.le_of_ble_eq_true rfl⟩ ?_
  refine v_aload_n hC 5 0 dX4_init_4 rfl rfl rfl ?_
  refine v_iconst hC 6 dX4_init_5 rfl ?_
  refine v_put hC 9 0 0 [(h0, .inr (4, [.int (iI 0), .null, .null, .null, .null, .null, .null, .null, .null]))] (C := RX4) (T := TX4) (N := 9) dX4_init_6 rfl iX4 tyX4_ok nmX4 L3 rfl rfl (by decide) rfl rfl rfl (Nat.le_of_ble_eq_true rfl) rfl ?_
  refine v_aload_n hC 10 0 dX4_init_9 rfl rfl rfl ?_
  refine v_bipush hC 12 dX4_init_10 rfl rfl ?_
  refine v_newai hC 14 (n := 96) dX4_init_12 rfl L4 (by decide) ⟨rfl, rfl⟩ ⟨by decide, by decide⟩ (fun q12 => ?_)
  refine v_putF hC 17 0 1 [(h0, .inr (4, [.int (iI 0), .ref q12, .null, .null, .null, .null, .null, .null, .null])), aC (cs 0) q12 96 (fun _ => 0)] (C := RX4) (T := TX4) (N := 9) dX4_init_14 rfl iX4 tyX4_ok nmX4 L5 rfl rfl (by decide) rfl rfl rfl rfl rfl (Nat.le_of_ble_eq_true rfl) rfl ?_
  refine v_aload_n hC 18 0 dX4_init_17 rfl rfl rfl ?_
  refine v_bipush hC 20 dX4_init_18 rfl rfl ?_
  refine v_newai hC 22 (n := 96) dX4_init_20 rfl L4 (by decide) ⟨rfl, rfl⟩ ⟨by decide, by decide⟩ (fun q20 => ?_)
  refine v_putF hC 25 0 2 [(h0, .inr (4, [.int (iI 0), .ref q12, .ref q20, .null, .null, .null, .null, .null, .null])), aC (cs 0) q12 96 (fun _ => 0), aC (cs 0) q20 96 (fun _ => 0)] (C := RX4) (T := TX4) (N := 9) dX4_init_22 rfl iX4 tyX4_ok nmX4 L6 rfl rfl (by decide) rfl rfl rfl rfl rfl (Nat.le_of_ble_eq_true rfl) rfl ?_
  refine v_aload_n hC 26 0 dX4_init_25 rfl rfl rfl ?_
  refine v_bipush hC 28 dX4_init_26 rfl rfl ?_
  refine v_newai hC 30 (n := 96) dX4_init_28 rfl L4 (by decide) ⟨rfl, rfl⟩ ⟨by decide, by decide⟩ (fun q28 => ?_)
  refine v_putF hC 33 0 3 [(h0, .inr (4, [.int (iI 0), .ref q12, .ref q20, .ref q28, .null, .null, .null, .null, .null])), aC (cs 0) q12 96 (fun _ => 0), aC (cs 0) q20 96 (fun _ => 0), aC (cs 0) q28 96 (fun _ => 0)] (C := RX4) (T := TX4) (N := 9) dX4_init_30 rfl iX4 tyX4_ok nmX4 L7 rfl rfl (by decide) rfl rfl rfl rfl rfl (Nat.le_of_ble_eq_true rfl) rfl ?_
  refine v_aload_n hC 34 0 dX4_init_33 rfl rfl rfl ?_
  refine v_bipush hC 36 dX4_init_34 rfl rfl ?_
  refine v_newai hC 38 (n := 96) dX4_init_36 rfl L4 (by decide) ⟨rfl, rfl⟩ ⟨by decide, by decide⟩ (fun q36 => ?_)
  refine v_putF hC 41 0 4 [(h0, .inr (4, [.int (iI 0), .ref q12, .ref q20, .ref q28, .ref q36, .null, .null, .null, .null])), aC (cs 0) q12 96 (fun _ => 0), aC (cs 0) q20 96 (fun _ => 0), aC (cs 0) q28 96 (fun _ => 0), aC (cs 0) q36 96 (fun _ => 0)] (C := RX4) (T := TX4) (N := 9) dX4_init_38 rfl iX4 tyX4_ok nmX4 L8 rfl rfl (by decide) rfl rfl rfl rfl rfl (Nat.le_of_ble_eq_true rfl) rfl ?_
  refine v_aload_n hC 42 0 dX4_init_41 rfl rfl rfl ?_
  refine v_bipush hC 44 dX4_init_42 rfl rfl ?_
  refine v_newai hC 46 (n := 96) dX4_init_44 rfl L4 (by decide) ⟨rfl, rfl⟩ ⟨by decide, by decide⟩ (fun q44 => ?_)
  refine v_putF hC 49 0 5 [(h0, .inr (4, [.int (iI 0), .ref q12, .ref q20, .ref q28, .ref q36, .ref q44, .null, .null, .null])), aC (cs 0) q12 96 (fun _ => 0), aC (cs 0) q20 96 (fun _ => 0), aC (cs 0) q28 96 (fun _ => 0), aC (cs 0) q36 96 (fun _ => 0), aC (cs 0) q44 96 (fun _ => 0)] (C := RX4) (T := TX4) (N := 9) dX4_init_46 rfl iX4 tyX4_ok nmX4 L9 rfl rfl (by decide) rfl rfl rfl rfl rfl (Nat.le_of_ble_eq_true rfl) rfl ?_
  refine v_aload_n hC 50 0 dX4_init_49 rfl rfl rfl ?_
  refine v_bipush hC 52 dX4_init_50 rfl rfl ?_
  refine v_newai hC 54 (n := 96) dX4_init_52 rfl L4 (by decide) ⟨rfl, rfl⟩ ⟨by decide, by decide⟩ (fun q52 => ?_)
  refine v_putF hC 57 0 6 [(h0, .inr (4, [.int (iI 0), .ref q12, .ref q20, .ref q28, .ref q36, .ref q44, .ref q52, .null, .null])), aC (cs 0) q12 96 (fun _ => 0), aC (cs 0) q20 96 (fun _ => 0), aC (cs 0) q28 96 (fun _ => 0), aC (cs 0) q36 96 (fun _ => 0), aC (cs 0) q44 96 (fun _ => 0), aC (cs 0) q52 96 (fun _ => 0)] (C := RX4) (T := TX4) (N := 9) dX4_init_54 rfl iX4 tyX4_ok nmX4 L10 rfl rfl (by decide) rfl rfl rfl rfl rfl (Nat.le_of_ble_eq_true rfl) rfl ?_
  refine v_aload_n hC 58 0 dX4_init_57 rfl rfl rfl ?_
  refine v_bipush hC 60 dX4_init_58 rfl rfl ?_
  refine v_newai hC 62 (n := 96) dX4_init_60 rfl L4 (by decide) ⟨rfl, rfl⟩ ⟨by decide, by decide⟩ (fun q60 => ?_)
  refine v_putF hC 65 0 7 [(h0, .inr (4, [.int (iI 0), .ref q12, .ref q20, .ref q28, .ref q36, .ref q44, .ref q52, .ref q60, .null])), aC (cs 0) q12 96 (fun _ => 0), aC (cs 0) q20 96 (fun _ => 0), aC (cs 0) q28 96 (fun _ => 0), aC (cs 0) q36 96 (fun _ => 0), aC (cs 0) q44 96 (fun _ => 0), aC (cs 0) q52 96 (fun _ => 0), aC (cs 0) q60 96 (fun _ => 0)] (C := RX4) (T := TX4) (N := 9) dX4_init_62 rfl iX4 tyX4_ok nmX4 L11 rfl rfl (by decide) rfl rfl rfl rfl rfl (Nat.le_of_ble_eq_true rfl) rfl ?_
  refine v_aload_n hC 66 0 dX4_init_65 rfl rfl rfl ?_
  refine v_new hC 69 (C := RX2) (T := TX2) (N := 4) (ci := 2) (fs := [.int (iI 0), .int (iI 0), .int (iI 0), .int (iI 0)]) dX4_init_66 rfl iX2 tyX2_ok L12 L13 L14 rfl (by decide +kernel) ⟨rfl, rfl⟩ ⟨by decide, by decide⟩ (fun q66 => ?_)
  refine v_dup hC 70 dX4_init_69 rfl rfl ?_
  refine v_callINv hC 73 0 [8] [0, 1, 2, 3, 4, 5, 6, 7] [(h0, .inr (4, [.int (iI 0), .ref q12, .ref q20, .ref q28, .ref q36, .ref q44, .ref q52, .ref q60, .null])), aC (cs 0) q12 96 (fun _ => 0), aC (cs 0) q20 96 (fun _ => 0), aC (cs 0) q28 96 (fun _ => 0), aC (cs 0) q36 96 (fun _ => 0), aC (cs 0) q44 96 (fun _ => 0), aC (cs 0) q52 96 (fun _ => 0), aC (cs 0) q60 96 (fun _ => 0)] (As := []) (rest := [.ref q66, .ref h0]) (ret' := none) (c_X2_init lx D cs q66 0 0 0 0 ) dX4_init_70 rfl rfl gX4_init_X2_init_n39 L15 L16 rfl RX7 (by decide +kernel) rfl rfl rfl (by decide +kernel) ⟨by decide, by decide⟩ rfl rfl rfl rfl (by decide) rfl (Nat.le_of_ble_eq_true rfl) ⟨rfl, rfl⟩ ⟨by decide, by decide⟩ (fun u70 h70 => ?_)
  (try dsimp only at h70)
  show V p9 lx e9 ({ frames := 2, cells := 8, slots := 676, locals := 44 }) s9 m9 ar9 be9 me9 c9 Q9 D A9 s9.heap 1 8 676 [(h0, .inr (4, [.int (iI 0), .ref q12, .ref q20, .ref q28, .ref q36, .ref q44, .ref q52, .ref q60, .null])), aC (cs 0) q12 96 (fun _ => 0), aC (cs 0) q20 96 (fun _ => 0), aC (cs 0) q28 96 (fun _ => 0), aC (cs 0) q36 96 (fun _ => 0), aC (cs 0) q44 96 (fun _ => 0), aC (cs 0) q52 96 (fun _ => 0), aC (cs 0) q60 96 (fun _ => 0), oF q66 0 0 0 0] [(0, .ref h0)] 73 [.ref q66, .ref h0]
  refine v_putF hC 76 0 8 [(h0, .inr (4, [.int (iI 0), .ref q12, .ref q20, .ref q28, .ref q36, .ref q44, .ref q52, .ref q60, .ref q66])), aC (cs 0) q12 96 (fun _ => 0), aC (cs 0) q20 96 (fun _ => 0), aC (cs 0) q28 96 (fun _ => 0), aC (cs 0) q36 96 (fun _ => 0), aC (cs 0) q44 96 (fun _ => 0), aC (cs 0) q52 96 (fun _ => 0), aC (cs 0) q60 96 (fun _ => 0), oF q66 0 0 0 0] (C := RX4) (T := TX4) (N := 9) dX4_init_73 rfl iX4 tyX4_ok nmX4 L17 rfl rfl (by decide) rfl rfl rfl rfl rfl (Nat.le_of_ble_eq_true rfl) rfl ?_
  exact v_vret hC hQ (q12, q20, q28, q36, q44, q52, q60, q66) [0, 1, 2, 3, 4, 5, 6, 7, 8] dX4_init_76 rfl rfl ⟨by decide, by decide⟩ trivial

set_option maxHeartbeats 4000000 in
set_option maxRecDepth 100000 in
theorem c_X7_init (lx : Launch) (D : va_G) (cs : Nat → ClassId) (ag : Nat)  : Cv lx D cs yX7_init wsX7_init ({ frames := 7, cells := 25, slots := 1343, locals := 166 }) [.ref ag] [(ag, .inr (7, [.null, .null, .null, .null, .null, .null, .null]))] (fun (u : Nat × (Nat → Nat) × (Nat → Nat) × (Nat → Nat) × (Nat → Nat) × (Nat → Nat) × Nat × (Int → Int) × Int × (Int → Int) × (Int → Int) × (Int → Int) × (Int → Int) × (Int → Int) × (Int → Int) × (Int → Int) × Int × Int × Int × Int × Int × Int × (Int → Int) × (Int → Int) × (Int → Int) × (Int → Int)) => (u.2.2.2.2.2.2.2.1 = rnw (fun _ => 0) (fun _ => 0) (fun _ => 0) 0 2 0 8) ∧ (PFI 2 2 0 0 u.2.2.2.2.2.2.2.1 96 u.2.2.2.2.2.2.2.2.1 u.2.2.2.2.2.2.2.2.2.1 u.2.2.2.2.2.2.2.2.2.2.1 u.2.2.2.2.2.2.2.2.2.2.2.1 u.2.2.2.2.2.2.2.2.2.2.2.2.1 u.2.2.2.2.2.2.2.2.2.2.2.2.2.1 u.2.2.2.2.2.2.2.2.2.2.2.2.2.2.1 u.2.2.2.2.2.2.2.2.2.2.2.2.2.2.2.1) ∧ (Rn u.2.2.2.2.2.2.2.2.2.2.1 0 2) ∧ (((u.2.2.2.2.2.2.2.2.2.2.2.2.2.2.2.2.2.2.2.2.2.1, u.2.2.2.2.2.2.2.2.2.2.2.2.2.2.2.2.2.2.2.2.2.2.1, u.2.2.2.2.2.2.2.2.2.2.2.2.2.2.2.2.2.2.2.2.2.2.2.1, u.2.2.2.2.2.2.2.2.2.2.2.2.2.2.2.2.2.2.2.2.2.2.2.2.1) : Rs) = ctR 2 2 u.2.2.2.2.2.2.2.2.2.2.1 u.2.2.2.2.2.2.2.2.2.2.2.2.2.2.1 u.2.2.2.2.2.2.2.2.2.2.2.2.2.2.2.1 (0, (fun _ => 0), (fun _ => 0), (fun _ => 0)) u.2.2.2.2.2.2.2.2.1.toNat) ∧ (u.2.2.2.2.2.2.2.2.2.2.2.2.2.2.2.2.2.2.2.2.1 = ctT 2 2 u.2.2.2.2.2.2.2.2.2.2.1 u.2.2.2.2.2.2.2.2.2.2.2.2.2.2.1 u.2.2.2.2.2.2.2.2.2.2.2.2.2.2.2.1 (0, (fun _ => 0), (fun _ => 0), (fun _ => 0)) u.2.2.2.2.2.2.2.2.1.toNat) ∧ (∀ j : Int, 0 ≤ j → j < u.2.2.2.2.2.2.2.2.1 → u.2.2.2.2.2.2.2.2.2.2.2.2.2.2.2.2.2.2.2.2.2.2.2.2.2 j = ctS 2 2 u.2.2.2.2.2.2.2.2.2.2.1 u.2.2.2.2.2.2.2.2.2.2.2.2.2.2.1 u.2.2.2.2.2.2.2.2.2.2.2.2.2.2.2.1 (0, (fun _ => 0), (fun _ => 0), (fun _ => 0)) j.toNat) ∧ (0 ≤ u.2.2.2.2.2.2.2.2.1 ∧ u.2.2.2.2.2.2.2.2.1 ≤ 96)) (fun u : Nat × (Nat → Nat) × (Nat → Nat) × (Nat → Nat) × (Nat → Nat) × (Nat → Nat) × Nat × (Int → Int) × Int × (Int → Int) × (Int → Int) × (Int → Int) × (Int → Int) × (Int → Int) × (Int → Int) × (Int → Int) × Int × Int × Int × Int × Int × Int × (Int → Int) × (Int → Int) × (Int → Int) × (Int → Int) => [oG ag u.1 (u.2.1 0) (u.2.2.1 0) (u.2.2.2.1 0) (u.2.2.2.2.1 0) (u.2.2.2.2.2.1 0) u.2.2.2.2.2.2.1, oL u.1 2 2 0 0, oB u.2.1 0, aC (cs 1) (u.2.1 1) 96 (fun _ => 0), aC (cs 1) (u.2.1 2) 96 u.2.2.2.2.2.2.2.1, oP u.2.2.1 u.2.2.2.2.2.2.2.2.1, aC (cs 0) (u.2.2.1 1) 96 u.2.2.2.2.2.2.2.2.2.1, aC (cs 0) (u.2.2.1 2) 96 u.2.2.2.2.2.2.2.2.2.2.1, aC (cs 0) (u.2.2.1 3) 96 u.2.2.2.2.2.2.2.2.2.2.2.1, aC (cs 0) (u.2.2.1 4) 96 u.2.2.2.2.2.2.2.2.2.2.2.2.1, aC (cs 0) (u.2.2.1 5) 96 u.2.2.2.2.2.2.2.2.2.2.2.2.2.1, aC (cs 0) (u.2.2.1 6) 96 u.2.2.2.2.2.2.2.2.2.2.2.2.2.2.1, aC (cs 0) (u.2.2.1 7) 96 u.2.2.2.2.2.2.2.2.2.2.2.2.2.2.2.1, oF (u.2.2.1 8) u.2.2.2.2.2.2.2.2.2.2.2.2.2.2.2.2.1 u.2.2.2.2.2.2.2.2.2.2.2.2.2.2.2.2.2.1 u.2.2.2.2.2.2.2.2.2.2.2.2.2.2.2.2.2.2.1 u.2.2.2.2.2.2.2.2.2.2.2.2.2.2.2.2.2.2.2.1, oC u.2.2.2.1 u.2.2.2.2.2.2.2.2.2.2.2.2.2.2.2.2.2.2.2.2.1 u.2.2.2.2.2.2.2.2.2.2.2.2.2.2.2.2.2.2.2.2.2.1, aC (cs 0) (u.2.2.2.1 1) 96 u.2.2.2.2.2.2.2.2.2.2.2.2.2.2.2.2.2.2.2.2.2.2.2.2.2, aC (cs 0) (u.2.2.2.1 2) 96 u.2.2.2.2.2.2.2.2.2.2.2.2.2.2.2.2.2.2.2.2.2.2.1, aC (cs 0) (u.2.2.2.1 3) 96 u.2.2.2.2.2.2.2.2.2.2.2.2.2.2.2.2.2.2.2.2.2.2.2.1, aC (cs 0) (u.2.2.2.1 4) 96 u.2.2.2.2.2.2.2.2.2.2.2.2.2.2.2.2.2.2.2.2.2.2.2.2.1, oK u.2.2.2.2.1 0 0, aC (cs 0) (u.2.2.2.2.1 1) 20 (fun _ => 0), aC (cs 0) (u.2.2.2.2.1 2) 20 (fun _ => 0), oW u.2.2.2.2.2.1 0 6 0, aC (cs 1) (u.2.2.2.2.2.1 1) 8 (fun _ => 0), aC (cs 0) (u.2.2.2.2.2.1 2) 8 (fun _ => 0), oF u.2.2.2.2.2.2.1 0 0 0 0]) 25 1343 := by
  refine Cv_of (cc := cX7_init) (nL := 1) (ret := none) (lv0 := [(0, .ref ag)]) RX7 "<init>" (by decide +kernel) rfl (Nat.le_of_ble_eq_true rfl) rfl (fun p9 e9 s9 m9 ar9 be9 me9 c9 A9 Q9 hQ hC => ?_)
  have iX3 : ∀ w ∈ wsX30, w ∈ wsX7_init := by decide +kernel
  have iX7 : ∀ w ∈ wsX70, w ∈ wsX7_init := by decide +kernel
  have iX0 : ∀ w ∈ wsX00, w ∈ wsX7_init := by decide +kernel
  have iX4 : ∀ w ∈ wsX40, w ∈ wsX7_init := by decide +kernel
  have iX1 : ∀ w ∈ wsX10, w ∈ wsX7_init := by decide +kernel
  have iX5 : ∀ w ∈ wsX50, w ∈ wsX7_init := by decide +kernel
  have iX6 : ∀ w ∈ wsX60, w ∈ wsX7_init := by decide +kernel
  have iX2 : ∀ w ∈ wsX20, w ∈ wsX7_init := by decide +kernel
  have L0 : Cond.methodLink RX7 3 objectInit ∈ wsX7_init := by decide +kernel
  have L1 : Cond.instanceMethod objectInit ∈ wsX7_init := by decide +kernel
  have L2 : Cond.code objectInit ⟨#[0xb1]⟩ 1 none ∈ wsX7_init := by decide +kernel
  have L3 : Cond.classLink RX7 9 RX3 ∈ wsX7_init := by decide +kernel
  have L4 : Cond.instantiable RX3 4 ∈ wsX7_init := by decide +kernel
  have L5 : Cond.initialized RX3 ∈ wsX7_init := by decide +kernel
  have L6 : Cond.initialized yX3_init.cls ∈ wsX7_init := by decide +kernel
  have L7 : Cond.instanceMethod yX3_init ∈ wsX7_init := by decide +kernel
  have L8 : Cond.fieldLink RX7 12 "Groutline" "layout" "LGroutline$Layout;" ∈ wsX7_init := by decide +kernel
  have L9 : Cond.classLink RX7 16 RX0 ∈ wsX7_init := by decide +kernel
  have L10 : Cond.instantiable RX0 3 ∈ wsX7_init := by decide +kernel
  have L11 : Cond.initialized RX0 ∈ wsX7_init := by decide +kernel
  have L12 : Cond.initialized yX0_init.cls ∈ wsX7_init := by decide +kernel
  have L13 : Cond.instanceMethod yX0_init ∈ wsX7_init := by decide +kernel
  have L14 : Cond.fieldLink RX7 19 "Groutline" "bars" "LGroutline$Bars;" ∈ wsX7_init := by decide +kernel
  have L15 : Cond.classLink RX7 23 RX4 ∈ wsX7_init := by decide +kernel
  have L16 : Cond.instantiable RX4 9 ∈ wsX7_init := by decide +kernel
  have L17 : Cond.initialized RX4 ∈ wsX7_init := by decide +kernel
  have L18 : Cond.initialized yX4_init.cls ∈ wsX7_init := by decide +kernel
  have L19 : Cond.instanceMethod yX4_init ∈ wsX7_init := by decide +kernel
  have L20 : Cond.fieldLink RX7 26 "Groutline" "pieces" "LGroutline$Pieces;" ∈ wsX7_init := by decide +kernel
  have L21 : Cond.classLink RX7 30 RX1 ∈ wsX7_init := by decide +kernel
  have L22 : Cond.instantiable RX1 6 ∈ wsX7_init := by decide +kernel
  have L23 : Cond.initialized RX1 ∈ wsX7_init := by decide +kernel
  have L24 : Cond.initialized yX1_init.cls ∈ wsX7_init := by decide +kernel
  have L25 : Cond.instanceMethod yX1_init ∈ wsX7_init := by decide +kernel
  have L26 : Cond.fieldLink RX7 33 "Groutline" "cuts" "LGroutline$Cuts;" ∈ wsX7_init := by decide +kernel
  have L27 : Cond.classLink RX7 37 RX5 ∈ wsX7_init := by decide +kernel
  have L28 : Cond.instantiable RX5 4 ∈ wsX7_init := by decide +kernel
  have L29 : Cond.initialized RX5 ∈ wsX7_init := by decide +kernel
  have L30 : Cond.initialized yX5_init.cls ∈ wsX7_init := by decide +kernel
  have L31 : Cond.instanceMethod yX5_init ∈ wsX7_init := by decide +kernel
  have L32 : Cond.fieldLink RX7 40 "Groutline" "stack" "LGroutline$Stack;" ∈ wsX7_init := by decide +kernel
  have L33 : Cond.classLink RX7 44 RX6 ∈ wsX7_init := by decide +kernel
  have L34 : Cond.instantiable RX6 5 ∈ wsX7_init := by decide +kernel
  have L35 : Cond.initialized RX6 ∈ wsX7_init := by decide +kernel
  have L36 : Cond.initialized yX6_init.cls ∈ wsX7_init := by decide +kernel
  have L37 : Cond.instanceMethod yX6_init ∈ wsX7_init := by decide +kernel
  have L38 : Cond.fieldLink RX7 47 "Groutline" "work" "LGroutline$Work;" ∈ wsX7_init := by decide +kernel
  have L39 : Cond.classLink RX7 51 RX2 ∈ wsX7_init := by decide +kernel
  have L40 : Cond.instantiable RX2 4 ∈ wsX7_init := by decide +kernel
  have L41 : Cond.initialized RX2 ∈ wsX7_init := by decide +kernel
  have L42 : Cond.initialized yX2_init.cls ∈ wsX7_init := by decide +kernel
  have L43 : Cond.instanceMethod yX2_init ∈ wsX7_init := by decide +kernel
  have L44 : Cond.fieldLink RX7 54 "Groutline" "frame" "LGroutline$Frame;" ∈ wsX7_init := by decide +kernel
  refine v_aload_n hC 1 0 dX7_init_0 rfl rfl rfl ?_
  refine v_objInit hC 4 dX7_init_1 rfl L0 L1 L2 ⟨by decide, Nat.le_of_ble_eq_true rfl⟩ ?_
  refine v_aload_n hC 5 0 dX7_init_4 rfl rfl rfl ?_
  refine v_new hC 8 (C := RX3) (T := TX3) (N := 4) (ci := 3) (fs := [.int (iI 0), .int (iI 0), .int (iI 0), .int (iI 0)]) dX7_init_5 rfl iX3 tyX3_ok L3 L4 L5 rfl (by decide +kernel) ⟨rfl, rfl⟩ ⟨by decide, by decide⟩ (fun q5 => ?_)
  refine v_dup hC 9 dX7_init_8 rfl rfl ?_
  refine v_callINv hC 12 0 [1] [0] [(ag, .inr (7, [.null, .null, .null, .null, .null, .null, .null]))] (As := []) (rest := [.ref q5, .ref ag]) (ret' := none) (c_X3_init lx D cs q5 0 0 0 0 ) dX7_init_9 rfl rfl gX7_init_X3_init_n11 L6 L7 rfl RX7 (by decide +kernel) rfl rfl rfl (by decide +kernel) ⟨by decide, by decide⟩ rfl rfl rfl rfl (by decide) rfl (Nat.le_of_ble_eq_true rfl) ⟨rfl, rfl⟩ ⟨by decide, by decide⟩ (fun u9 h9 => ?_)
  (try dsimp only at h9)
  show V p9 lx e9 ({ frames := 7, cells := 25, slots := 1343, locals := 166 }) s9 m9 ar9 be9 me9 c9 Q9 D A9 s9.heap 1 1 4 [(ag, .inr (7, [.null, .null, .null, .null, .null, .null, .null])), oL q5 2 2 0 0] [(0, .ref ag)] 12 [.ref q5, .ref ag]
  refine v_putF hC 15 0 0 [(ag, .inr (7, [.ref q5, .null, .null, .null, .null, .null, .null])), oL q5 2 2 0 0] (C := RX7) (T := TX7) (N := 7) dX7_init_12 rfl iX7 tyX7_ok nmX7 L8 rfl rfl (by decide) rfl rfl rfl rfl rfl (Nat.le_of_ble_eq_true rfl) rfl ?_
  refine v_aload_n hC 16 0 dX7_init_15 rfl rfl rfl ?_
  refine v_new hC 19 (C := RX0) (T := TX0) (N := 3) (ci := 0) (fs := [.null, .null, .int (iI 0)]) dX7_init_16 rfl iX0 tyX0_ok L9 L10 L11 rfl (by decide +kernel) ⟨rfl, rfl⟩ ⟨by decide, by decide⟩ (fun q16 => ?_)
  refine v_dup hC 20 dX7_init_19 rfl rfl ?_
  refine v_callINv hC 23 0 [2] [0, 1] [(ag, .inr (7, [.ref q5, .null, .null, .null, .null, .null, .null])), oL q5 2 2 0 0] (As := []) (rest := [.ref q16, .ref ag]) (ret' := none) (c_X0_init lx D cs q16 0 ) dX7_init_20 rfl rfl gX7_init_X0_init_n18 L12 L13 rfl RX7 (by decide +kernel) rfl rfl rfl (by decide +kernel) ⟨by decide, by decide⟩ rfl rfl rfl rfl (by decide) rfl (Nat.le_of_ble_eq_true rfl) ⟨rfl, rfl⟩ ⟨by decide, by decide⟩ (fun u20 h20 => ?_)
  obtain ⟨q1_20, q2_20⟩ := u20
  (try dsimp only at h20)
  show V p9 lx e9 ({ frames := 7, cells := 25, slots := 1343, locals := 166 }) s9 m9 ar9 be9 me9 c9 Q9 D A9 s9.heap 1 4 199 [(ag, .inr (7, [.ref q5, .null, .null, .null, .null, .null, .null])), oL q5 2 2 0 0, (q16, .inr (0, [.ref q1_20, .ref q2_20, .int (iI 0)])), aC (cs 1) q1_20 96 (fun _ => 0), aC (cs 1) q2_20 96 (fun _ => 0)] [(0, .ref ag)] 23 [.ref q16, .ref ag]
  refine v_putF hC 26 0 1 [(ag, .inr (7, [.ref q5, .ref q16, .null, .null, .null, .null, .null])), oL q5 2 2 0 0, (q16, .inr (0, [.ref q1_20, .ref q2_20, .int (iI 0)])), aC (cs 1) q1_20 96 (fun _ => 0), aC (cs 1) q2_20 96 (fun _ => 0)] (C := RX7) (T := TX7) (N := 7) dX7_init_23 rfl iX7 tyX7_ok nmX7 L14 rfl rfl (by decide) rfl rfl rfl rfl rfl (Nat.le_of_ble_eq_true rfl) rfl ?_
  refine v_aload_n hC 27 0 dX7_init_26 rfl rfl rfl ?_
  refine v_new hC 30 (C := RX4) (T := TX4) (N := 9) (ci := 4) (fs := [.int (iI 0), .null, .null, .null, .null, .null, .null, .null, .null]) dX7_init_27 rfl iX4 tyX4_ok L15 L16 L17 rfl (by decide +kernel) ⟨rfl, rfl⟩ ⟨by decide, by decide⟩ (fun q27 => ?_)
  refine v_dup hC 31 dX7_init_30 rfl rfl ?_
  refine v_callINv hC 34 0 [5] [0, 1, 2, 3, 4] [(ag, .inr (7, [.ref q5, .ref q16, .null, .null, .null, .null, .null])), oL q5 2 2 0 0, (q16, .inr (0, [.ref q1_20, .ref q2_20, .int (iI 0)])), aC (cs 1) q1_20 96 (fun _ => 0), aC (cs 1) q2_20 96 (fun _ => 0)] (As := []) (rest := [.ref q27, .ref ag]) (ret' := none) (c_X4_init lx D cs q27 0 ) dX7_init_31 rfl rfl gX7_init_X4_init_n25 L18 L19 rfl RX7 (by decide +kernel) rfl rfl rfl (by decide +kernel) ⟨by decide, by decide⟩ rfl rfl rfl rfl (by decide) rfl (Nat.le_of_ble_eq_true rfl) ⟨rfl, rfl⟩ ⟨by decide, by decide⟩ (fun u31 h31 => ?_)
  obtain ⟨q1_31, q2_31, q3_31, q4_31, q5_31, q6_31, q7_31, q8_31⟩ := u31
  (try dsimp only at h31)
  show V p9 lx e9 ({ frames := 7, cells := 25, slots := 1343, locals := 166 }) s9 m9 ar9 be9 me9 c9 Q9 D A9 s9.heap 1 13 884 [(ag, .inr (7, [.ref q5, .ref q16, .null, .null, .null, .null, .null])), oL q5 2 2 0 0, (q16, .inr (0, [.ref q1_20, .ref q2_20, .int (iI 0)])), aC (cs 1) q1_20 96 (fun _ => 0), aC (cs 1) q2_20 96 (fun _ => 0), (q27, .inr (4, [.int (iI 0), .ref q1_31, .ref q2_31, .ref q3_31, .ref q4_31, .ref q5_31, .ref q6_31, .ref q7_31, .ref q8_31])), aC (cs 0) q1_31 96 (fun _ => 0), aC (cs 0) q2_31 96 (fun _ => 0), aC (cs 0) q3_31 96 (fun _ => 0), aC (cs 0) q4_31 96 (fun _ => 0), aC (cs 0) q5_31 96 (fun _ => 0), aC (cs 0) q6_31 96 (fun _ => 0), aC (cs 0) q7_31 96 (fun _ => 0), oF q8_31 0 0 0 0] [(0, .ref ag)] 34 [.ref q27, .ref ag]
  refine v_putF hC 37 0 2 [(ag, .inr (7, [.ref q5, .ref q16, .ref q27, .null, .null, .null, .null])), oL q5 2 2 0 0, (q16, .inr (0, [.ref q1_20, .ref q2_20, .int (iI 0)])), aC (cs 1) q1_20 96 (fun _ => 0), aC (cs 1) q2_20 96 (fun _ => 0), (q27, .inr (4, [.int (iI 0), .ref q1_31, .ref q2_31, .ref q3_31, .ref q4_31, .ref q5_31, .ref q6_31, .ref q7_31, .ref q8_31])), aC (cs 0) q1_31 96 (fun _ => 0), aC (cs 0) q2_31 96 (fun _ => 0), aC (cs 0) q3_31 96 (fun _ => 0), aC (cs 0) q4_31 96 (fun _ => 0), aC (cs 0) q5_31 96 (fun _ => 0), aC (cs 0) q6_31 96 (fun _ => 0), aC (cs 0) q7_31 96 (fun _ => 0), oF q8_31 0 0 0 0] (C := RX7) (T := TX7) (N := 7) dX7_init_34 rfl iX7 tyX7_ok nmX7 L20 rfl rfl (by decide) rfl rfl rfl rfl rfl (Nat.le_of_ble_eq_true rfl) rfl ?_
  refine v_aload_n hC 38 0 dX7_init_37 rfl rfl rfl ?_
  refine v_new hC 41 (C := RX1) (T := TX1) (N := 6) (ci := 1) (fs := [.int (iI 0), .null, .int (iI 0), .null, .null, .null]) dX7_init_38 rfl iX1 tyX1_ok L21 L22 L23 rfl (by decide +kernel) ⟨rfl, rfl⟩ ⟨by decide, by decide⟩ (fun q38 => ?_)
  refine v_dup hC 42 dX7_init_41 rfl rfl ?_
  refine v_callINv hC 45 0 [14] [0, 1, 2, 3, 4, 5, 6, 7, 8, 9, 10, 11, 12, 13] [(ag, .inr (7, [.ref q5, .ref q16, .ref q27, .null, .null, .null, .null])), oL q5 2 2 0 0, (q16, .inr (0, [.ref q1_20, .ref q2_20, .int (iI 0)])), aC (cs 1) q1_20 96 (fun _ => 0), aC (cs 1) q2_20 96 (fun _ => 0), (q27, .inr (4, [.int (iI 0), .ref q1_31, .ref q2_31, .ref q3_31, .ref q4_31, .ref q5_31, .ref q6_31, .ref q7_31, .ref q8_31])), aC (cs 0) q1_31 96 (fun _ => 0), aC (cs 0) q2_31 96 (fun _ => 0), aC (cs 0) q3_31 96 (fun _ => 0), aC (cs 0) q4_31 96 (fun _ => 0), aC (cs 0) q5_31 96 (fun _ => 0), aC (cs 0) q6_31 96 (fun _ => 0), aC (cs 0) q7_31 96 (fun _ => 0), oF q8_31 0 0 0 0] (As := []) (rest := [.ref q38, .ref ag]) (ret' := none) (c_X1_init lx D cs q38 0 0 ) dX7_init_42 rfl rfl gX7_init_X1_init_n32 L24 L25 rfl RX7 (by decide +kernel) rfl rfl rfl (by decide +kernel) ⟨by decide, by decide⟩ rfl rfl rfl rfl (by decide) rfl (Nat.le_of_ble_eq_true rfl) ⟨rfl, rfl⟩ ⟨by decide, by decide⟩ (fun u42 h42 => ?_)
  obtain ⟨q1_42, q2_42, q3_42, q4_42⟩ := u42
  (try dsimp only at h42)
  show V p9 lx e9 ({ frames := 7, cells := 25, slots := 1343, locals := 166 }) s9 m9 ar9 be9 me9 c9 Q9 D A9 s9.heap 1 18 1274 [(ag, .inr (7, [.ref q5, .ref q16, .ref q27, .null, .null, .null, .null])), oL q5 2 2 0 0, (q16, .inr (0, [.ref q1_20, .ref q2_20, .int (iI 0)])), aC (cs 1) q1_20 96 (fun _ => 0), aC (cs 1) q2_20 96 (fun _ => 0), (q27, .inr (4, [.int (iI 0), .ref q1_31, .ref q2_31, .ref q3_31, .ref q4_31, .ref q5_31, .ref q6_31, .ref q7_31, .ref q8_31])), aC (cs 0) q1_31 96 (fun _ => 0), aC (cs 0) q2_31 96 (fun _ => 0), aC (cs 0) q3_31 96 (fun _ => 0), aC (cs 0) q4_31 96 (fun _ => 0), aC (cs 0) q5_31 96 (fun _ => 0), aC (cs 0) q6_31 96 (fun _ => 0), aC (cs 0) q7_31 96 (fun _ => 0), oF q8_31 0 0 0 0, (q38, .inr (1, [.int (iI 0), .ref q1_42, .int (iI 0), .ref q2_42, .ref q3_42, .ref q4_42])), aC (cs 0) q1_42 96 (fun _ => 0), aC (cs 0) q2_42 96 (fun _ => 0), aC (cs 0) q3_42 96 (fun _ => 0), aC (cs 0) q4_42 96 (fun _ => 0)] [(0, .ref ag)] 45 [.ref q38, .ref ag]
  refine v_putF hC 48 0 3 [(ag, .inr (7, [.ref q5, .ref q16, .ref q27, .ref q38, .null, .null, .null])), oL q5 2 2 0 0, (q16, .inr (0, [.ref q1_20, .ref q2_20, .int (iI 0)])), aC (cs 1) q1_20 96 (fun _ => 0), aC (cs 1) q2_20 96 (fun _ => 0), (q27, .inr (4, [.int (iI 0), .ref q1_31, .ref q2_31, .ref q3_31, .ref q4_31, .ref q5_31, .ref q6_31, .ref q7_31, .ref q8_31])), aC (cs 0) q1_31 96 (fun _ => 0), aC (cs 0) q2_31 96 (fun _ => 0), aC (cs 0) q3_31 96 (fun _ => 0), aC (cs 0) q4_31 96 (fun _ => 0), aC (cs 0) q5_31 96 (fun _ => 0), aC (cs 0) q6_31 96 (fun _ => 0), aC (cs 0) q7_31 96 (fun _ => 0), oF q8_31 0 0 0 0, (q38, .inr (1, [.int (iI 0), .ref q1_42, .int (iI 0), .ref q2_42, .ref q3_42, .ref q4_42])), aC (cs 0) q1_42 96 (fun _ => 0), aC (cs 0) q2_42 96 (fun _ => 0), aC (cs 0) q3_42 96 (fun _ => 0), aC (cs 0) q4_42 96 (fun _ => 0)] (C := RX7) (T := TX7) (N := 7) dX7_init_45 rfl iX7 tyX7_ok nmX7 L26 rfl rfl (by decide) rfl rfl rfl rfl rfl (Nat.le_of_ble_eq_true rfl) rfl ?_
  refine v_aload_n hC 49 0 dX7_init_48 rfl rfl rfl ?_
  refine v_new hC 52 (C := RX5) (T := TX5) (N := 4) (ci := 5) (fs := [.int (iI 0), .int (iI 0), .null, .null]) dX7_init_49 rfl iX5 tyX5_ok L27 L28 L29 rfl (by decide +kernel) ⟨rfl, rfl⟩ ⟨by decide, by decide⟩ (fun q49 => ?_)
  refine v_dup hC 53 dX7_init_52 rfl rfl ?_
  refine v_callINv hC 56 0 [19] [0, 1, 2, 3, 4, 5, 6, 7, 8, 9, 10, 11, 12, 13, 14, 15, 16, 17, 18] [(ag, .inr (7, [.ref q5, .ref q16, .ref q27, .ref q38, .null, .null, .null])), oL q5 2 2 0 0, (q16, .inr (0, [.ref q1_20, .ref q2_20, .int (iI 0)])), aC (cs 1) q1_20 96 (fun _ => 0), aC (cs 1) q2_20 96 (fun _ => 0), (q27, .inr (4, [.int (iI 0), .ref q1_31, .ref q2_31, .ref q3_31, .ref q4_31, .ref q5_31, .ref q6_31, .ref q7_31, .ref q8_31])), aC (cs 0) q1_31 96 (fun _ => 0), aC (cs 0) q2_31 96 (fun _ => 0), aC (cs 0) q3_31 96 (fun _ => 0), aC (cs 0) q4_31 96 (fun _ => 0), aC (cs 0) q5_31 96 (fun _ => 0), aC (cs 0) q6_31 96 (fun _ => 0), aC (cs 0) q7_31 96 (fun _ => 0), oF q8_31 0 0 0 0, (q38, .inr (1, [.int (iI 0), .ref q1_42, .int (iI 0), .ref q2_42, .ref q3_42, .ref q4_42])), aC (cs 0) q1_42 96 (fun _ => 0), aC (cs 0) q2_42 96 (fun _ => 0), aC (cs 0) q3_42 96 (fun _ => 0), aC (cs 0) q4_42 96 (fun _ => 0)] (As := []) (rest := [.ref q49, .ref ag]) (ret' := none) (c_X5_init lx D cs q49 0 0 ) dX7_init_53 rfl rfl gX7_init_X5_init_n39 L30 L31 rfl RX7 (by decide +kernel) rfl rfl rfl (by decide +kernel) ⟨by decide, by decide⟩ rfl rfl rfl rfl (by decide) rfl (Nat.le_of_ble_eq_true rfl) ⟨rfl, rfl⟩ ⟨by decide, by decide⟩ (fun u53 h53 => ?_)
  obtain ⟨q1_53, q2_53⟩ := u53
  (try dsimp only at h53)
  show V p9 lx e9 ({ frames := 7, cells := 25, slots := 1343, locals := 166 }) s9 m9 ar9 be9 me9 c9 Q9 D A9 s9.heap 1 21 1318 [(ag, .inr (7, [.ref q5, .ref q16, .ref q27, .ref q38, .null, .null, .null])), oL q5 2 2 0 0, (q16, .inr (0, [.ref q1_20, .ref q2_20, .int (iI 0)])), aC (cs 1) q1_20 96 (fun _ => 0), aC (cs 1) q2_20 96 (fun _ => 0), (q27, .inr (4, [.int (iI 0), .ref q1_31, .ref q2_31, .ref q3_31, .ref q4_31, .ref q5_31, .ref q6_31, .ref q7_31, .ref q8_31])), aC (cs 0) q1_31 96 (fun _ => 0), aC (cs 0) q2_31 96 (fun _ => 0), aC (cs 0) q3_31 96 (fun _ => 0), aC (cs 0) q4_31 96 (fun _ => 0), aC (cs 0) q5_31 96 (fun _ => 0), aC (cs 0) q6_31 96 (fun _ => 0), aC (cs 0) q7_31 96 (fun _ => 0), oF q8_31 0 0 0 0, (q38, .inr (1, [.int (iI 0), .ref q1_42, .int (iI 0), .ref q2_42, .ref q3_42, .ref q4_42])), aC (cs 0) q1_42 96 (fun _ => 0), aC (cs 0) q2_42 96 (fun _ => 0), aC (cs 0) q3_42 96 (fun _ => 0), aC (cs 0) q4_42 96 (fun _ => 0), (q49, .inr (5, [.int (iI 0), .int (iI 0), .ref q1_53, .ref q2_53])), aC (cs 0) q1_53 20 (fun _ => 0), aC (cs 0) q2_53 20 (fun _ => 0)] [(0, .ref ag)] 56 [.ref q49, .ref ag]
  refine v_putF hC 59 0 4 [(ag, .inr (7, [.ref q5, .ref q16, .ref q27, .ref q38, .ref q49, .null, .null])), oL q5 2 2 0 0, (q16, .inr (0, [.ref q1_20, .ref q2_20, .int (iI 0)])), aC (cs 1) q1_20 96 (fun _ => 0), aC (cs 1) q2_20 96 (fun _ => 0), (q27, .inr (4, [.int (iI 0), .ref q1_31, .ref q2_31, .ref q3_31, .ref q4_31, .ref q5_31, .ref q6_31, .ref q7_31, .ref q8_31])), aC (cs 0) q1_31 96 (fun _ => 0), aC (cs 0) q2_31 96 (fun _ => 0), aC (cs 0) q3_31 96 (fun _ => 0), aC (cs 0) q4_31 96 (fun _ => 0), aC (cs 0) q5_31 96 (fun _ => 0), aC (cs 0) q6_31 96 (fun _ => 0), aC (cs 0) q7_31 96 (fun _ => 0), oF q8_31 0 0 0 0, (q38, .inr (1, [.int (iI 0), .ref q1_42, .int (iI 0), .ref q2_42, .ref q3_42, .ref q4_42])), aC (cs 0) q1_42 96 (fun _ => 0), aC (cs 0) q2_42 96 (fun _ => 0), aC (cs 0) q3_42 96 (fun _ => 0), aC (cs 0) q4_42 96 (fun _ => 0), (q49, .inr (5, [.int (iI 0), .int (iI 0), .ref q1_53, .ref q2_53])), aC (cs 0) q1_53 20 (fun _ => 0), aC (cs 0) q2_53 20 (fun _ => 0)] (C := RX7) (T := TX7) (N := 7) dX7_init_56 rfl iX7 tyX7_ok nmX7 L32 rfl rfl (by decide) rfl rfl rfl rfl rfl (Nat.le_of_ble_eq_true rfl) rfl ?_
  refine v_aload_n hC 60 0 dX7_init_59 rfl rfl rfl ?_
  refine v_new hC 63 (C := RX6) (T := TX6) (N := 5) (ci := 6) (fs := [.int (iI 0), .int (iI 0), .int (iI 0), .null, .null]) dX7_init_60 rfl iX6 tyX6_ok L33 L34 L35 rfl (by decide +kernel) ⟨rfl, rfl⟩ ⟨by decide, by decide⟩ (fun q60 => ?_)
  refine v_dup hC 64 dX7_init_63 rfl rfl ?_
  refine v_callINv hC 67 0 [22] [0, 1, 2, 3, 4, 5, 6, 7, 8, 9, 10, 11, 12, 13, 14, 15, 16, 17, 18, 19, 20, 21] [(ag, .inr (7, [.ref q5, .ref q16, .ref q27, .ref q38, .ref q49, .null, .null])), oL q5 2 2 0 0, (q16, .inr (0, [.ref q1_20, .ref q2_20, .int (iI 0)])), aC (cs 1) q1_20 96 (fun _ => 0), aC (cs 1) q2_20 96 (fun _ => 0), (q27, .inr (4, [.int (iI 0), .ref q1_31, .ref q2_31, .ref q3_31, .ref q4_31, .ref q5_31, .ref q6_31, .ref q7_31, .ref q8_31])), aC (cs 0) q1_31 96 (fun _ => 0), aC (cs 0) q2_31 96 (fun _ => 0), aC (cs 0) q3_31 96 (fun _ => 0), aC (cs 0) q4_31 96 (fun _ => 0), aC (cs 0) q5_31 96 (fun _ => 0), aC (cs 0) q6_31 96 (fun _ => 0), aC (cs 0) q7_31 96 (fun _ => 0), oF q8_31 0 0 0 0, (q38, .inr (1, [.int (iI 0), .ref q1_42, .int (iI 0), .ref q2_42, .ref q3_42, .ref q4_42])), aC (cs 0) q1_42 96 (fun _ => 0), aC (cs 0) q2_42 96 (fun _ => 0), aC (cs 0) q3_42 96 (fun _ => 0), aC (cs 0) q4_42 96 (fun _ => 0), (q49, .inr (5, [.int (iI 0), .int (iI 0), .ref q1_53, .ref q2_53])), aC (cs 0) q1_53 20 (fun _ => 0), aC (cs 0) q2_53 20 (fun _ => 0)] (As := []) (rest := [.ref q60, .ref ag]) (ret' := none) (c_X6_init lx D cs q60 0 0 0 ) dX7_init_64 rfl rfl gX7_init_X6_init_n46 L36 L37 rfl RX7 (by decide +kernel) rfl rfl rfl (by decide +kernel) ⟨by decide, by decide⟩ rfl rfl rfl rfl (by decide) rfl (Nat.le_of_ble_eq_true rfl) ⟨rfl, rfl⟩ ⟨by decide, by decide⟩ (fun u64 h64 => ?_)
  obtain ⟨q1_64, q2_64⟩ := u64
  (try dsimp only at h64)
  show V p9 lx e9 ({ frames := 7, cells := 25, slots := 1343, locals := 166 }) s9 m9 ar9 be9 me9 c9 Q9 D A9 s9.heap 1 24 1339 [(ag, .inr (7, [.ref q5, .ref q16, .ref q27, .ref q38, .ref q49, .null, .null])), oL q5 2 2 0 0, (q16, .inr (0, [.ref q1_20, .ref q2_20, .int (iI 0)])), aC (cs 1) q1_20 96 (fun _ => 0), aC (cs 1) q2_20 96 (fun _ => 0), (q27, .inr (4, [.int (iI 0), .ref q1_31, .ref q2_31, .ref q3_31, .ref q4_31, .ref q5_31, .ref q6_31, .ref q7_31, .ref q8_31])), aC (cs 0) q1_31 96 (fun _ => 0), aC (cs 0) q2_31 96 (fun _ => 0), aC (cs 0) q3_31 96 (fun _ => 0), aC (cs 0) q4_31 96 (fun _ => 0), aC (cs 0) q5_31 96 (fun _ => 0), aC (cs 0) q6_31 96 (fun _ => 0), aC (cs 0) q7_31 96 (fun _ => 0), oF q8_31 0 0 0 0, (q38, .inr (1, [.int (iI 0), .ref q1_42, .int (iI 0), .ref q2_42, .ref q3_42, .ref q4_42])), aC (cs 0) q1_42 96 (fun _ => 0), aC (cs 0) q2_42 96 (fun _ => 0), aC (cs 0) q3_42 96 (fun _ => 0), aC (cs 0) q4_42 96 (fun _ => 0), (q49, .inr (5, [.int (iI 0), .int (iI 0), .ref q1_53, .ref q2_53])), aC (cs 0) q1_53 20 (fun _ => 0), aC (cs 0) q2_53 20 (fun _ => 0), (q60, .inr (6, [.int (iI 0), .int (iI 6), .int (iI 0), .ref q1_64, .ref q2_64])), aC (cs 1) q1_64 8 (fun _ => 0), aC (cs 0) q2_64 8 (fun _ => 0)] [(0, .ref ag)] 67 [.ref q60, .ref ag]
  refine v_putF hC 70 0 5 [(ag, .inr (7, [.ref q5, .ref q16, .ref q27, .ref q38, .ref q49, .ref q60, .null])), oL q5 2 2 0 0, (q16, .inr (0, [.ref q1_20, .ref q2_20, .int (iI 0)])), aC (cs 1) q1_20 96 (fun _ => 0), aC (cs 1) q2_20 96 (fun _ => 0), (q27, .inr (4, [.int (iI 0), .ref q1_31, .ref q2_31, .ref q3_31, .ref q4_31, .ref q5_31, .ref q6_31, .ref q7_31, .ref q8_31])), aC (cs 0) q1_31 96 (fun _ => 0), aC (cs 0) q2_31 96 (fun _ => 0), aC (cs 0) q3_31 96 (fun _ => 0), aC (cs 0) q4_31 96 (fun _ => 0), aC (cs 0) q5_31 96 (fun _ => 0), aC (cs 0) q6_31 96 (fun _ => 0), aC (cs 0) q7_31 96 (fun _ => 0), oF q8_31 0 0 0 0, (q38, .inr (1, [.int (iI 0), .ref q1_42, .int (iI 0), .ref q2_42, .ref q3_42, .ref q4_42])), aC (cs 0) q1_42 96 (fun _ => 0), aC (cs 0) q2_42 96 (fun _ => 0), aC (cs 0) q3_42 96 (fun _ => 0), aC (cs 0) q4_42 96 (fun _ => 0), (q49, .inr (5, [.int (iI 0), .int (iI 0), .ref q1_53, .ref q2_53])), aC (cs 0) q1_53 20 (fun _ => 0), aC (cs 0) q2_53 20 (fun _ => 0), (q60, .inr (6, [.int (iI 0), .int (iI 6), .int (iI 0), .ref q1_64, .ref q2_64])), aC (cs 1) q1_64 8 (fun _ => 0), aC (cs 0) q2_64 8 (fun _ => 0)] (C := RX7) (T := TX7) (N := 7) dX7_init_67 rfl iX7 tyX7_ok nmX7 L38 rfl rfl (by decide) rfl rfl rfl rfl rfl (Nat.le_of_ble_eq_true rfl) rfl ?_
  refine v_aload_n hC 71 0 dX7_init_70 rfl rfl rfl ?_
  refine v_new hC 74 (C := RX2) (T := TX2) (N := 4) (ci := 2) (fs := [.int (iI 0), .int (iI 0), .int (iI 0), .int (iI 0)]) dX7_init_71 rfl iX2 tyX2_ok L39 L40 L41 rfl (by decide +kernel) ⟨rfl, rfl⟩ ⟨by decide, by decide⟩ (fun q71 => ?_)
  refine v_dup hC 75 dX7_init_74 rfl rfl ?_
  refine v_callINv hC 78 0 [25] [0, 1, 2, 3, 4, 5, 6, 7, 8, 9, 10, 11, 12, 13, 14, 15, 16, 17, 18, 19, 20, 21, 22, 23, 24] [(ag, .inr (7, [.ref q5, .ref q16, .ref q27, .ref q38, .ref q49, .ref q60, .null])), oL q5 2 2 0 0, (q16, .inr (0, [.ref q1_20, .ref q2_20, .int (iI 0)])), aC (cs 1) q1_20 96 (fun _ => 0), aC (cs 1) q2_20 96 (fun _ => 0), (q27, .inr (4, [.int (iI 0), .ref q1_31, .ref q2_31, .ref q3_31, .ref q4_31, .ref q5_31, .ref q6_31, .ref q7_31, .ref q8_31])), aC (cs 0) q1_31 96 (fun _ => 0), aC (cs 0) q2_31 96 (fun _ => 0), aC (cs 0) q3_31 96 (fun _ => 0), aC (cs 0) q4_31 96 (fun _ => 0), aC (cs 0) q5_31 96 (fun _ => 0), aC (cs 0) q6_31 96 (fun _ => 0), aC (cs 0) q7_31 96 (fun _ => 0), oF q8_31 0 0 0 0, (q38, .inr (1, [.int (iI 0), .ref q1_42, .int (iI 0), .ref q2_42, .ref q3_42, .ref q4_42])), aC (cs 0) q1_42 96 (fun _ => 0), aC (cs 0) q2_42 96 (fun _ => 0), aC (cs 0) q3_42 96 (fun _ => 0), aC (cs 0) q4_42 96 (fun _ => 0), (q49, .inr (5, [.int (iI 0), .int (iI 0), .ref q1_53, .ref q2_53])), aC (cs 0) q1_53 20 (fun _ => 0), aC (cs 0) q2_53 20 (fun _ => 0), (q60, .inr (6, [.int (iI 0), .int (iI 6), .int (iI 0), .ref q1_64, .ref q2_64])), aC (cs 1) q1_64 8 (fun _ => 0), aC (cs 0) q2_64 8 (fun _ => 0)] (As := []) (rest := [.ref q71, .ref ag]) (ret' := none) (c_X2_init lx D cs q71 0 0 0 0 ) dX7_init_75 rfl rfl gX7_init_X2_init_n53 L42 L43 rfl RX7 (by decide +kernel) rfl rfl rfl (by decide +kernel) ⟨by decide, by decide⟩ rfl rfl rfl rfl (by decide) rfl (Nat.le_of_ble_eq_true rfl) ⟨rfl, rfl⟩ ⟨by decide, by decide⟩ (fun u75 h75 => ?_)
  (try dsimp only at h75)
  show V p9 lx e9 ({ frames := 7, cells := 25, slots := 1343, locals := 166 }) s9 m9 ar9 be9 me9 c9 Q9 D A9 s9.heap 1 25 1343 [(ag, .inr (7, [.ref q5, .ref q16, .ref q27, .ref q38, .ref q49, .ref q60, .null])), oL q5 2 2 0 0, (q16, .inr (0, [.ref q1_20, .ref q2_20, .int (iI 0)])), aC (cs 1) q1_20 96 (fun _ => 0), aC (cs 1) q2_20 96 (fun _ => 0), (q27, .inr (4, [.int (iI 0), .ref q1_31, .ref q2_31, .ref q3_31, .ref q4_31, .ref q5_31, .ref q6_31, .ref q7_31, .ref q8_31])), aC (cs 0) q1_31 96 (fun _ => 0), aC (cs 0) q2_31 96 (fun _ => 0), aC (cs 0) q3_31 96 (fun _ => 0), aC (cs 0) q4_31 96 (fun _ => 0), aC (cs 0) q5_31 96 (fun _ => 0), aC (cs 0) q6_31 96 (fun _ => 0), aC (cs 0) q7_31 96 (fun _ => 0), oF q8_31 0 0 0 0, (q38, .inr (1, [.int (iI 0), .ref q1_42, .int (iI 0), .ref q2_42, .ref q3_42, .ref q4_42])), aC (cs 0) q1_42 96 (fun _ => 0), aC (cs 0) q2_42 96 (fun _ => 0), aC (cs 0) q3_42 96 (fun _ => 0), aC (cs 0) q4_42 96 (fun _ => 0), (q49, .inr (5, [.int (iI 0), .int (iI 0), .ref q1_53, .ref q2_53])), aC (cs 0) q1_53 20 (fun _ => 0), aC (cs 0) q2_53 20 (fun _ => 0), (q60, .inr (6, [.int (iI 0), .int (iI 6), .int (iI 0), .ref q1_64, .ref q2_64])), aC (cs 1) q1_64 8 (fun _ => 0), aC (cs 0) q2_64 8 (fun _ => 0), oF q71 0 0 0 0] [(0, .ref ag)] 78 [.ref q71, .ref ag]
  refine v_putF hC 81 0 6 [oG ag q5 q16 q27 q38 q49 q60 q71, oL q5 2 2 0 0, (q16, .inr (0, [.ref q1_20, .ref q2_20, .int (iI 0)])), aC (cs 1) q1_20 96 (fun _ => 0), aC (cs 1) q2_20 96 (fun _ => 0), (q27, .inr (4, [.int (iI 0), .ref q1_31, .ref q2_31, .ref q3_31, .ref q4_31, .ref q5_31, .ref q6_31, .ref q7_31, .ref q8_31])), aC (cs 0) q1_31 96 (fun _ => 0), aC (cs 0) q2_31 96 (fun _ => 0), aC (cs 0) q3_31 96 (fun _ => 0), aC (cs 0) q4_31 96 (fun _ => 0), aC (cs 0) q5_31 96 (fun _ => 0), aC (cs 0) q6_31 96 (fun _ => 0), aC (cs 0) q7_31 96 (fun _ => 0), oF q8_31 0 0 0 0, (q38, .inr (1, [.int (iI 0), .ref q1_42, .int (iI 0), .ref q2_42, .ref q3_42, .ref q4_42])), aC (cs 0) q1_42 96 (fun _ => 0), aC (cs 0) q2_42 96 (fun _ => 0), aC (cs 0) q3_42 96 (fun _ => 0), aC (cs 0) q4_42 96 (fun _ => 0), (q49, .inr (5, [.int (iI 0), .int (iI 0), .ref q1_53, .ref q2_53])), aC (cs 0) q1_53 20 (fun _ => 0), aC (cs 0) q2_53 20 (fun _ => 0), (q60, .inr (6, [.int (iI 0), .int (iI 6), .int (iI 0), .ref q1_64, .ref q2_64])), aC (cs 1) q1_64 8 (fun _ => 0), aC (cs 0) q2_64 8 (fun _ => 0), oF q71 0 0 0 0] (C := RX7) (T := TX7) (N := 7) dX7_init_78 rfl iX7 tyX7_ok nmX7 L44 rfl rfl (by decide) rfl rfl rfl rfl rfl (Nat.le_of_ble_eq_true rfl) rfl ?_
  obtain ⟨ab, hab⟩ : ∃ f9 : Nat → Nat, f9 = fun k9 => [q16, q1_20, q2_20].getD k9 0 := ⟨_, rfl⟩
  have eab0 : q16 = ab 0 := by subst hab; rfl
  have eab1 : q1_20 = ab 1 := by subst hab; rfl
  have eab2 : q2_20 = ab 2 := by subst hab; rfl
  subst eab0
  subst eab1
  subst eab2
  obtain ⟨ap, hap⟩ : ∃ f9 : Nat → Nat, f9 = fun k9 => [q27, q1_31, q2_31, q3_31, q4_31, q5_31, q6_31, q7_31, q8_31].getD k9 0 := ⟨_, rfl⟩
  have eap0 : q27 = ap 0 := by subst hap; rfl
  have eap1 : q1_31 = ap 1 := by subst hap; rfl
  have eap2 : q2_31 = ap 2 := by subst hap; rfl
  have eap3 : q3_31 = ap 3 := by subst hap; rfl
  have eap4 : q4_31 = ap 4 := by subst hap; rfl
  have eap5 : q5_31 = ap 5 := by subst hap; rfl
  have eap6 : q6_31 = ap 6 := by subst hap; rfl
  have eap7 : q7_31 = ap 7 := by subst hap; rfl
  have eap8 : q8_31 = ap 8 := by subst hap; rfl
  subst eap0
  subst eap1
  subst eap2
  subst eap3
  subst eap4
  subst eap5
  subst eap6
  subst eap7
  subst eap8
  obtain ⟨ac, hac⟩ : ∃ f9 : Nat → Nat, f9 = fun k9 => [q38, q1_42, q2_42, q3_42, q4_42].getD k9 0 := ⟨_, rfl⟩
  have eac0 : q38 = ac 0 := by subst hac; rfl
  have eac1 : q1_42 = ac 1 := by subst hac; rfl
  have eac2 : q2_42 = ac 2 := by subst hac; rfl
  have eac3 : q3_42 = ac 3 := by subst hac; rfl
  have eac4 : q4_42 = ac 4 := by subst hac; rfl
  subst eac0
  subst eac1
  subst eac2
  subst eac3
  subst eac4
  obtain ⟨ak, hak⟩ : ∃ f9 : Nat → Nat, f9 = fun k9 => [q49, q1_53, q2_53].getD k9 0 := ⟨_, rfl⟩
  have eak0 : q49 = ak 0 := by subst hak; rfl
  have eak1 : q1_53 = ak 1 := by subst hak; rfl
  have eak2 : q2_53 = ak 2 := by subst hak; rfl
  subst eak0
  subst eak1
  subst eak2
  obtain ⟨aw, haw⟩ : ∃ f9 : Nat → Nat, f9 = fun k9 => [q60, q1_64, q2_64].getD k9 0 := ⟨_, rfl⟩
  have eaw0 : q60 = aw 0 := by subst haw; rfl
  have eaw1 : q1_64 = aw 1 := by subst haw; rfl
  have eaw2 : q2_64 = aw 2 := by subst haw; rfl
  subst eaw0
  subst eaw1
  subst eaw2
  obtain ⟨al, hal⟩ : ∃ y9, y9 = q5 := ⟨_, rfl⟩
  subst hal
  obtain ⟨af, haf⟩ : ∃ y9, y9 = q71 := ⟨_, rfl⟩
  subst haf
  refine v_aload_n hC 82 0 dX7_init_81 rfl rfl rfl ?_
  refine v_callVv hC 85 0 [0, 1, 2, 3, 4, 5, 6, 7, 8, 9, 10, 11, 12, 13, 14, 15, 16, 17, 18, 22, 23, 24] [19, 20, 21, 25] [oK ak 0 0, aC (cs 0) (ak 1) 20 (fun _ => 0), aC (cs 0) (ak 2) 20 (fun _ => 0), oF af 0 0 0 0] (As := []) (rest := []) (c_X7_renew lx D cs ag al ab ap ac aw 2 2 0 0 0 (fun _ => 0) (fun _ => 0) 0 (fun _ => 0) (fun _ => 0) (fun _ => 0) (fun _ => 0) (fun _ => 0) (fun _ => 0) (fun _ => 0) 0 0 0 0 0 0 (fun _ => 0) (fun _ => 0) (fun _ => 0) (fun _ => 0) 0 6 0 (fun _ => 0) (fun _ => 0) ak af (by decide) (by decide) (by decide) (by decide) (by decide) (by exact Rn_c (by decide)) (by exact Rn_c (by decide)) (by exact Rn_c (by decide)) (by exact Rn_c (by decide)) (by exact Rok_0)) dX7_init_82 rfl rfl 0 rfl rfl gX7_init_X7_renew rfl rfl rfl (by decide +kernel) ⟨by decide, by decide⟩ rfl rfl rfl rfl (by decide) rfl (Nat.le_of_ble_eq_true rfl) ⟨rfl, rfl⟩ ⟨by decide, by decide⟩ (fun u82 h82 => ?_)
  obtain ⟨bar1_82, cnt1_82, ofc1_82, knd1_82, col1_82, row1_82, siz1_82, bw1_82, bh1_82, fl1_82, fr1_82, ft1_82, fb1_82, nt1_82, rc1_82, rw1_82, rh1_82, rm1_82, src1_82⟩ := u82
  (try dsimp only at h82)
  obtain ⟨h82_1, h82_2, h82_3, h82_4, h82_5, h82_6, h82_7⟩ := h82
  show V p9 lx e9 ({ frames := 7, cells := 25, slots := 1343, locals := 166 }) s9 m9 ar9 be9 me9 c9 Q9 D A9 s9.heap 1 25 1343 [oK ak 0 0, aC (cs 0) (ak 1) 20 (fun _ => 0), aC (cs 0) (ak 2) 20 (fun _ => 0), oF af 0 0 0 0, oG ag al (ab 0) (ap 0) (ac 0) (ak 0) (aw 0) af, oL al 2 2 0 0, oB ab 0, aC (cs 1) (ab 1) 96 (fun _ => 0), aC (cs 1) (ab 2) 96 bar1_82, oP ap cnt1_82, aC (cs 0) (ap 1) 96 ofc1_82, aC (cs 0) (ap 2) 96 knd1_82, aC (cs 0) (ap 3) 96 col1_82, aC (cs 0) (ap 4) 96 row1_82, aC (cs 0) (ap 5) 96 siz1_82, aC (cs 0) (ap 6) 96 bw1_82, aC (cs 0) (ap 7) 96 bh1_82, oF (ap 8) fl1_82 fr1_82 ft1_82 fb1_82, oC ac nt1_82 rc1_82, aC (cs 0) (ac 1) 96 src1_82, aC (cs 0) (ac 2) 96 rw1_82, aC (cs 0) (ac 3) 96 rh1_82, aC (cs 0) (ac 4) 96 rm1_82, oW aw 0 6 0, aC (cs 1) (aw 1) 8 (fun _ => 0), aC (cs 0) (aw 2) 8 (fun _ => 0)] [(0, .ref ag)] 85 []
  exact v_vret hC hQ (al, ab, ap, ac, ak, aw, af, bar1_82, cnt1_82, ofc1_82, knd1_82, col1_82, row1_82, siz1_82, bw1_82, bh1_82, fl1_82, fr1_82, ft1_82, fb1_82, nt1_82, rc1_82, rw1_82, rh1_82, rm1_82, src1_82) [4, 5, 6, 7, 8, 9, 10, 11, 12, 13, 14, 15, 16, 17, 18, 19, 20, 21, 22, 0, 1, 2, 23, 24, 25, 3] dX7_init_85 rfl rfl ⟨by decide, by decide⟩ ⟨by (try dsimp only); all_goals (exact h82_1), by (try dsimp only); all_goals (exact h82_2), by (try dsimp only); all_goals (exact h82_3), by (try dsimp only); all_goals (exact h82_4), by (try dsimp only); all_goals (exact h82_5), by (try dsimp only); all_goals (exact h82_6), by (try dsimp only); all_goals (exact h82_7)⟩

set_option maxHeartbeats 4000000 in
set_option maxRecDepth 100000 in
theorem c_X8_init (lx : Launch) (D : va_G) (cs : Nat → ClassId) (m0 : Nat)  : Cv lx D cs yX8_init wsX8_init ({ frames := 4, cells := 17, slots := 1320, locals := 100 }) [.ref m0] [(m0, .inr (8, [.int (iI 0), .int (iI 0), .int (iI 0), .int (iI 0), .int (iI 0), .null, .null, .null, .null, .null, .null, .null, .null, .null, .null, .null, .int (iI 0), .int (iI 0), .null, .null, .null, .int (iI 0), .null, .null, .int (iI 0), .int (iI 0), .null, .int (iI 0), .int (iI 0), .int (iI 0), .int (iI 0)]))] (fun (u : (Nat → Nat) × Int × (Int → Int) × (Int → Int) × (Int → Int) × (Int → Int) × (Int → Int) × (Int → Int) × (Int → Int) × (Int → Int) × Int × Int × (Int → Int) × (Int → Int) × (Int → Int) × (Int → Int) × (Int → Int)) => (u.1 0 = m0) ∧ (u.2.2.2.2.2.2.2.2.2.2.2.2.2.2.2.2 = fil (fun _ => 0) (-1) 8) ∧ (MFI 2 2 0 0 (mbar (fun _ => 0) (uI (uI (fun _ => 0) 0 1) 1 1)) 96 u.2.1 u.2.2.1 u.2.2.2.1 u.2.2.2.2.1 u.2.2.2.2.2.1 u.2.2.2.2.2.2.1 u.2.2.2.2.2.2.2.1 u.2.2.2.2.2.2.2.2.1 u.2.2.2.2.2.2.2.2.2.1) ∧ (Rn u.2.2.2.1 0 2) ∧ (((u.2.2.2.2.2.2.2.2.2.2.2.1, u.2.2.2.2.2.2.2.2.2.2.2.2.1, u.2.2.2.2.2.2.2.2.2.2.2.2.2.1, u.2.2.2.2.2.2.2.2.2.2.2.2.2.2.1) : Rs) = ctR 2 2 u.2.2.2.1 (mbw u.2.2.2.2.2.2.2.1 u.2.2.2.2.2.2.1) (mbw u.2.2.2.2.2.2.2.2.2.1 u.2.2.2.2.2.2.2.2.1) (0, (fun _ => 0), (fun _ => 0), (fun _ => 0)) u.2.1.toNat) ∧ (u.2.2.2.2.2.2.2.2.2.2.1 = ctT 2 2 u.2.2.2.1 (mbw u.2.2.2.2.2.2.2.1 u.2.2.2.2.2.2.1) (mbw u.2.2.2.2.2.2.2.2.2.1 u.2.2.2.2.2.2.2.2.1) (0, (fun _ => 0), (fun _ => 0), (fun _ => 0)) u.2.1.toNat) ∧ (∀ j : Int, 0 ≤ j → j < u.2.1 → u.2.2.2.2.2.2.2.2.2.2.2.2.2.2.2.1 j = ctS 2 2 u.2.2.2.1 (mbw u.2.2.2.2.2.2.2.1 u.2.2.2.2.2.2.1) (mbw u.2.2.2.2.2.2.2.2.2.1 u.2.2.2.2.2.2.2.2.1) (0, (fun _ => 0), (fun _ => 0), (fun _ => 0)) j.toNat)) (fun u : (Nat → Nat) × Int × (Int → Int) × (Int → Int) × (Int → Int) × (Int → Int) × (Int → Int) × (Int → Int) × (Int → Int) × (Int → Int) × Int × Int × (Int → Int) × (Int → Int) × (Int → Int) × (Int → Int) × (Int → Int) => [oM u.1 2 2 0 0 0 u.2.1 u.2.2.2.2.2.2.2.2.2.2.1 u.2.2.2.2.2.2.2.2.2.2.2.1 0 0 0 6 0 0, aC (cs 0) (u.1 1) 96 (fun _ => 0), aC (cs 0) (u.1 2) 12 (uI (uI (fun _ => 0) 0 1) 1 1), aC (cs 0) (u.1 3) 96 u.2.2.2.1, aC (cs 0) (u.1 4) 96 u.2.2.2.2.1, aC (cs 0) (u.1 5) 96 u.2.2.2.2.2.1, aC (cs 0) (u.1 6) 96 u.2.2.2.2.2.2.2.2.2.2.2.2.2.2.2.1, aC (cs 0) (u.1 7) 96 u.2.2.2.2.2.2.1, aC (cs 0) (u.1 8) 96 u.2.2.2.2.2.2.2.1, aC (cs 0) (u.1 9) 96 u.2.2.2.2.2.2.2.2.1, aC (cs 0) (u.1 10) 96 u.2.2.2.2.2.2.2.2.2.1, aC (cs 0) (u.1 11) 96 u.2.2.1, aC (cs 0) (u.1 12) 100 u.2.2.2.2.2.2.2.2.2.2.2.2.1, aC (cs 0) (u.1 13) 100 u.2.2.2.2.2.2.2.2.2.2.2.2.2.1, aC (cs 0) (u.1 14) 100 u.2.2.2.2.2.2.2.2.2.2.2.2.2.2.1, aC (cs 0) (u.1 15) 20 (fun _ => 0), aC (cs 0) (u.1 16) 20 (fun _ => 0), aC (cs 0) (u.1 17) 8 u.2.2.2.2.2.2.2.2.2.2.2.2.2.2.2.2]) 17 1320 := by
  refine Cv_of (cc := cX8_init) (nL := 1) (ret := none) (lv0 := [(0, .ref m0)]) RX8 "<init>" (by decide +kernel) rfl (Nat.le_of_ble_eq_true rfl) rfl (fun p9 e9 s9 m9 ar9 be9 me9 c9 A9 Q9 hQ hC => ?_)
  have iX8 : ∀ w ∈ wsX80, w ∈ wsX8_init := by decide +kernel
  have L0 : Cond.methodLink RX8 1 objectInit ∈ wsX8_init := by decide +kernel
  have L1 : Cond.instanceMethod objectInit ∈ wsX8_init := by decide +kernel
  have L2 : Cond.code objectInit ⟨#[0xb1]⟩ 1 none ∈ wsX8_init := by decide +kernel
  have L3 : Cond.fieldLink RX8 7 "GroutlineModel" "wide" "I" ∈ wsX8_init := by decide +kernel
  have L4 : Cond.fieldLink RX8 13 "GroutlineModel" "high" "I" ∈ wsX8_init := by decide +kernel
  have L5 : Cond.arrayClass .int ∈ wsX8_init := by decide +kernel
  have L6 : Cond.fieldLink RX8 16 "GroutlineModel" "pillar" "[I" ∈ wsX8_init := by decide +kernel
  have L7 : Cond.fieldLink RX8 20 "GroutlineModel" "shut" "[I" ∈ wsX8_init := by decide +kernel
  have L8 : Cond.fieldLink RX8 23 "GroutlineModel" "pk" "[I" ∈ wsX8_init := by decide +kernel
  have L9 : Cond.fieldLink RX8 26 "GroutlineModel" "pf" "[I" ∈ wsX8_init := by decide +kernel
  have L10 : Cond.fieldLink RX8 29 "GroutlineModel" "pn" "[I" ∈ wsX8_init := by decide +kernel
  have L11 : Cond.fieldLink RX8 32 "GroutlineModel" "pr" "[I" ∈ wsX8_init := by decide +kernel
  have L12 : Cond.fieldLink RX8 35 "GroutlineModel" "left" "[I" ∈ wsX8_init := by decide +kernel
  have L13 : Cond.fieldLink RX8 38 "GroutlineModel" "right" "[I" ∈ wsX8_init := by decide +kernel
  have L14 : Cond.fieldLink RX8 41 "GroutlineModel" "top" "[I" ∈ wsX8_init := by decide +kernel
  have L15 : Cond.fieldLink RX8 44 "GroutlineModel" "bottom" "[I" ∈ wsX8_init := by decide +kernel
  have L16 : Cond.fieldLink RX8 47 "GroutlineModel" "at" "[I" ∈ wsX8_init := by decide +kernel
  have L17 : Cond.fieldLink RX8 50 "GroutlineModel" "rw" "[I" ∈ wsX8_init := by decide +kernel
  have L18 : Cond.fieldLink RX8 53 "GroutlineModel" "rh" "[I" ∈ wsX8_init := by decide +kernel
  have L19 : Cond.fieldLink RX8 56 "GroutlineModel" "rp" "[I" ∈ wsX8_init := by decide +kernel
  have L20 : Cond.fieldLink RX8 59 "GroutlineModel" "cf" "[I" ∈ wsX8_init := by decide +kernel
  have L21 : Cond.fieldLink RX8 62 "GroutlineModel" "cn" "[I" ∈ wsX8_init := by decide +kernel
  have L22 : Cond.fieldLink RX8 65 "GroutlineModel" "dry" "[I" ∈ wsX8_init := by decide +kernel
  have L23 : Cond.fieldLink RX8 68 "GroutlineModel" "grout" "I" ∈ wsX8_init := by decide +kernel
  refine v_aload_n hC 1 0 dX8_init_0 rfl rfl rfl ?_
  refine v_objInit hC 4 dX8_init_1 rfl L0 L1 L2 ⟨by decide, Nat.le_of_ble_eq_true rfl⟩ ?_
  refine v_aload_n hC 5 0 dX8_init_4 rfl rfl rfl ?_
  refine v_iconst hC 6 dX8_init_5 rfl ?_
  refine v_put hC 9 0 0 [(m0, .inr (8, [.int (iI 2), .int (iI 0), .int (iI 0), .int (iI 0), .int (iI 0), .null, .null, .null, .null, .null, .null, .null, .null, .null, .null, .null, .int (iI 0), .int (iI 0), .null, .null, .null, .int (iI 0), .null, .null, .int (iI 0), .int (iI 0), .null, .int (iI 0), .int (iI 0), .int (iI 0), .int (iI 0)]))] (C := RX8) (T := TX8) (N := 31) dX8_init_6 rfl iX8 tyX8_ok nmX8 L3 rfl rfl (by decide) rfl rfl rfl (Nat.le_of_ble_eq_true rfl) rfl ?_
  refine v_aload_n hC 10 0 dX8_init_9 rfl rfl rfl ?_
  refine v_iconst hC 11 dX8_init_10 rfl ?_
  refine v_put hC 14 0 1 [(m0, .inr (8, [.int (iI 2), .int (iI 2), .int (iI 0), .int (iI 0), .int (iI 0), .null, .null, .null, .null, .null, .null, .null, .null, .null, .null, .null, .int (iI 0), .int (iI 0), .null, .null, .null, .int (iI 0), .null, .null, .int (iI 0), .int (iI 0), .null, .int (iI 0), .int (iI 0), .int (iI 0), .int (iI 0)]))] (C := RX8) (T := TX8) (N := 31) dX8_init_11 rfl iX8 tyX8_ok nmX8 L4 rfl rfl (by decide) rfl rfl rfl (Nat.le_of_ble_eq_true rfl) rfl ?_
  refine v_aload_n hC 15 0 dX8_init_14 rfl rfl rfl ?_
  refine v_bipush hC 17 dX8_init_15 rfl rfl ?_
  refine v_newai hC 19 (n := 96) dX8_init_17 rfl L5 (by decide) ⟨rfl, rfl⟩ ⟨by decide, by decide⟩ (fun q17 => ?_)
  refine v_putF hC 22 0 5 [(m0, .inr (8, [.int (iI 2), .int (iI 2), .int (iI 0), .int (iI 0), .int (iI 0), .ref q17, .null, .null, .null, .null, .null, .null, .null, .null, .null, .null, .int (iI 0), .int (iI 0), .null, .null, .null, .int (iI 0), .null, .null, .int (iI 0), .int (iI 0), .null, .int (iI 0), .int (iI 0), .int (iI 0), .int (iI 0)])), aC (cs 0) q17 96 (fun _ => 0)] (C := RX8) (T := TX8) (N := 31) dX8_init_19 rfl iX8 tyX8_ok nmX8 L6 rfl rfl (by decide) rfl rfl rfl rfl rfl (Nat.le_of_ble_eq_true rfl) rfl ?_
  refine v_aload_n hC 23 0 dX8_init_22 rfl rfl rfl ?_
  refine v_bipush hC 25 dX8_init_23 rfl rfl ?_
  refine v_newai hC 27 (n := 12) dX8_init_25 rfl L5 (by decide) ⟨rfl, rfl⟩ ⟨by decide, by decide⟩ (fun q25 => ?_)
  refine v_putF hC 30 0 6 [(m0, .inr (8, [.int (iI 2), .int (iI 2), .int (iI 0), .int (iI 0), .int (iI 0), .ref q17, .ref q25, .null, .null, .null, .null, .null, .null, .null, .null, .null, .int (iI 0), .int (iI 0), .null, .null, .null, .int (iI 0), .null, .null, .int (iI 0), .int (iI 0), .null, .int (iI 0), .int (iI 0), .int (iI 0), .int (iI 0)])), aC (cs 0) q17 96 (fun _ => 0), aC (cs 0) q25 12 (fun _ => 0)] (C := RX8) (T := TX8) (N := 31) dX8_init_27 rfl iX8 tyX8_ok nmX8 L7 rfl rfl (by decide) rfl rfl rfl rfl rfl (Nat.le_of_ble_eq_true rfl) rfl ?_
  refine v_aload_n hC 31 0 dX8_init_30 rfl rfl rfl ?_
  refine v_bipush hC 33 dX8_init_31 rfl rfl ?_
  refine v_newai hC 35 (n := 96) dX8_init_33 rfl L5 (by decide) ⟨rfl, rfl⟩ ⟨by decide, by decide⟩ (fun q33 => ?_)
  refine v_putF hC 38 0 7 [(m0, .inr (8, [.int (iI 2), .int (iI 2), .int (iI 0), .int (iI 0), .int (iI 0), .ref q17, .ref q25, .ref q33, .null, .null, .null, .null, .null, .null, .null, .null, .int (iI 0), .int (iI 0), .null, .null, .null, .int (iI 0), .null, .null, .int (iI 0), .int (iI 0), .null, .int (iI 0), .int (iI 0), .int (iI 0), .int (iI 0)])), aC (cs 0) q17 96 (fun _ => 0), aC (cs 0) q25 12 (fun _ => 0), aC (cs 0) q33 96 (fun _ => 0)] (C := RX8) (T := TX8) (N := 31) dX8_init_35 rfl iX8 tyX8_ok nmX8 L8 rfl rfl (by decide) rfl rfl rfl rfl rfl (Nat.le_of_ble_eq_true rfl) rfl ?_
  refine v_aload_n hC 39 0 dX8_init_38 rfl rfl rfl ?_
  refine v_bipush hC 41 dX8_init_39 rfl rfl ?_
  refine v_newai hC 43 (n := 96) dX8_init_41 rfl L5 (by decide) ⟨rfl, rfl⟩ ⟨by decide, by decide⟩ (fun q41 => ?_)
  refine v_putF hC 46 0 8 [(m0, .inr (8, [.int (iI 2), .int (iI 2), .int (iI 0), .int (iI 0), .int (iI 0), .ref q17, .ref q25, .ref q33, .ref q41, .null, .null, .null, .null, .null, .null, .null, .int (iI 0), .int (iI 0), .null, .null, .null, .int (iI 0), .null, .null, .int (iI 0), .int (iI 0), .null, .int (iI 0), .int (iI 0), .int (iI 0), .int (iI 0)])), aC (cs 0) q17 96 (fun _ => 0), aC (cs 0) q25 12 (fun _ => 0), aC (cs 0) q33 96 (fun _ => 0), aC (cs 0) q41 96 (fun _ => 0)] (C := RX8) (T := TX8) (N := 31) dX8_init_43 rfl iX8 tyX8_ok nmX8 L9 rfl rfl (by decide) rfl rfl rfl rfl rfl (Nat.le_of_ble_eq_true rfl) rfl ?_
  refine v_aload_n hC 47 0 dX8_init_46 rfl rfl rfl ?_
  refine v_bipush hC 49 dX8_init_47 rfl rfl ?_
  refine v_newai hC 51 (n := 96) dX8_init_49 rfl L5 (by decide) ⟨rfl, rfl⟩ ⟨by decide, by decide⟩ (fun q49 => ?_)
  refine v_putF hC 54 0 9 [(m0, .inr (8, [.int (iI 2), .int (iI 2), .int (iI 0), .int (iI 0), .int (iI 0), .ref q17, .ref q25, .ref q33, .ref q41, .ref q49, .null, .null, .null, .null, .null, .null, .int (iI 0), .int (iI 0), .null, .null, .null, .int (iI 0), .null, .null, .int (iI 0), .int (iI 0), .null, .int (iI 0), .int (iI 0), .int (iI 0), .int (iI 0)])), aC (cs 0) q17 96 (fun _ => 0), aC (cs 0) q25 12 (fun _ => 0), aC (cs 0) q33 96 (fun _ => 0), aC (cs 0) q41 96 (fun _ => 0), aC (cs 0) q49 96 (fun _ => 0)] (C := RX8) (T := TX8) (N := 31) dX8_init_51 rfl iX8 tyX8_ok nmX8 L10 rfl rfl (by decide) rfl rfl rfl rfl rfl (Nat.le_of_ble_eq_true rfl) rfl ?_
  refine v_aload_n hC 55 0 dX8_init_54 rfl rfl rfl ?_
  refine v_bipush hC 57 dX8_init_55 rfl rfl ?_
  refine v_newai hC 59 (n := 96) dX8_init_57 rfl L5 (by decide) ⟨rfl, rfl⟩ ⟨by decide, by decide⟩ (fun q57 => ?_)
  refine v_putF hC 62 0 10 [(m0, .inr (8, [.int (iI 2), .int (iI 2), .int (iI 0), .int (iI 0), .int (iI 0), .ref q17, .ref q25, .ref q33, .ref q41, .ref q49, .ref q57, .null, .null, .null, .null, .null, .int (iI 0), .int (iI 0), .null, .null, .null, .int (iI 0), .null, .null, .int (iI 0), .int (iI 0), .null, .int (iI 0), .int (iI 0), .int (iI 0), .int (iI 0)])), aC (cs 0) q17 96 (fun _ => 0), aC (cs 0) q25 12 (fun _ => 0), aC (cs 0) q33 96 (fun _ => 0), aC (cs 0) q41 96 (fun _ => 0), aC (cs 0) q49 96 (fun _ => 0), aC (cs 0) q57 96 (fun _ => 0)] (C := RX8) (T := TX8) (N := 31) dX8_init_59 rfl iX8 tyX8_ok nmX8 L11 rfl rfl (by decide) rfl rfl rfl rfl rfl (Nat.le_of_ble_eq_true rfl) rfl ?_
  refine v_aload_n hC 63 0 dX8_init_62 rfl rfl rfl ?_
  refine v_bipush hC 65 dX8_init_63 rfl rfl ?_
  refine v_newai hC 67 (n := 96) dX8_init_65 rfl L5 (by decide) ⟨rfl, rfl⟩ ⟨by decide, by decide⟩ (fun q65 => ?_)
  refine v_putF hC 70 0 11 [(m0, .inr (8, [.int (iI 2), .int (iI 2), .int (iI 0), .int (iI 0), .int (iI 0), .ref q17, .ref q25, .ref q33, .ref q41, .ref q49, .ref q57, .ref q65, .null, .null, .null, .null, .int (iI 0), .int (iI 0), .null, .null, .null, .int (iI 0), .null, .null, .int (iI 0), .int (iI 0), .null, .int (iI 0), .int (iI 0), .int (iI 0), .int (iI 0)])), aC (cs 0) q17 96 (fun _ => 0), aC (cs 0) q25 12 (fun _ => 0), aC (cs 0) q33 96 (fun _ => 0), aC (cs 0) q41 96 (fun _ => 0), aC (cs 0) q49 96 (fun _ => 0), aC (cs 0) q57 96 (fun _ => 0), aC (cs 0) q65 96 (fun _ => 0)] (C := RX8) (T := TX8) (N := 31) dX8_init_67 rfl iX8 tyX8_ok nmX8 L12 rfl rfl (by decide) rfl rfl rfl rfl rfl (Nat.le_of_ble_eq_true rfl) rfl ?_
  refine v_aload_n hC 71 0 dX8_init_70 rfl rfl rfl ?_
  refine v_bipush hC 73 dX8_init_71 rfl rfl ?_
  refine v_newai hC 75 (n := 96) dX8_init_73 rfl L5 (by decide) ⟨rfl, rfl⟩ ⟨by decide, by decide⟩ (fun q73 => ?_)
  refine v_putF hC 78 0 12 [(m0, .inr (8, [.int (iI 2), .int (iI 2), .int (iI 0), .int (iI 0), .int (iI 0), .ref q17, .ref q25, .ref q33, .ref q41, .ref q49, .ref q57, .ref q65, .ref q73, .null, .null, .null, .int (iI 0), .int (iI 0), .null, .null, .null, .int (iI 0), .null, .null, .int (iI 0), .int (iI 0), .null, .int (iI 0), .int (iI 0), .int (iI 0), .int (iI 0)])), aC (cs 0) q17 96 (fun _ => 0), aC (cs 0) q25 12 (fun _ => 0), aC (cs 0) q33 96 (fun _ => 0), aC (cs 0) q41 96 (fun _ => 0), aC (cs 0) q49 96 (fun _ => 0), aC (cs 0) q57 96 (fun _ => 0), aC (cs 0) q65 96 (fun _ => 0), aC (cs 0) q73 96 (fun _ => 0)] (C := RX8) (T := TX8) (N := 31) dX8_init_75 rfl iX8 tyX8_ok nmX8 L13 rfl rfl (by decide) rfl rfl rfl rfl rfl (Nat.le_of_ble_eq_true rfl) rfl ?_
  refine v_aload_n hC 79 0 dX8_init_78 rfl rfl rfl ?_
  refine v_bipush hC 81 dX8_init_79 rfl rfl ?_
  refine v_newai hC 83 (n := 96) dX8_init_81 rfl L5 (by decide) ⟨rfl, rfl⟩ ⟨by decide, by decide⟩ (fun q81 => ?_)
  refine v_putF hC 86 0 13 [(m0, .inr (8, [.int (iI 2), .int (iI 2), .int (iI 0), .int (iI 0), .int (iI 0), .ref q17, .ref q25, .ref q33, .ref q41, .ref q49, .ref q57, .ref q65, .ref q73, .ref q81, .null, .null, .int (iI 0), .int (iI 0), .null, .null, .null, .int (iI 0), .null, .null, .int (iI 0), .int (iI 0), .null, .int (iI 0), .int (iI 0), .int (iI 0), .int (iI 0)])), aC (cs 0) q17 96 (fun _ => 0), aC (cs 0) q25 12 (fun _ => 0), aC (cs 0) q33 96 (fun _ => 0), aC (cs 0) q41 96 (fun _ => 0), aC (cs 0) q49 96 (fun _ => 0), aC (cs 0) q57 96 (fun _ => 0), aC (cs 0) q65 96 (fun _ => 0), aC (cs 0) q73 96 (fun _ => 0), aC (cs 0) q81 96 (fun _ => 0)] (C := RX8) (T := TX8) (N := 31) dX8_init_83 rfl iX8 tyX8_ok nmX8 L14 rfl rfl (by decide) rfl rfl rfl rfl rfl (Nat.le_of_ble_eq_true rfl) rfl ?_
  refine v_aload_n hC 87 0 dX8_init_86 rfl rfl rfl ?_
  refine v_bipush hC 89 dX8_init_87 rfl rfl ?_
  refine v_newai hC 91 (n := 96) dX8_init_89 rfl L5 (by decide) ⟨rfl, rfl⟩ ⟨by decide, by decide⟩ (fun q89 => ?_)
  refine v_putF hC 94 0 14 [(m0, .inr (8, [.int (iI 2), .int (iI 2), .int (iI 0), .int (iI 0), .int (iI 0), .ref q17, .ref q25, .ref q33, .ref q41, .ref q49, .ref q57, .ref q65, .ref q73, .ref q81, .ref q89, .null, .int (iI 0), .int (iI 0), .null, .null, .null, .int (iI 0), .null, .null, .int (iI 0), .int (iI 0), .null, .int (iI 0), .int (iI 0), .int (iI 0), .int (iI 0)])), aC (cs 0) q17 96 (fun _ => 0), aC (cs 0) q25 12 (fun _ => 0), aC (cs 0) q33 96 (fun _ => 0), aC (cs 0) q41 96 (fun _ => 0), aC (cs 0) q49 96 (fun _ => 0), aC (cs 0) q57 96 (fun _ => 0), aC (cs 0) q65 96 (fun _ => 0), aC (cs 0) q73 96 (fun _ => 0), aC (cs 0) q81 96 (fun _ => 0), aC (cs 0) q89 96 (fun _ => 0)] (C := RX8) (T := TX8) (N := 31) dX8_init_91 rfl iX8 tyX8_ok nmX8 L15 rfl rfl (by decide) rfl rfl rfl rfl rfl (Nat.le_of_ble_eq_true rfl) rfl ?_
  refine v_aload_n hC 95 0 dX8_init_94 rfl rfl rfl ?_
  refine v_bipush hC 97 dX8_init_95 rfl rfl ?_
  refine v_newai hC 99 (n := 96) dX8_init_97 rfl L5 (by decide) ⟨rfl, rfl⟩ ⟨by decide, by decide⟩ (fun q97 => ?_)
  refine v_putF hC 102 0 15 [(m0, .inr (8, [.int (iI 2), .int (iI 2), .int (iI 0), .int (iI 0), .int (iI 0), .ref q17, .ref q25, .ref q33, .ref q41, .ref q49, .ref q57, .ref q65, .ref q73, .ref q81, .ref q89, .ref q97, .int (iI 0), .int (iI 0), .null, .null, .null, .int (iI 0), .null, .null, .int (iI 0), .int (iI 0), .null, .int (iI 0), .int (iI 0), .int (iI 0), .int (iI 0)])), aC (cs 0) q17 96 (fun _ => 0), aC (cs 0) q25 12 (fun _ => 0), aC (cs 0) q33 96 (fun _ => 0), aC (cs 0) q41 96 (fun _ => 0), aC (cs 0) q49 96 (fun _ => 0), aC (cs 0) q57 96 (fun _ => 0), aC (cs 0) q65 96 (fun _ => 0), aC (cs 0) q73 96 (fun _ => 0), aC (cs 0) q81 96 (fun _ => 0), aC (cs 0) q89 96 (fun _ => 0), aC (cs 0) q97 96 (fun _ => 0)] (C := RX8) (T := TX8) (N := 31) dX8_init_99 rfl iX8 tyX8_ok nmX8 L16 rfl rfl (by decide) rfl rfl rfl rfl rfl (Nat.le_of_ble_eq_true rfl) rfl ?_
  refine v_aload_n hC 103 0 dX8_init_102 rfl rfl rfl ?_
  refine v_bipush hC 105 dX8_init_103 rfl rfl ?_
  refine v_newai hC 107 (n := 100) dX8_init_105 rfl L5 (by decide) ⟨rfl, rfl⟩ ⟨by decide, by decide⟩ (fun q105 => ?_)
  refine v_putF hC 110 0 18 [(m0, .inr (8, [.int (iI 2), .int (iI 2), .int (iI 0), .int (iI 0), .int (iI 0), .ref q17, .ref q25, .ref q33, .ref q41, .ref q49, .ref q57, .ref q65, .ref q73, .ref q81, .ref q89, .ref q97, .int (iI 0), .int (iI 0), .ref q105, .null, .null, .int (iI 0), .null, .null, .int (iI 0), .int (iI 0), .null, .int (iI 0), .int (iI 0), .int (iI 0), .int (iI 0)])), aC (cs 0) q17 96 (fun _ => 0), aC (cs 0) q25 12 (fun _ => 0), aC (cs 0) q33 96 (fun _ => 0), aC (cs 0) q41 96 (fun _ => 0), aC (cs 0) q49 96 (fun _ => 0), aC (cs 0) q57 96 (fun _ => 0), aC (cs 0) q65 96 (fun _ => 0), aC (cs 0) q73 96 (fun _ => 0), aC (cs 0) q81 96 (fun _ => 0), aC (cs 0) q89 96 (fun _ => 0), aC (cs 0) q97 96 (fun _ => 0), aC (cs 0) q105 100 (fun _ => 0)] (C := RX8) (T := TX8) (N := 31) dX8_init_107 rfl iX8 tyX8_ok nmX8 L17 rfl rfl (by decide) rfl rfl rfl rfl rfl (Nat.le_of_ble_eq_true rfl) rfl ?_
  refine v_aload_n hC 111 0 dX8_init_110 rfl rfl rfl ?_
  refine v_bipush hC 113 dX8_init_111 rfl rfl ?_
  refine v_newai hC 115 (n := 100) dX8_init_113 rfl L5 (by decide) ⟨rfl, rfl⟩ ⟨by decide, by decide⟩ (fun q113 => ?_)
  refine v_putF hC 118 0 19 [(m0, .inr (8, [.int (iI 2), .int (iI 2), .int (iI 0), .int (iI 0), .int (iI 0), .ref q17, .ref q25, .ref q33, .ref q41, .ref q49, .ref q57, .ref q65, .ref q73, .ref q81, .ref q89, .ref q97, .int (iI 0), .int (iI 0), .ref q105, .ref q113, .null, .int (iI 0), .null, .null, .int (iI 0), .int (iI 0), .null, .int (iI 0), .int (iI 0), .int (iI 0), .int (iI 0)])), aC (cs 0) q17 96 (fun _ => 0), aC (cs 0) q25 12 (fun _ => 0), aC (cs 0) q33 96 (fun _ => 0), aC (cs 0) q41 96 (fun _ => 0), aC (cs 0) q49 96 (fun _ => 0), aC (cs 0) q57 96 (fun _ => 0), aC (cs 0) q65 96 (fun _ => 0), aC (cs 0) q73 96 (fun _ => 0), aC (cs 0) q81 96 (fun _ => 0), aC (cs 0) q89 96 (fun _ => 0), aC (cs 0) q97 96 (fun _ => 0), aC (cs 0) q105 100 (fun _ => 0), aC (cs 0) q113 100 (fun _ => 0)] (C := RX8) (T := TX8) (N := 31) dX8_init_115 rfl iX8 tyX8_ok nmX8 L18 rfl rfl (by decide) rfl rfl rfl rfl rfl (Nat.le_of_ble_eq_true rfl) rfl ?_
  refine v_aload_n hC 119 0 dX8_init_118 rfl rfl rfl ?_
  refine v_bipush hC 121 dX8_init_119 rfl rfl ?_
  refine v_newai hC 123 (n := 100) dX8_init_121 rfl L5 (by decide) ⟨rfl, rfl⟩ ⟨by decide, by decide⟩ (fun q121 => ?_)
  refine v_putF hC 126 0 20 [(m0, .inr (8, [.int (iI 2), .int (iI 2), .int (iI 0), .int (iI 0), .int (iI 0), .ref q17, .ref q25, .ref q33, .ref q41, .ref q49, .ref q57, .ref q65, .ref q73, .ref q81, .ref q89, .ref q97, .int (iI 0), .int (iI 0), .ref q105, .ref q113, .ref q121, .int (iI 0), .null, .null, .int (iI 0), .int (iI 0), .null, .int (iI 0), .int (iI 0), .int (iI 0), .int (iI 0)])), aC (cs 0) q17 96 (fun _ => 0), aC (cs 0) q25 12 (fun _ => 0), aC (cs 0) q33 96 (fun _ => 0), aC (cs 0) q41 96 (fun _ => 0), aC (cs 0) q49 96 (fun _ => 0), aC (cs 0) q57 96 (fun _ => 0), aC (cs 0) q65 96 (fun _ => 0), aC (cs 0) q73 96 (fun _ => 0), aC (cs 0) q81 96 (fun _ => 0), aC (cs 0) q89 96 (fun _ => 0), aC (cs 0) q97 96 (fun _ => 0), aC (cs 0) q105 100 (fun _ => 0), aC (cs 0) q113 100 (fun _ => 0), aC (cs 0) q121 100 (fun _ => 0)] (C := RX8) (T := TX8) (N := 31) dX8_init_123 rfl iX8 tyX8_ok nmX8 L19 rfl rfl (by decide) rfl rfl rfl rfl rfl (Nat.le_of_ble_eq_true rfl) rfl ?_
  refine v_aload_n hC 127 0 dX8_init_126 rfl rfl rfl ?_
  refine v_bipush hC 129 dX8_init_127 rfl rfl ?_
  refine v_newai hC 131 (n := 20) dX8_init_129 rfl L5 (by decide) ⟨rfl, rfl⟩ ⟨by decide, by decide⟩ (fun q129 => ?_)
  refine v_putF hC 134 0 22 [(m0, .inr (8, [.int (iI 2), .int (iI 2), .int (iI 0), .int (iI 0), .int (iI 0), .ref q17, .ref q25, .ref q33, .ref q41, .ref q49, .ref q57, .ref q65, .ref q73, .ref q81, .ref q89, .ref q97, .int (iI 0), .int (iI 0), .ref q105, .ref q113, .ref q121, .int (iI 0), .ref q129, .null, .int (iI 0), .int (iI 0), .null, .int (iI 0), .int (iI 0), .int (iI 0), .int (iI 0)])), aC (cs 0) q17 96 (fun _ => 0), aC (cs 0) q25 12 (fun _ => 0), aC (cs 0) q33 96 (fun _ => 0), aC (cs 0) q41 96 (fun _ => 0), aC (cs 0) q49 96 (fun _ => 0), aC (cs 0) q57 96 (fun _ => 0), aC (cs 0) q65 96 (fun _ => 0), aC (cs 0) q73 96 (fun _ => 0), aC (cs 0) q81 96 (fun _ => 0), aC (cs 0) q89 96 (fun _ => 0), aC (cs 0) q97 96 (fun _ => 0), aC (cs 0) q105 100 (fun _ => 0), aC (cs 0) q113 100 (fun _ => 0), aC (cs 0) q121 100 (fun _ => 0), aC (cs 0) q129 20 (fun _ => 0)] (C := RX8) (T := TX8) (N := 31) dX8_init_131 rfl iX8 tyX8_ok nmX8 L20 rfl rfl (by decide) rfl rfl rfl rfl rfl (Nat.le_of_ble_eq_true rfl) rfl ?_
  refine v_aload_n hC 135 0 dX8_init_134 rfl rfl rfl ?_
  refine v_bipush hC 137 dX8_init_135 rfl rfl ?_
  refine v_newai hC 139 (n := 20) dX8_init_137 rfl L5 (by decide) ⟨rfl, rfl⟩ ⟨by decide, by decide⟩ (fun q137 => ?_)
  refine v_putF hC 142 0 23 [(m0, .inr (8, [.int (iI 2), .int (iI 2), .int (iI 0), .int (iI 0), .int (iI 0), .ref q17, .ref q25, .ref q33, .ref q41, .ref q49, .ref q57, .ref q65, .ref q73, .ref q81, .ref q89, .ref q97, .int (iI 0), .int (iI 0), .ref q105, .ref q113, .ref q121, .int (iI 0), .ref q129, .ref q137, .int (iI 0), .int (iI 0), .null, .int (iI 0), .int (iI 0), .int (iI 0), .int (iI 0)])), aC (cs 0) q17 96 (fun _ => 0), aC (cs 0) q25 12 (fun _ => 0), aC (cs 0) q33 96 (fun _ => 0), aC (cs 0) q41 96 (fun _ => 0), aC (cs 0) q49 96 (fun _ => 0), aC (cs 0) q57 96 (fun _ => 0), aC (cs 0) q65 96 (fun _ => 0), aC (cs 0) q73 96 (fun _ => 0), aC (cs 0) q81 96 (fun _ => 0), aC (cs 0) q89 96 (fun _ => 0), aC (cs 0) q97 96 (fun _ => 0), aC (cs 0) q105 100 (fun _ => 0), aC (cs 0) q113 100 (fun _ => 0), aC (cs 0) q121 100 (fun _ => 0), aC (cs 0) q129 20 (fun _ => 0), aC (cs 0) q137 20 (fun _ => 0)] (C := RX8) (T := TX8) (N := 31) dX8_init_139 rfl iX8 tyX8_ok nmX8 L21 rfl rfl (by decide) rfl rfl rfl rfl rfl (Nat.le_of_ble_eq_true rfl) rfl ?_
  refine v_aload_n hC 143 0 dX8_init_142 rfl rfl rfl ?_
  refine v_bipush hC 145 dX8_init_143 rfl rfl ?_
  refine v_newai hC 147 (n := 8) dX8_init_145 rfl L5 (by decide) ⟨rfl, rfl⟩ ⟨by decide, by decide⟩ (fun q145 => ?_)
  refine v_putF hC 150 0 26 [(m0, .inr (8, [.int (iI 2), .int (iI 2), .int (iI 0), .int (iI 0), .int (iI 0), .ref q17, .ref q25, .ref q33, .ref q41, .ref q49, .ref q57, .ref q65, .ref q73, .ref q81, .ref q89, .ref q97, .int (iI 0), .int (iI 0), .ref q105, .ref q113, .ref q121, .int (iI 0), .ref q129, .ref q137, .int (iI 0), .int (iI 0), .ref q145, .int (iI 0), .int (iI 0), .int (iI 0), .int (iI 0)])), aC (cs 0) q17 96 (fun _ => 0), aC (cs 0) q25 12 (fun _ => 0), aC (cs 0) q33 96 (fun _ => 0), aC (cs 0) q41 96 (fun _ => 0), aC (cs 0) q49 96 (fun _ => 0), aC (cs 0) q57 96 (fun _ => 0), aC (cs 0) q65 96 (fun _ => 0), aC (cs 0) q73 96 (fun _ => 0), aC (cs 0) q81 96 (fun _ => 0), aC (cs 0) q89 96 (fun _ => 0), aC (cs 0) q97 96 (fun _ => 0), aC (cs 0) q105 100 (fun _ => 0), aC (cs 0) q113 100 (fun _ => 0), aC (cs 0) q121 100 (fun _ => 0), aC (cs 0) q129 20 (fun _ => 0), aC (cs 0) q137 20 (fun _ => 0), aC (cs 0) q145 8 (fun _ => 0)] (C := RX8) (T := TX8) (N := 31) dX8_init_147 rfl iX8 tyX8_ok nmX8 L22 rfl rfl (by decide) rfl rfl rfl rfl rfl (Nat.le_of_ble_eq_true rfl) rfl ?_
  refine v_aload_n hC 151 0 dX8_init_150 rfl rfl rfl ?_
  refine v_bipush hC 153 dX8_init_151 rfl rfl ?_
  refine v_put hC 156 0 28 [(m0, .inr (8, [.int (iI 2), .int (iI 2), .int (iI 0), .int (iI 0), .int (iI 0), .ref q17, .ref q25, .ref q33, .ref q41, .ref q49, .ref q57, .ref q65, .ref q73, .ref q81, .ref q89, .ref q97, .int (iI 0), .int (iI 0), .ref q105, .ref q113, .ref q121, .int (iI 0), .ref q129, .ref q137, .int (iI 0), .int (iI 0), .ref q145, .int (iI 0), .int (iI 6), .int (iI 0), .int (iI 0)])), aC (cs 0) q17 96 (fun _ => 0), aC (cs 0) q25 12 (fun _ => 0), aC (cs 0) q33 96 (fun _ => 0), aC (cs 0) q41 96 (fun _ => 0), aC (cs 0) q49 96 (fun _ => 0), aC (cs 0) q57 96 (fun _ => 0), aC (cs 0) q65 96 (fun _ => 0), aC (cs 0) q73 96 (fun _ => 0), aC (cs 0) q81 96 (fun _ => 0), aC (cs 0) q89 96 (fun _ => 0), aC (cs 0) q97 96 (fun _ => 0), aC (cs 0) q105 100 (fun _ => 0), aC (cs 0) q113 100 (fun _ => 0), aC (cs 0) q121 100 (fun _ => 0), aC (cs 0) q129 20 (fun _ => 0), aC (cs 0) q137 20 (fun _ => 0), aC (cs 0) q145 8 (fun _ => 0)] (C := RX8) (T := TX8) (N := 31) dX8_init_153 rfl iX8 tyX8_ok nmX8 L23 rfl rfl (by decide) rfl rfl rfl (Nat.le_of_ble_eq_true rfl) rfl ?_
  refine v_aload_n hC 157 0 dX8_init_156 rfl rfl rfl ?_
  refine v_get hC 160 0 6 (C := RX8) (T := TX8) (N := 31) dX8_init_157 rfl iX8 L7 rfl rfl (by decide) rfl ?_
  refine v_iconst hC 161 dX8_init_160 rfl ?_
  refine v_iconst hC 162 dX8_init_161 rfl ?_
  refine v_iast hC 163 2 [(m0, .inr (8, [.int (iI 2), .int (iI 2), .int (iI 0), .int (iI 0), .int (iI 0), .ref q17, .ref q25, .ref q33, .ref q41, .ref q49, .ref q57, .ref q65, .ref q73, .ref q81, .ref q89, .ref q97, .int (iI 0), .int (iI 0), .ref q105, .ref q113, .ref q121, .int (iI 0), .ref q129, .ref q137, .int (iI 0), .int (iI 0), .ref q145, .int (iI 0), .int (iI 6), .int (iI 0), .int (iI 0)])), aC (cs 0) q17 96 (fun _ => 0), aC (cs 0) q25 12 (uI (fun _ => 0) 0 1), aC (cs 0) q33 96 (fun _ => 0), aC (cs 0) q41 96 (fun _ => 0), aC (cs 0) q49 96 (fun _ => 0), aC (cs 0) q57 96 (fun _ => 0), aC (cs 0) q65 96 (fun _ => 0), aC (cs 0) q73 96 (fun _ => 0), aC (cs 0) q81 96 (fun _ => 0), aC (cs 0) q89 96 (fun _ => 0), aC (cs 0) q97 96 (fun _ => 0), aC (cs 0) q105 100 (fun _ => 0), aC (cs 0) q113 100 (fun _ => 0), aC (cs 0) q121 100 (fun _ => 0), aC (cs 0) q129 20 (fun _ => 0), aC (cs 0) q137 20 (fun _ => 0), aC (cs 0) q145 8 (fun _ => 0)] dX8_init_162 rfl rfl (by decide) (by omega) rfl ?_
  refine v_aload_n hC 164 0 dX8_init_163 rfl rfl rfl ?_
  refine v_get hC 167 0 6 (C := RX8) (T := TX8) (N := 31) dX8_init_164 rfl iX8 L7 rfl rfl (by decide) rfl ?_
  refine v_iconst hC 168 dX8_init_167 rfl ?_
  refine v_iconst hC 169 dX8_init_168 rfl ?_
  refine v_iast hC 170 2 [(m0, .inr (8, [.int (iI 2), .int (iI 2), .int (iI 0), .int (iI 0), .int (iI 0), .ref q17, .ref q25, .ref q33, .ref q41, .ref q49, .ref q57, .ref q65, .ref q73, .ref q81, .ref q89, .ref q97, .int (iI 0), .int (iI 0), .ref q105, .ref q113, .ref q121, .int (iI 0), .ref q129, .ref q137, .int (iI 0), .int (iI 0), .ref q145, .int (iI 0), .int (iI 6), .int (iI 0), .int (iI 0)])), aC (cs 0) q17 96 (fun _ => 0), aC (cs 0) q25 12 (uI (uI (fun _ => 0) 0 1) 1 1), aC (cs 0) q33 96 (fun _ => 0), aC (cs 0) q41 96 (fun _ => 0), aC (cs 0) q49 96 (fun _ => 0), aC (cs 0) q57 96 (fun _ => 0), aC (cs 0) q65 96 (fun _ => 0), aC (cs 0) q73 96 (fun _ => 0), aC (cs 0) q81 96 (fun _ => 0), aC (cs 0) q89 96 (fun _ => 0), aC (cs 0) q97 96 (fun _ => 0), aC (cs 0) q105 100 (fun _ => 0), aC (cs 0) q113 100 (fun _ => 0), aC (cs 0) q121 100 (fun _ => 0), aC (cs 0) q129 20 (fun _ => 0), aC (cs 0) q137 20 (fun _ => 0), aC (cs 0) q145 8 (fun _ => 0)] dX8_init_169 rfl rfl (by decide) (by omega) rfl ?_
  obtain ⟨am, ham⟩ : ∃ f9 : Nat → Nat, f9 = fun k9 => [m0, q17, q25, q33, q41, q49, q57, q65, q73, q81, q89, q97, q105, q113, q121, q129, q137, q145].getD k9 0 := ⟨_, rfl⟩
  have eam0 : m0 = am 0 := by subst ham; rfl
  have eam1 : q17 = am 1 := by subst ham; rfl
  have eam2 : q25 = am 2 := by subst ham; rfl
  have eam3 : q33 = am 3 := by subst ham; rfl
  have eam4 : q41 = am 4 := by subst ham; rfl
  have eam5 : q49 = am 5 := by subst ham; rfl
  have eam6 : q57 = am 6 := by subst ham; rfl
  have eam7 : q65 = am 7 := by subst ham; rfl
  have eam8 : q73 = am 8 := by subst ham; rfl
  have eam9 : q81 = am 9 := by subst ham; rfl
  have eam10 : q89 = am 10 := by subst ham; rfl
  have eam11 : q97 = am 11 := by subst ham; rfl
  have eam12 : q105 = am 12 := by subst ham; rfl
  have eam13 : q113 = am 13 := by subst ham; rfl
  have eam14 : q121 = am 14 := by subst ham; rfl
  have eam15 : q129 = am 15 := by subst ham; rfl
  have eam16 : q137 = am 16 := by subst ham; rfl
  have eam17 : q145 = am 17 := by subst ham; rfl
  subst eam0
  subst eam1
  subst eam2
  subst eam3
  subst eam4
  subst eam5
  subst eam6
  subst eam7
  subst eam8
  subst eam9
  subst eam10
  subst eam11
  subst eam12
  subst eam13
  subst eam14
  subst eam15
  subst eam16
  subst eam17
  refine v_aload_n hC 171 0 dX8_init_170 rfl rfl rfl ?_
  refine v_callVv hC 174 0 [0, 1, 2, 3, 4, 5, 6, 7, 8, 9, 10, 11, 12, 13, 14, 15, 16, 17] [] [] (As := []) (rest := []) (c_X8_unlay lx D cs am 2 2 0 0 0 0 0 0 0 0 0 6 0 0 (fun _ => 0) (uI (uI (fun _ => 0) 0 1) 1 1) (fun _ => 0) (fun _ => 0) (fun _ => 0) (fun _ => 0) (fun _ => 0) (fun _ => 0) (fun _ => 0) (fun _ => 0) (fun _ => 0) (fun _ => 0) (fun _ => 0) (fun _ => 0) (fun _ => 0) (fun _ => 0) (fun _ => 0) ) dX8_init_171 rfl rfl 0 rfl rfl gX8_init_X8_unlay rfl rfl rfl (by decide +kernel) ⟨by decide, by decide⟩ rfl rfl rfl rfl (by decide) rfl (Nat.le_of_ble_eq_true rfl) ⟨rfl, rfl⟩ ⟨by decide, by decide⟩ (fun u171 h171 => ?_)
  obtain ⟨mdry1_171, rfl⟩ : ∃ y9, y9 = u171 := ⟨_, rfl⟩
  (try dsimp only at h171)
  show V p9 lx e9 ({ frames := 4, cells := 17, slots := 1320, locals := 100 }) s9 m9 ar9 be9 me9 c9 Q9 D A9 s9.heap 1 17 1320 [oM am 2 2 0 0 0 0 0 0 0 0 0 6 0 0, aC (cs 0) (am 1) 96 (fun _ => 0), aC (cs 0) (am 2) 12 (uI (uI (fun _ => 0) 0 1) 1 1), aC (cs 0) (am 3) 96 (fun _ => 0), aC (cs 0) (am 4) 96 (fun _ => 0), aC (cs 0) (am 5) 96 (fun _ => 0), aC (cs 0) (am 6) 96 (fun _ => 0), aC (cs 0) (am 7) 96 (fun _ => 0), aC (cs 0) (am 8) 96 (fun _ => 0), aC (cs 0) (am 9) 96 (fun _ => 0), aC (cs 0) (am 10) 96 (fun _ => 0), aC (cs 0) (am 11) 96 (fun _ => 0), aC (cs 0) (am 12) 100 (fun _ => 0), aC (cs 0) (am 13) 100 (fun _ => 0), aC (cs 0) (am 14) 100 (fun _ => 0), aC (cs 0) (am 15) 20 (fun _ => 0), aC (cs 0) (am 16) 20 (fun _ => 0), aC (cs 0) (am 17) 8 mdry1_171] [(0, .ref (am 0))] 174 []
  refine v_aload_n hC 175 0 dX8_init_174 rfl rfl rfl ?_
  refine v_callVv hC 178 0 [0, 1, 2, 3, 4, 5, 6, 7, 8, 9, 10, 11, 12, 13, 14, 15, 16, 17] [] [] (As := []) (rest := []) (c_X8_plans lx D cs am 2 2 0 0 0 0 0 0 0 0 0 6 0 0 (fun _ => 0) (uI (uI (fun _ => 0) 0 1) 1 1) (fun _ => 0) (fun _ => 0) (fun _ => 0) (fun _ => 0) (fun _ => 0) (fun _ => 0) (fun _ => 0) (fun _ => 0) (fun _ => 0) (fun _ => 0) (fun _ => 0) (fun _ => 0) (fun _ => 0) (fun _ => 0) mdry1_171 (by decide) (by decide) (by decide) (by decide) (by exact Rn_c (by decide)) (by exact Rn_uI (Rn_uI (Rn_c (by decide)) (by decide)) (by decide)) (by exact Rn_c (by decide)) (by exact Rok_0)) dX8_init_175 rfl rfl 0 rfl rfl gX8_init_X8_plans rfl rfl rfl (by decide +kernel) ⟨by decide, by decide⟩ rfl rfl rfl rfl (by decide) rfl (Nat.le_of_ble_eq_true rfl) ⟨rfl, rfl⟩ ⟨by decide, by decide⟩ (fun u175 h175 => ?_)
  obtain ⟨mpieces1_175, mat1_175, mpk1_175, mpf1_175, mpn1_175, mleft1_175, mright1_175, mtop1_175, mbottom1_175, mtiles1_175, mrests1_175, mrw1_175, mrh1_175, mrp1_175, mpr1_175⟩ := u175
  (try dsimp only at h175)
  obtain ⟨h175_1, h175_2, h175_3, h175_4, h175_5⟩ := h175
  show V p9 lx e9 ({ frames := 4, cells := 17, slots := 1320, locals := 100 }) s9 m9 ar9 be9 me9 c9 Q9 D A9 s9.heap 1 17 1320 [oM am 2 2 0 0 0 mpieces1_175 mtiles1_175 mrests1_175 0 0 0 6 0 0, aC (cs 0) (am 1) 96 (fun _ => 0), aC (cs 0) (am 2) 12 (uI (uI (fun _ => 0) 0 1) 1 1), aC (cs 0) (am 3) 96 mpk1_175, aC (cs 0) (am 4) 96 mpf1_175, aC (cs 0) (am 5) 96 mpn1_175, aC (cs 0) (am 6) 96 mpr1_175, aC (cs 0) (am 7) 96 mleft1_175, aC (cs 0) (am 8) 96 mright1_175, aC (cs 0) (am 9) 96 mtop1_175, aC (cs 0) (am 10) 96 mbottom1_175, aC (cs 0) (am 11) 96 mat1_175, aC (cs 0) (am 12) 100 mrw1_175, aC (cs 0) (am 13) 100 mrh1_175, aC (cs 0) (am 14) 100 mrp1_175, aC (cs 0) (am 15) 20 (fun _ => 0), aC (cs 0) (am 16) 20 (fun _ => 0), aC (cs 0) (am 17) 8 mdry1_171] [(0, .ref (am 0))] 178 []
  exact v_vret hC hQ (am, mpieces1_175, mat1_175, mpk1_175, mpf1_175, mpn1_175, mleft1_175, mright1_175, mtop1_175, mbottom1_175, mtiles1_175, mrests1_175, mrw1_175, mrh1_175, mrp1_175, mpr1_175, mdry1_171) [0, 1, 2, 3, 4, 5, 6, 7, 8, 9, 10, 11, 12, 13, 14, 15, 16, 17] dX8_init_178 rfl rfl ⟨by decide, by decide⟩ ⟨by (try dsimp only); all_goals (rfl), by (try dsimp only); all_goals (exact h171), by (try dsimp only); all_goals (exact h175_1), by (try dsimp only); all_goals (exact h175_2), by (try dsimp only); all_goals (exact h175_3), by (try dsimp only); all_goals (exact h175_4), by (try dsimp only); all_goals (exact h175_5)⟩

set_option maxHeartbeats 4000000 in
set_option maxRecDepth 100000 in
theorem c_X4_measure (lx : Launch) (D : va_G) (cs : Nat → ClassId) (ap : Nat → Nat) (ab : Nat → Nat) (cnt : Int) (ofc : Int → Int) (knd : Int → Int) (col : Int → Int) (row : Int → Int) (siz : Int → Int) (bw : Int → Int) (bh : Int → Int) (door : Int) (pil : Int → Int) (bar : Int → Int) (fl : Int) (fr : Int) (ft : Int) (fb : Int) (p : Int) (x : Int) (y : Int) (S : Int → Bool) (hp : 0 ≤ p ∧ p < cnt ∧ cnt ≤ 96) (hxf : (0 ≤ fl ∧ fl ≤ x ∧ x < fr ∧ fr ≤ 12) ∧ 0 ≤ ft ∧ ft ≤ y ∧ y < fb ∧ fb ≤ 8) (hrow : row p = y) (hbar : Rn bar 0 1) (hF : inF fl fr ft fb (y * 12 + x) bar S) (hc0 : bar (y * 12 + x) ≠ 1) (hc1 : ∀ d : Int, 0 ≤ d → d < y * 12 + x → fl ≤ d % 12 ∧ d % 12 < fr → ft ≤ d / 12 → bar d = 1) : Cv lx D cs yX4_measure wsX4_measure ({ frames := 3, cells := 0, slots := 0, locals := 67 }) [.ref (ap 0), .ref (ab 0), .int (iI p)] [oP ap cnt, aC (cs 0) (ap 1) 96 ofc, aC (cs 0) (ap 2) 96 knd, aC (cs 0) (ap 3) 96 col, aC (cs 0) (ap 4) 96 row, aC (cs 0) (ap 5) 96 siz, aC (cs 0) (ap 6) 96 bw, aC (cs 0) (ap 7) 96 bh, oB ab door, aC (cs 1) (ab 1) 96 pil, aC (cs 1) (ab 2) 96 bar, oF (ap 8) fl fr ft fb] (fun (u : Unit) => True) (fun u : Unit => [oP ap cnt, aC (cs 0) (ap 1) 96 (qA S ofc p 96), aC (cs 0) (ap 2) 96 knd, aC (cs 0) (ap 3) 96 col, aC (cs 0) (ap 4) 96 row, aC (cs 0) (ap 5) 96 (uI siz p (qC S 96)), aC (cs 0) (ap 6) 96 (uI bw p (qR S 96 - qL S 96 + 1)), aC (cs 0) (ap 7) 96 (uI bh p (qB S 96 - y + 1)), oB ab door, aC (cs 1) (ab 1) 96 pil, aC (cs 1) (ab 2) 96 bar, oF (ap 8) fl fr ft fb]) 0 0 := by
  refine Cv_of (cc := cX4_measure) (nL := 9) (ret := none) (lv0 := [(0, .ref (ap 0)), (1, .ref (ab 0)), (2, .int (iI p))]) RX4 "measure" (by decide +kernel) rfl (Nat.le_of_ble_eq_true rfl) rfl (fun p9 e9 s9 m9 ar9 be9 me9 c9 A9 Q9 hQ hC => ?_)
  have hc9 : S (y * 12 + x) = true := inF_yes hF ⟨by omega, by omega⟩ ⟨by omega, by omega⟩ ⟨by omega, hc0, ⟨by omega, by omega⟩, by omega, by omega⟩
  have hlow : ∀ j : Int, 0 ≤ j → j < y * 12 + x → S j = false := fun j h1 h2 => inF_no hF ⟨h1, by omega⟩ (Or.inl h2)
  have iX4 : ∀ w ∈ wsX40, w ∈ wsX4_measure := by decide +kernel
  have iX2 : ∀ w ∈ wsX20, w ∈ wsX4_measure := by decide +kernel
  have L0 : Cond.fieldLink RX4 40 "Groutline$Pieces" "frame" "LGroutline$Frame;" ∈ wsX4_measure := by decide +kernel
  have L1 : Cond.fieldLink RX4 86 "Groutline$Frame" "right" "I" ∈ wsX4_measure := by decide +kernel
  have L2 : Cond.fieldLink RX4 89 "Groutline$Frame" "left" "I" ∈ wsX4_measure := by decide +kernel
  have L3 : Cond.fieldLink RX4 92 "Groutline$Frame" "top" "I" ∈ wsX4_measure := by decide +kernel
  have L4 : Cond.fieldLink RX4 25 "Groutline$Pieces" "rows" "[I" ∈ wsX4_measure := by decide +kernel
  have L5 : Cond.fieldLink RX4 95 "Groutline$Frame" "bottom" "I" ∈ wsX4_measure := by decide +kernel
  have L6 : Cond.fieldLink RX4 28 "Groutline$Pieces" "sizes" "[I" ∈ wsX4_measure := by decide +kernel
  have L7 : Cond.fieldLink RX4 31 "Groutline$Pieces" "boxWides" "[I" ∈ wsX4_measure := by decide +kernel
  have L8 : Cond.fieldLink RX4 34 "Groutline$Pieces" "boxHighs" "[I" ∈ wsX4_measure := by decide +kernel
  have L9 : Cond.initialized yX7_isCell.cls ∈ wsX4_measure := by decide +kernel
  have L10 : Cond.static yX7_isCell ∈ wsX4_measure := by decide +kernel
  have L11 : Cond.fieldLink RX4 15 "Groutline$Pieces" "ofCells" "[I" ∈ wsX4_measure := by decide +kernel
  have L12 : Cond.initialized yX7_cellAt.cls ∈ wsX4_measure := by decide +kernel
  have L13 : Cond.static yX7_cellAt ∈ wsX4_measure := by decide +kernel
  have L14 : Cond.methodLink RX4 101 Lib.Math.min.name ∈ wsX4_measure := by decide +kernel
  have L15 : Cond.static Lib.Math.min.name ∈ wsX4_measure := by decide +kernel
  have L16 : Cond.initialized "java/lang/Math" ∈ wsX4_measure := by decide +kernel
  have L17 : Cond.code Lib.Math.min.name Lib.Math.min.code 2 (some .int) ∈ wsX4_measure := by decide +kernel
  have L18 : Cond.methodLink RX4 106 Lib.Math.max.name ∈ wsX4_measure := by decide +kernel
  have L19 : Cond.static Lib.Math.max.name ∈ wsX4_measure := by decide +kernel
  have L20 : Cond.code Lib.Math.max.name Lib.Math.max.code 2 (some .int) ∈ wsX4_measure := by decide +kernel
  refine v_aload_n hC 1 0 dX4_measure_0 rfl rfl rfl ?_
  refine v_iload_n hC 2 2 dX4_measure_1 rfl rfl rfl ?_
  refine v_callVi hC 5 1 [0, 1, 2, 3, 4, 5, 6, 7] [8, 9, 10, 11] [oB ab door, aC (cs 1) (ab 1) 96 pil, aC (cs 1) (ab 2) 96 bar, oF (ap 8) fl fr ft fb] (As := [.int (iI p)]) (rest := []) (c_X4_has lx D cs ap cnt ofc knd col row siz bw bh p (by omega) (by omega)) dX4_measure_2 rfl rfl 0 rfl rfl gX4_measure_X4_has rfl rfl rfl (by decide +kernel) ⟨by decide, by decide⟩ rfl rfl rfl rfl (by decide) rfl (Nat.le_of_ble_eq_true rfl) ⟨rfl, rfl⟩ ⟨by decide, by decide⟩ (fun z2 u2 h2 => ?_)
  (try dsimp only at h2)
  obtain ⟨h2_1, h2_2⟩ := h2
  show V p9 lx e9 ({ frames := 3, cells := 0, slots := 0, locals := 67 }) s9 m9 ar9 be9 me9 c9 Q9 D A9 s9.heap 9 0 0 [oB ab door, aC (cs 1) (ab 1) 96 pil, aC (cs 1) (ab 2) 96 bar, oF (ap 8) fl fr ft fb, oP ap cnt, aC (cs 0) (ap 1) 96 ofc, aC (cs 0) (ap 2) 96 knd, aC (cs 0) (ap 3) 96 col, aC (cs 0) (ap 4) 96 row, aC (cs 0) (ap 5) 96 siz, aC (cs 0) (ap 6) 96 bw, aC (cs 0) (ap 7) 96 bh] [(0, .ref (ap 0)), (1, .ref (ab 0)), (2, .int (iI p))] 5 [.int (iI z2)]
  refine v_if_ne hC 9 8 dX4_measure_5 (by decide) rfl (by omega) (fun c_5 => ?_) (fun c_5 => ?_)
  · skip
    refine v_iconst hC 10 dX4_measure_9 rfl ?_
    refine v_istore_n hC 11 [(3, .int (iI 0)), (0, .ref (ap 0)), (1, .ref (ab 0)), (2, .int (iI p))] dX4_measure_10 rfl rfl (by decide) rfl ?_
    refine v_aload_n hC 12 1 dX4_measure_11 rfl rfl rfl ?_
    refine v_get hC 15 4 8 (C := RX4) (T := TX4) (N := 9) dX4_measure_12 rfl iX4 L0 rfl rfl (by decide) rfl ?_
    refine v_get hC 18 3 1 (C := RX2) (T := TX2) (N := 4) dX4_measure_15 rfl iX2 L1 rfl rfl (by decide) rfl ?_
    refine v_istore hC 20 [(4, .int (iI fr)), (3, .int (iI 0)), (0, .ref (ap 0)), (1, .ref (ab 0)), (2, .int (iI p))] dX4_measure_18 rfl (by decide) rfl ?_
    refine v_aload_n hC 21 2 dX4_measure_20 rfl rfl rfl ?_
    refine v_get hC 24 4 8 (C := RX4) (T := TX4) (N := 9) dX4_measure_21 rfl iX4 L0 rfl rfl (by decide) rfl ?_
    refine v_get hC 27 3 0 (C := RX2) (T := TX2) (N := 4) dX4_measure_24 rfl iX2 L2 rfl rfl (by decide) rfl ?_
    refine v_istore hC 29 [(5, .int (iI fl)), (4, .int (iI fr)), (3, .int (iI 0)), (0, .ref (ap 0)), (1, .ref (ab 0)), (2, .int (iI p))] dX4_measure_27 rfl (by decide) rfl ?_
    refine v_aload_n hC 30 3 dX4_measure_29 rfl rfl rfl ?_
    refine v_get hC 33 4 8 (C := RX4) (T := TX4) (N := 9) dX4_measure_30 rfl iX4 L0 rfl rfl (by decide) rfl ?_
    refine v_get hC 36 3 2 (C := RX2) (T := TX2) (N := 4) dX4_measure_33 rfl iX2 L3 rfl rfl (by decide) rfl ?_
    refine v_istore hC 38 [(6, .int (iI ft)), (5, .int (iI fl)), (4, .int (iI fr)), (3, .int (iI 0)), (0, .ref (ap 0)), (1, .ref (ab 0)), (2, .int (iI p))] dX4_measure_36 rfl (by decide) rfl ?_
    refine v_aload_n hC 39 4 dX4_measure_38 rfl rfl rfl ?_
    refine v_get hC 42 4 4 (C := RX4) (T := TX4) (N := 9) dX4_measure_39 rfl iX4 L4 rfl rfl (by decide) rfl ?_
    refine v_iload_n hC 43 6 dX4_measure_42 rfl rfl rfl ?_
    refine v_iald hC 44 8 dX4_measure_43 rfl rfl (by decide) (by omega) ?_
    refine v_istore hC 46 [(7, .int (iI (row p))), (6, .int (iI ft)), (5, .int (iI fl)), (4, .int (iI fr)), (3, .int (iI 0)), (0, .ref (ap 0)), (1, .ref (ab 0)), (2, .int (iI p))] dX4_measure_44 rfl (by decide) rfl ?_
    have cut_46 : ∀ (n : Nat) (r : Int) (ofc2 : Int → Int) (sz2 : Int) (lm2 : Int) (rm2 : Int) (lo2 : Int), (y ≤ r ∧ r ≤ fb) → ((0 ≤ lm2 ∧ lm2 ≤ 12) ∧ -1 ≤ rm2 ∧ rm2 ≤ 12) → (MS fl fr ft (y * 12 + x) S ofc p (r * 12) ofc2 sz2 lm2 rm2 lo2) → (fb - r < (n : Int)) → V p9 lx e9 ({ frames := 3, cells := 0, slots := 0, locals := 67 }) s9 m9 ar9 be9 me9 c9 Q9 D A9 s9.heap 9 0 0 [oB ab door, aC (cs 1) (ab 1) 96 pil, aC (cs 1) (ab 2) 96 bar, oF (ap 8) fl fr ft fb, oP ap cnt, aC (cs 0) (ap 1) 96 ofc2, aC (cs 0) (ap 2) 96 knd, aC (cs 0) (ap 3) 96 col, aC (cs 0) (ap 4) 96 row, aC (cs 0) (ap 5) 96 siz, aC (cs 0) (ap 6) 96 bw, aC (cs 0) (ap 7) 96 bh] [(0, .ref (ap 0)), (1, .ref (ab 0)), (2, .int (iI p)), (3, .int (iI sz2)), (4, .int (iI lm2)), (5, .int (iI rm2)), (6, .int (iI lo2)), (7, .int (iI r))] 46 [] := by
      intro n
      induction n with
      | zero =>
        intro r ofc2 sz2 lm2 rm2 lo2 hr hb2 hst hn
        exfalso; omega
      | succ n ih =>
        intro r ofc2 sz2 lm2 rm2 lo2 hr hb2 hst hn
        have ih_46 := ih
        clear ih
        refine v_iload hC 48 7 dX4_measure_46 rfl rfl ?_
        refine v_aload_n hC 49 0 dX4_measure_48 rfl rfl rfl ?_
        refine v_get hC 52 4 8 (C := RX4) (T := TX4) (N := 9) dX4_measure_49 rfl iX4 L0 rfl rfl (by decide) rfl ?_
        refine v_get hC 55 3 3 (C := RX2) (T := TX2) (N := 4) dX4_measure_52 rfl iX2 L5 rfl rfl (by decide) rfl ?_
        refine v_icmp_ge hC 150 58 dX4_measure_55 (by decide) rfl (by omega) (by omega) (fun c_55 => ?_) (fun c_55 => ?_)
        · skip
          refine v_aload_n hC 151 0 dX4_measure_150 rfl rfl rfl ?_
          refine v_get hC 154 4 5 (C := RX4) (T := TX4) (N := 9) dX4_measure_151 rfl iX4 L6 rfl rfl (by decide) rfl ?_
          refine v_iload_n hC 155 2 dX4_measure_154 rfl rfl rfl ?_
          refine v_iload_n hC 156 3 dX4_measure_155 rfl rfl rfl ?_
          refine v_iast hC 157 9 [oB ab door, aC (cs 1) (ab 1) 96 pil, aC (cs 1) (ab 2) 96 bar, oF (ap 8) fl fr ft fb, oP ap cnt, aC (cs 0) (ap 1) 96 ofc2, aC (cs 0) (ap 2) 96 knd, aC (cs 0) (ap 3) 96 col, aC (cs 0) (ap 4) 96 row, aC (cs 0) (ap 5) 96 (uI siz p sz2), aC (cs 0) (ap 6) 96 bw, aC (cs 0) (ap 7) 96 bh] dX4_measure_156 rfl rfl (by decide) (by omega) rfl ?_
          refine v_aload_n hC 158 0 dX4_measure_157 rfl rfl rfl ?_
          refine v_get hC 161 4 6 (C := RX4) (T := TX4) (N := 9) dX4_measure_158 rfl iX4 L7 rfl rfl (by decide) rfl ?_
          refine v_iload_n hC 162 2 dX4_measure_161 rfl rfl rfl ?_
          refine v_iload hC 164 5 dX4_measure_162 rfl rfl ?_
          refine v_iload hC 166 4 dX4_measure_164 rfl rfl ?_
          refine v_isub hC 167 (rm2 - lm2) dX4_measure_166 rfl rfl ?_
          refine v_iconst hC 168 dX4_measure_167 rfl ?_
          refine v_iadd hC 169 (rm2 - lm2 + 1) dX4_measure_168 rfl rfl ?_
          refine v_iast hC 170 10 [oB ab door, aC (cs 1) (ab 1) 96 pil, aC (cs 1) (ab 2) 96 bar, oF (ap 8) fl fr ft fb, oP ap cnt, aC (cs 0) (ap 1) 96 ofc2, aC (cs 0) (ap 2) 96 knd, aC (cs 0) (ap 3) 96 col, aC (cs 0) (ap 4) 96 row, aC (cs 0) (ap 5) 96 (uI siz p sz2), aC (cs 0) (ap 6) 96 (uI bw p (rm2 - lm2 + 1)), aC (cs 0) (ap 7) 96 bh] dX4_measure_169 rfl rfl (by decide) (by omega) rfl ?_
          refine v_aload_n hC 171 0 dX4_measure_170 rfl rfl rfl ?_
          refine v_get hC 174 4 7 (C := RX4) (T := TX4) (N := 9) dX4_measure_171 rfl iX4 L8 rfl rfl (by decide) rfl ?_
          refine v_iload_n hC 175 2 dX4_measure_174 rfl rfl rfl ?_
          refine v_iload hC 177 6 dX4_measure_175 rfl rfl ?_
          refine v_aload_n hC 178 0 dX4_measure_177 rfl rfl rfl ?_
          refine v_get hC 181 4 4 (C := RX4) (T := TX4) (N := 9) dX4_measure_178 rfl iX4 L4 rfl rfl (by decide) rfl ?_
          refine v_iload_n hC 182 2 dX4_measure_181 rfl rfl rfl ?_
          refine v_iald hC 183 8 dX4_measure_182 rfl rfl (by decide) (by omega) ?_
          refine v_isub hC 184 (lo2 - (row p)) dX4_measure_183 rfl rfl ?_
          refine v_iconst hC 185 dX4_measure_184 rfl ?_
          refine v_iadd hC 186 (lo2 - (row p) + 1) dX4_measure_185 rfl rfl ?_
          refine v_iast hC 187 11 [oB ab door, aC (cs 1) (ab 1) 96 pil, aC (cs 1) (ab 2) 96 bar, oF (ap 8) fl fr ft fb, oP ap cnt, aC (cs 0) (ap 1) 96 ofc2, aC (cs 0) (ap 2) 96 knd, aC (cs 0) (ap 3) 96 col, aC (cs 0) (ap 4) 96 row, aC (cs 0) (ap 5) 96 (uI siz p sz2), aC (cs 0) (ap 6) 96 (uI bw p (rm2 - lm2 + 1)), aC (cs 0) (ap 7) 96 (uI bh p (lo2 - (row p) + 1))] dX4_measure_186 rfl rfl (by decide) (by omega) rfl ?_
          rw [hrow]
          have hM := MS_to hst hc9 (by omega) (show r * 12 ≤ 96 by omega) (fun j h1 h2 => inF_no hF ⟨by omega, by omega⟩ (by omega))
          obtain ⟨rfl, rfl, hM3⟩ := hM
          obtain ⟨rfl, rfl, rfl⟩ : lm2 = qL S 96 ∧ rm2 = qR S 96 ∧ lo2 = qB S 96 := hM3.elim (fun q => absurd q.1 (by omega)) (fun q => q.2)
          exact v_vret hC hQ () [4, 5, 6, 7, 8, 9, 10, 11, 0, 1, 2, 3] dX4_measure_187 rfl rfl ⟨by decide, by decide⟩ trivial
        · skip
          refine v_aload_n hC 59 0 dX4_measure_58 rfl rfl rfl ?_
          refine v_get hC 62 4 8 (C := RX4) (T := TX4) (N := 9) dX4_measure_59 rfl iX4 L0 rfl rfl (by decide) rfl ?_
          refine v_get hC 65 3 0 (C := RX2) (T := TX2) (N := 4) dX4_measure_62 rfl iX2 L2 rfl rfl (by decide) rfl ?_
          refine v_istore hC 67 [(8, .int (iI fl)), (0, .ref (ap 0)), (1, .ref (ab 0)), (2, .int (iI p)), (3, .int (iI sz2)), (4, .int (iI lm2)), (5, .int (iI rm2)), (6, .int (iI lo2)), (7, .int (iI r))] dX4_measure_65 rfl (by decide) rfl ?_
          have cut_67 : ∀ (n : Nat) (u : Int) (ofc3 : Int → Int) (sz3 : Int) (lm3 : Int) (rm3 : Int) (lo3 : Int), (fl ≤ u ∧ u ≤ fr) → ((0 ≤ lm3 ∧ lm3 ≤ 12) ∧ -1 ≤ rm3 ∧ rm3 ≤ 12) → (MS fl fr ft (y * 12 + x) S ofc p (r * 12 + u) ofc3 sz3 lm3 rm3 lo3) → (fr - u < (n : Int)) → V p9 lx e9 ({ frames := 3, cells := 0, slots := 0, locals := 67 }) s9 m9 ar9 be9 me9 c9 Q9 D A9 s9.heap 9 0 0 [oB ab door, aC (cs 1) (ab 1) 96 pil, aC (cs 1) (ab 2) 96 bar, oF (ap 8) fl fr ft fb, oP ap cnt, aC (cs 0) (ap 1) 96 ofc3, aC (cs 0) (ap 2) 96 knd, aC (cs 0) (ap 3) 96 col, aC (cs 0) (ap 4) 96 row, aC (cs 0) (ap 5) 96 siz, aC (cs 0) (ap 6) 96 bw, aC (cs 0) (ap 7) 96 bh] [(0, .ref (ap 0)), (1, .ref (ab 0)), (2, .int (iI p)), (3, .int (iI sz3)), (4, .int (iI lm3)), (5, .int (iI rm3)), (6, .int (iI lo3)), (7, .int (iI r)), (8, .int (iI u))] 67 [] := by
            intro n
            induction n with
            | zero =>
              intro u ofc3 sz3 lm3 rm3 lo3 hu hb3 hst3 hn
              exfalso; omega
            | succ n ih =>
              intro u ofc3 sz3 lm3 rm3 lo3 hu hb3 hst3 hn
              have ih_67 := ih
              clear ih
              refine v_iload hC 69 8 dX4_measure_67 rfl rfl ?_
              refine v_aload_n hC 70 0 dX4_measure_69 rfl rfl rfl ?_
              refine v_get hC 73 4 8 (C := RX4) (T := TX4) (N := 9) dX4_measure_70 rfl iX4 L0 rfl rfl (by decide) rfl ?_
              refine v_get hC 76 3 1 (C := RX2) (T := TX2) (N := 4) dX4_measure_73 rfl iX2 L1 rfl rfl (by decide) rfl ?_
              refine v_icmp_ge hC 144 79 dX4_measure_76 (by decide) rfl (by omega) (by omega) (fun c_76 => ?_) (fun c_76 => ?_)
              · skip
                refine v_iinc hC 147 7 [(7, .int (iI (r + 1))), (0, .ref (ap 0)), (1, .ref (ab 0)), (2, .int (iI p)), (3, .int (iI sz3)), (4, .int (iI lm3)), (5, .int (iI rm3)), (6, .int (iI lo3)), (8, .int (iI u))] dX4_measure_144 rfl rfl (by decide) rfl ?_
                refine v_goto hC 46 dX4_measure_147 (by decide) ?_
                exact v_sub [0, 1, 2, 3, 4, 5, 6, 7, 8, 9, 10, 11] [1, 2, 3, 4, 5, 6, 7, 0] _ _ rfl rfl rfl (ih_46 (r + 1) ofc3 sz3 lm3 rm3 lo3 (by omega) (by omega) (by exact MS_to hst3 hc9 (by omega) (by omega) (fun j h1 h2 => inF_no hF ⟨by omega, by omega⟩ (by omega))) (by omega))
              · skip
                refine v_iload hC 81 8 dX4_measure_79 rfl rfl ?_
                refine v_iload hC 83 7 dX4_measure_81 rfl rfl ?_
                refine v_callSNi hC 86 2 [] [0, 1, 2, 3, 4, 5, 6, 7, 8, 9, 10, 11] [oB ab door, aC (cs 1) (ab 1) 96 pil, aC (cs 1) (ab 2) 96 bar, oF (ap 8) fl fr ft fb, oP ap cnt, aC (cs 0) (ap 1) 96 ofc3, aC (cs 0) (ap 2) 96 knd, aC (cs 0) (ap 3) 96 col, aC (cs 0) (ap 4) 96 row, aC (cs 0) (ap 5) 96 siz, aC (cs 0) (ap 6) 96 bw, aC (cs 0) (ap 7) 96 bh] (As := [.int (iI u), .int (iI r)]) (rest := []) (c_X7_isCell lx D cs u r (by omega) (by omega)) dX4_measure_83 rfl rfl gX4_measure_X7_isCell_n98 L9 L10 RX7 (by decide +kernel) rfl rfl rfl (by decide +kernel) ⟨by decide, by decide⟩ rfl rfl rfl rfl (by decide) rfl (Nat.le_of_ble_eq_true rfl) ⟨rfl, rfl⟩ ⟨by decide, by decide⟩ (fun z83 u83 h83 => ?_)
                (try dsimp only at h83)
                obtain ⟨h83_1, h83_2⟩ := h83
                show V p9 lx e9 ({ frames := 3, cells := 0, slots := 0, locals := 67 }) s9 m9 ar9 be9 me9 c9 Q9 D A9 s9.heap 9 0 0 [oB ab door, aC (cs 1) (ab 1) 96 pil, aC (cs 1) (ab 2) 96 bar, oF (ap 8) fl fr ft fb, oP ap cnt, aC (cs 0) (ap 1) 96 ofc3, aC (cs 0) (ap 2) 96 knd, aC (cs 0) (ap 3) 96 col, aC (cs 0) (ap 4) 96 row, aC (cs 0) (ap 5) 96 siz, aC (cs 0) (ap 6) 96 bw, aC (cs 0) (ap 7) 96 bh] [(0, .ref (ap 0)), (1, .ref (ab 0)), (2, .int (iI p)), (3, .int (iI sz3)), (4, .int (iI lm3)), (5, .int (iI rm3)), (6, .int (iI lo3)), (7, .int (iI r)), (8, .int (iI u))] 86 [.int (iI z83)]
                refine v_if_eq hC 138 89 dX4_measure_86 (by decide) rfl (by omega) (fun c_86 => ?_) (fun c_86 => ?_)
                · exfalso; omega
                · skip
                  refine v_aload_n hC 90 1 dX4_measure_89 rfl rfl rfl ?_
                  refine v_iload hC 92 8 dX4_measure_90 rfl rfl ?_
                  refine v_iload hC 94 7 dX4_measure_92 rfl rfl ?_
                  refine v_callVi hC 97 2 [0, 1, 2] [3, 4, 5, 6, 7, 8, 9, 10, 11] [oF (ap 8) fl fr ft fb, oP ap cnt, aC (cs 0) (ap 1) 96 ofc3, aC (cs 0) (ap 2) 96 knd, aC (cs 0) (ap 3) 96 col, aC (cs 0) (ap 4) 96 row, aC (cs 0) (ap 5) 96 siz, aC (cs 0) (ap 6) 96 bw, aC (cs 0) (ap 7) 96 bh] (As := [.int (iI u), .int (iI r)]) (rest := []) (c_X0_areAt lx D cs ab door pil bar u r (by omega) (by omega) (by assumption)) dX4_measure_94 rfl rfl 0 rfl rfl gX4_measure_X0_areAt rfl rfl rfl (by decide +kernel) ⟨by decide, by decide⟩ rfl rfl rfl rfl (by decide) rfl (Nat.le_of_ble_eq_true rfl) ⟨rfl, rfl⟩ ⟨by decide, by decide⟩ (fun z94 u94 h94 => ?_)
                  (try dsimp only at h94)
                  obtain ⟨h94_1, h94_2⟩ := h94
                  show V p9 lx e9 ({ frames := 3, cells := 0, slots := 0, locals := 67 }) s9 m9 ar9 be9 me9 c9 Q9 D A9 s9.heap 9 0 0 [oF (ap 8) fl fr ft fb, oP ap cnt, aC (cs 0) (ap 1) 96 ofc3, aC (cs 0) (ap 2) 96 knd, aC (cs 0) (ap 3) 96 col, aC (cs 0) (ap 4) 96 row, aC (cs 0) (ap 5) 96 siz, aC (cs 0) (ap 6) 96 bw, aC (cs 0) (ap 7) 96 bh, oB ab door, aC (cs 1) (ab 1) 96 pil, aC (cs 1) (ab 2) 96 bar] [(0, .ref (ap 0)), (1, .ref (ab 0)), (2, .int (iI p)), (3, .int (iI sz3)), (4, .int (iI lm3)), (5, .int (iI rm3)), (6, .int (iI lo3)), (7, .int (iI r)), (8, .int (iI u))] 97 [.int (iI z94)]
                  refine v_if_ne hC 138 100 dX4_measure_97 (by decide) rfl (by omega) (fun c_97 => ?_) (fun c_97 => ?_)
                  · skip
                    refine v_iinc hC 141 8 [(8, .int (iI (u + 1))), (0, .ref (ap 0)), (1, .ref (ab 0)), (2, .int (iI p)), (3, .int (iI sz3)), (4, .int (iI lm3)), (5, .int (iI rm3)), (6, .int (iI lo3)), (7, .int (iI r))] dX4_measure_138 rfl rfl (by decide) rfl ?_
                    refine v_goto hC 67 dX4_measure_141 (by decide) ?_
                    exact v_sub [9, 10, 11, 0, 1, 2, 3, 4, 5, 6, 7, 8] [1, 2, 3, 4, 5, 6, 7, 8, 0] _ _ rfl rfl rfl (ih_67 (u + 1) ofc3 sz3 lm3 rm3 lo3 (by omega) (by omega) (by first | (rw [show r * 12 + (u + 1) = r * 12 + u + 1 by omega]; exact MS_no hst3 (by omega) hc9 (inF_no hF ⟨by omega, by omega⟩ (by omega))) | exact MS_yes hst3 hlow (by omega) ⟨by omega, by omega⟩ ⟨by omega, by omega⟩ (inF_yes hF ⟨by omega, by omega⟩ ⟨by omega, by omega⟩ ⟨Decidable.byContradiction fun q => absurd (hc1 (r * 12 + u) (by omega) (by omega) ⟨by omega, by omega⟩ (by omega)) (by omega), by omega, ⟨by omega, by omega⟩, by omega, by omega⟩)) (by omega))
                  · skip
                    refine v_aload_n hC 101 0 dX4_measure_100 rfl rfl rfl ?_
                    refine v_get hC 104 1 1 (C := RX4) (T := TX4) (N := 9) dX4_measure_101 rfl iX4 L11 rfl rfl (by decide) rfl ?_
                    refine v_iload hC 106 8 dX4_measure_104 rfl rfl ?_
                    refine v_iload hC 108 7 dX4_measure_106 rfl rfl ?_
                    refine v_callSNi hC 111 2 [] [0, 1, 2, 3, 4, 5, 6, 7, 8, 9, 10, 11] [oF (ap 8) fl fr ft fb, oP ap cnt, aC (cs 0) (ap 1) 96 ofc3, aC (cs 0) (ap 2) 96 knd, aC (cs 0) (ap 3) 96 col, aC (cs 0) (ap 4) 96 row, aC (cs 0) (ap 5) 96 siz, aC (cs 0) (ap 6) 96 bw, aC (cs 0) (ap 7) 96 bh, oB ab door, aC (cs 1) (ab 1) 96 pil, aC (cs 1) (ab 2) 96 bar] (As := [.int (iI u), .int (iI r)]) (rest := [.ref (ap 1)]) (c_X7_cellAt lx D cs u r ) dX4_measure_108 rfl rfl gX4_measure_X7_cellAt_n50 L12 L13 RX7 (by decide +kernel) rfl rfl rfl (by decide +kernel) ⟨by decide, by decide⟩ rfl rfl rfl rfl (by decide) rfl (Nat.le_of_ble_eq_true rfl) ⟨rfl, rfl⟩ ⟨by decide, by decide⟩ (fun z108 u108 h108 => ?_)
                    (try dsimp only at h108)
                    subst h108
                    show V p9 lx e9 ({ frames := 3, cells := 0, slots := 0, locals := 67 }) s9 m9 ar9 be9 me9 c9 Q9 D A9 s9.heap 9 0 0 [oF (ap 8) fl fr ft fb, oP ap cnt, aC (cs 0) (ap 1) 96 ofc3, aC (cs 0) (ap 2) 96 knd, aC (cs 0) (ap 3) 96 col, aC (cs 0) (ap 4) 96 row, aC (cs 0) (ap 5) 96 siz, aC (cs 0) (ap 6) 96 bw, aC (cs 0) (ap 7) 96 bh, oB ab door, aC (cs 1) (ab 1) 96 pil, aC (cs 1) (ab 2) 96 bar] [(0, .ref (ap 0)), (1, .ref (ab 0)), (2, .int (iI p)), (3, .int (iI sz3)), (4, .int (iI lm3)), (5, .int (iI rm3)), (6, .int (iI lo3)), (7, .int (iI r)), (8, .int (iI u))] 111 [.int (iI (r * 12 + u)), .ref (ap 1)]
                    refine v_iload_n hC 112 2 dX4_measure_111 rfl rfl rfl ?_
                    refine v_iast hC 113 2 [oF (ap 8) fl fr ft fb, oP ap cnt, aC (cs 0) (ap 1) 96 (uI ofc3 (r * 12 + u) p), aC (cs 0) (ap 2) 96 knd, aC (cs 0) (ap 3) 96 col, aC (cs 0) (ap 4) 96 row, aC (cs 0) (ap 5) 96 siz, aC (cs 0) (ap 6) 96 bw, aC (cs 0) (ap 7) 96 bh, oB ab door, aC (cs 1) (ab 1) 96 pil, aC (cs 1) (ab 2) 96 bar] dX4_measure_112 rfl rfl (by decide) (by omega) rfl ?_
                    refine v_iinc hC 116 3 [(3, .int (iI (sz3 + 1))), (0, .ref (ap 0)), (1, .ref (ab 0)), (2, .int (iI p)), (4, .int (iI lm3)), (5, .int (iI rm3)), (6, .int (iI lo3)), (7, .int (iI r)), (8, .int (iI u))] dX4_measure_113 rfl rfl (by decide) rfl ?_
                    refine v_iload hC 118 4 dX4_measure_116 rfl rfl ?_
                    refine v_iload hC 120 8 dX4_measure_118 rfl rfl ?_
                    refine v_mmin hC 123 dX4_measure_120 rfl L14 L15 L16 L17 ⟨by decide, Nat.le_of_ble_eq_true rfl, by decide, by decide⟩ (by omega) (by omega) ?_
                    refine v_istore hC 125 [(4, .int (iI (min lm3 u))), (3, .int (iI (sz3 + 1))), (0, .ref (ap 0)), (1, .ref (ab 0)), (2, .int (iI p)), (5, .int (iI rm3)), (6, .int (iI lo3)), (7, .int (iI r)), (8, .int (iI u))] dX4_measure_123 rfl (by decide) rfl ?_
                    refine v_iload hC 127 5 dX4_measure_125 rfl rfl ?_
                    refine v_iload hC 129 8 dX4_measure_127 rfl rfl ?_
                    refine v_mmax hC 132 dX4_measure_129 rfl L18 L19 L16 L20 ⟨by decide, Nat.le_of_ble_eq_true rfl, by decide, by decide⟩ (by omega) (by omega) ?_
                    refine v_istore hC 134 [(5, .int (iI (max rm3 u))), (4, .int (iI (min lm3 u))), (3, .int (iI (sz3 + 1))), (0, .ref (ap 0)), (1, .ref (ab 0)), (2, .int (iI p)), (6, .int (iI lo3)), (7, .int (iI r)), (8, .int (iI u))] dX4_measure_132 rfl (by decide) rfl ?_
                    refine v_iload hC 136 7 dX4_measure_134 rfl rfl ?_
                    refine v_istore hC 138 [(6, .int (iI r)), (5, .int (iI (max rm3 u))), (4, .int (iI (min lm3 u))), (3, .int (iI (sz3 + 1))), (0, .ref (ap 0)), (1, .ref (ab 0)), (2, .int (iI p)), (7, .int (iI r)), (8, .int (iI u))] dX4_measure_136 rfl (by decide) rfl ?_
                    refine v_iinc hC 141 8 [(8, .int (iI (u + 1))), (6, .int (iI r)), (5, .int (iI (max rm3 u))), (4, .int (iI (min lm3 u))), (3, .int (iI (sz3 + 1))), (0, .ref (ap 0)), (1, .ref (ab 0)), (2, .int (iI p)), (7, .int (iI r))] dX4_measure_138 rfl rfl (by decide) rfl ?_
                    refine v_goto hC 67 dX4_measure_141 (by decide) ?_
                    exact v_sub [9, 10, 11, 0, 1, 2, 3, 4, 5, 6, 7, 8] [5, 6, 7, 4, 3, 2, 1, 8, 0] _ _ rfl rfl rfl (ih_67 (u + 1) (uI ofc3 (r * 12 + u) p) (sz3 + 1) (min lm3 u) (max rm3 u) r (by omega) (by omega) (by first | (rw [show r * 12 + (u + 1) = r * 12 + u + 1 by omega]; exact MS_no hst3 (by omega) hc9 (inF_no hF ⟨by omega, by omega⟩ (by omega))) | exact MS_yes hst3 hlow (by omega) ⟨by omega, by omega⟩ ⟨by omega, by omega⟩ (inF_yes hF ⟨by omega, by omega⟩ ⟨by omega, by omega⟩ ⟨Decidable.byContradiction fun q => absurd (hc1 (r * 12 + u) (by omega) (by omega) ⟨by omega, by omega⟩ (by omega)) (by omega), by omega, ⟨by omega, by omega⟩, by omega, by omega⟩)) (by omega))
          exact v_sub [0, 1, 2, 3, 4, 5, 6, 7, 8, 9, 10, 11] [1, 2, 3, 4, 5, 6, 7, 8, 0] _ _ rfl rfl rfl (cut_67 (Int.toNat (fr - fl) + 1) fl ofc2 sz2 lm2 rm2 lo2 (by omega) (by omega) (by exact MS_to hst hc9 (by omega) (by omega) (fun j h1 h2 => inF_no hF ⟨by omega, by omega⟩ (by omega))) (by omega))
    exact v_sub [0, 1, 2, 3, 4, 5, 6, 7, 8, 9, 10, 11] [5, 6, 7, 4, 3, 2, 1, 0] _ _ rfl rfl rfl (cut_46 (Int.toNat (fb - (row p)) + 1) (row p) ofc 0 fr fl ft (by omega) (by omega) (by rw [hrow]; exact MS_0 hlow ⟨by omega, by omega⟩) (by omega))
  · exfalso; omega

set_option maxHeartbeats 4000000 in
set_option maxRecDepth 100000 in
theorem c_X4_add (lx : Launch) (D : va_G) (cs : Nat → ClassId) (ap : Nat → Nat) (al : Nat) (ab : Nat → Nat) (cnt : Int) (ofc : Int → Int) (knd : Int → Int) (col : Int → Int) (row : Int → Int) (siz : Int → Int) (bw : Int → Int) (bh : Int → Int) (wide : Int) (high : Int) (border : Int) (pattern : Int) (door : Int) (pil : Int → Int) (bar : Int → Int) (fl : Int) (fr : Int) (ft : Int) (fb : Int) (x : Int) (y : Int) (hw : 1 ≤ wide ∧ wide ≤ 4) (hh : 1 ≤ high ∧ high ≤ 4) (hb : 0 ≤ border ∧ border ≤ 2) (hp : 0 ≤ pattern ∧ pattern ≤ 1) (hx : 0 ≤ x ∧ x < 12) (hy : 0 ≤ y ∧ y < 8) (hcnt : 0 ≤ cnt ∧ cnt < 96) (hbar : Rn bar 0 1) (hc0 : bar (y * 12 + x) ≠ 1) (hc1 : ∀ d : Int, 0 ≤ d → d < y * 12 + x → sm wide high border pattern (y * 12 + x) d → bar d = 1) : Cv lx D cs yX4_add wsX4_add ({ frames := 4, cells := 0, slots := 0, locals := 95 }) [.ref (ap 0), .ref al, .ref (ab 0), .int (iI x), .int (iI y)] [oP ap cnt, aC (cs 0) (ap 1) 96 ofc, aC (cs 0) (ap 2) 96 knd, aC (cs 0) (ap 3) 96 col, aC (cs 0) (ap 4) 96 row, aC (cs 0) (ap 5) 96 siz, aC (cs 0) (ap 6) 96 bw, aC (cs 0) (ap 7) 96 bh, oL al wide high border pattern, oB ab door, aC (cs 1) (ab 1) 96 pil, aC (cs 1) (ab 2) 96 bar, oF (ap 8) fl fr ft fb] (fun (u : Int × Int × Int × Int × (Int → Int)) => (u.2.2.2.2 = uI knd cnt (kdN wide high border pattern bar (y * 12 + x)))) (fun u : Int × Int × Int × Int × (Int → Int) => [oP ap (cnt + 1), aC (cs 0) (ap 1) 96 (qA (sl wide high border pattern bar (y * 12 + x)) ofc cnt 96), aC (cs 0) (ap 2) 96 u.2.2.2.2, aC (cs 0) (ap 3) 96 (uI col cnt x), aC (cs 0) (ap 4) 96 (uI row cnt y), aC (cs 0) (ap 5) 96 (uI siz cnt (qC (sl wide high border pattern bar (y * 12 + x)) 96)), aC (cs 0) (ap 6) 96 (uI bw cnt (qR (sl wide high border pattern bar (y * 12 + x)) 96 - qL (sl wide high border pattern bar (y * 12 + x)) 96 + 1)), aC (cs 0) (ap 7) 96 (uI bh cnt (qB (sl wide high border pattern bar (y * 12 + x)) 96 - y + 1)), oL al wide high border pattern, oB ab door, aC (cs 1) (ab 1) 96 pil, aC (cs 1) (ab 2) 96 bar, oF (ap 8) u.1 u.2.1 u.2.2.1 u.2.2.2.1]) 0 0 := by
  refine Cv_of (cc := cX4_add) (nL := 6) (ret := none) (lv0 := [(0, .ref (ap 0)), (1, .ref al), (2, .ref (ab 0)), (3, .int (iI x)), (4, .int (iI y))]) RX4 "add" (by decide +kernel) rfl (Nat.le_of_ble_eq_true rfl) rfl (fun p9 e9 s9 m9 ar9 be9 me9 c9 A9 Q9 hQ hC => ?_)
  have iX4 : ∀ w ∈ wsX40, w ∈ wsX4_add := by decide +kernel
  have iX3 : ∀ w ∈ wsX30, w ∈ wsX4_add := by decide +kernel
  have L0 : Cond.fieldLink RX4 9 "Groutline$Pieces" "count" "I" ∈ wsX4_add := by decide +kernel
  have L1 : Cond.fieldLink RX4 22 "Groutline$Pieces" "columns" "[I" ∈ wsX4_add := by decide +kernel
  have L2 : Cond.fieldLink RX4 25 "Groutline$Pieces" "rows" "[I" ∈ wsX4_add := by decide +kernel
  have L3 : Cond.fieldLink RX4 40 "Groutline$Pieces" "frame" "LGroutline$Frame;" ∈ wsX4_add := by decide +kernel
  have L4 : Cond.fieldLink RX4 19 "Groutline$Pieces" "kinds" "[I" ∈ wsX4_add := by decide +kernel
  have L5 : Cond.fieldLink RX4 28 "Groutline$Pieces" "sizes" "[I" ∈ wsX4_add := by decide +kernel
  have L6 : Cond.fieldLink RX4 80 "Groutline$Layout" "wide" "I" ∈ wsX4_add := by decide +kernel
  have L7 : Cond.fieldLink RX4 83 "Groutline$Layout" "high" "I" ∈ wsX4_add := by decide +kernel
  refine v_aload_n hC 1 0 dX4_add_0 rfl rfl rfl ?_
  refine v_dup hC 2 dX4_add_1 rfl rfl ?_
  refine v_get hC 5 0 0 (C := RX4) (T := TX4) (N := 9) dX4_add_2 rfl iX4 L0 rfl rfl (by decide) rfl ?_
  refine v_dup_x1 hC 6 dX4_add_5 rfl rfl rfl ?_
  refine v_iconst hC 7 dX4_add_6 rfl ?_
  refine v_iadd hC 8 (cnt + 1) dX4_add_7 rfl rfl ?_
  refine v_put hC 11 0 0 [oP ap (cnt + 1), aC (cs 0) (ap 1) 96 ofc, aC (cs 0) (ap 2) 96 knd, aC (cs 0) (ap 3) 96 col, aC (cs 0) (ap 4) 96 row, aC (cs 0) (ap 5) 96 siz, aC (cs 0) (ap 6) 96 bw, aC (cs 0) (ap 7) 96 bh, oL al wide high border pattern, oB ab door, aC (cs 1) (ab 1) 96 pil, aC (cs 1) (ab 2) 96 bar, oF (ap 8) fl fr ft fb] (C := RX4) (T := TX4) (N := 9) dX4_add_8 rfl iX4 tyX4_ok nmX4 L0 rfl rfl (by decide) rfl rfl rfl (Nat.le_of_ble_eq_true rfl) rfl ?_
  refine v_istore hC 13 [(5, .int (iI cnt)), (0, .ref (ap 0)), (1, .ref al), (2, .ref (ab 0)), (3, .int (iI x)), (4, .int (iI y))] dX4_add_11 rfl (by decide) rfl ?_
  refine v_aload_n hC 14 1 dX4_add_13 rfl rfl rfl ?_
  refine v_iload hC 16 0 dX4_add_14 rfl rfl ?_
  refine v_callVi hC 19 1 [0, 1, 2, 3, 4, 5, 6, 7] [8, 9, 10, 11, 12] [oL al wide high border pattern, oB ab door, aC (cs 1) (ab 1) 96 pil, aC (cs 1) (ab 2) 96 bar, oF (ap 8) fl fr ft fb] (As := [.int (iI cnt)]) (rest := []) (c_X4_has lx D cs ap (cnt + 1) ofc knd col row siz bw bh cnt (by omega) (by omega)) dX4_add_16 rfl rfl 0 rfl rfl gX4_add_X4_has rfl rfl rfl (by decide +kernel) ⟨by decide, by decide⟩ rfl rfl rfl rfl (by decide) rfl (Nat.le_of_ble_eq_true rfl) ⟨rfl, rfl⟩ ⟨by decide, by decide⟩ (fun z16 u16 h16 => ?_)
  (try dsimp only at h16)
  obtain ⟨h16_1, h16_2⟩ := h16
  show V p9 lx e9 ({ frames := 4, cells := 0, slots := 0, locals := 95 }) s9 m9 ar9 be9 me9 c9 Q9 D A9 s9.heap 6 0 0 [oL al wide high border pattern, oB ab door, aC (cs 1) (ab 1) 96 pil, aC (cs 1) (ab 2) 96 bar, oF (ap 8) fl fr ft fb, oP ap (cnt + 1), aC (cs 0) (ap 1) 96 ofc, aC (cs 0) (ap 2) 96 knd, aC (cs 0) (ap 3) 96 col, aC (cs 0) (ap 4) 96 row, aC (cs 0) (ap 5) 96 siz, aC (cs 0) (ap 6) 96 bw, aC (cs 0) (ap 7) 96 bh] [(5, .int (iI cnt)), (0, .ref (ap 0)), (1, .ref al), (2, .ref (ab 0)), (3, .int (iI x)), (4, .int (iI y))] 19 [.int (iI z16)]
  refine v_if_ne hC 23 22 dX4_add_19 (by decide) rfl (by omega) (fun c_19 => ?_) (fun c_19 => ?_)
  · skip
    refine v_aload_n hC 24 1 dX4_add_23 rfl rfl rfl ?_
    refine v_get hC 27 5 3 (C := RX4) (T := TX4) (N := 9) dX4_add_24 rfl iX4 L1 rfl rfl (by decide) rfl ?_
    refine v_iload hC 29 0 dX4_add_27 rfl rfl ?_
    refine v_iload_n hC 30 4 dX4_add_29 rfl rfl rfl ?_
    refine v_iast hC 31 8 [oL al wide high border pattern, oB ab door, aC (cs 1) (ab 1) 96 pil, aC (cs 1) (ab 2) 96 bar, oF (ap 8) fl fr ft fb, oP ap (cnt + 1), aC (cs 0) (ap 1) 96 ofc, aC (cs 0) (ap 2) 96 knd, aC (cs 0) (ap 3) 96 (uI col cnt x), aC (cs 0) (ap 4) 96 row, aC (cs 0) (ap 5) 96 siz, aC (cs 0) (ap 6) 96 bw, aC (cs 0) (ap 7) 96 bh] dX4_add_30 rfl rfl (by decide) (by omega) rfl ?_
    refine v_aload_n hC 32 1 dX4_add_31 rfl rfl rfl ?_
    refine v_get hC 35 5 4 (C := RX4) (T := TX4) (N := 9) dX4_add_32 rfl iX4 L2 rfl rfl (by decide) rfl ?_
    refine v_iload hC 37 0 dX4_add_35 rfl rfl ?_
    refine v_iload hC 39 5 dX4_add_37 rfl rfl ?_
    refine v_iast hC 40 9 [oL al wide high border pattern, oB ab door, aC (cs 1) (ab 1) 96 pil, aC (cs 1) (ab 2) 96 bar, oF (ap 8) fl fr ft fb, oP ap (cnt + 1), aC (cs 0) (ap 1) 96 ofc, aC (cs 0) (ap 2) 96 knd, aC (cs 0) (ap 3) 96 (uI col cnt x), aC (cs 0) (ap 4) 96 (uI row cnt y), aC (cs 0) (ap 5) 96 siz, aC (cs 0) (ap 6) 96 bw, aC (cs 0) (ap 7) 96 bh] dX4_add_39 rfl rfl (by decide) (by omega) rfl ?_
    refine v_aload_n hC 41 2 dX4_add_40 rfl rfl rfl ?_
    refine v_iload_n hC 42 4 dX4_add_41 rfl rfl rfl ?_
    refine v_iload hC 44 5 dX4_add_42 rfl rfl ?_
    refine v_aload_n hC 45 1 dX4_add_44 rfl rfl rfl ?_
    refine v_get hC 48 5 8 (C := RX4) (T := TX4) (N := 9) dX4_add_45 rfl iX4 L3 rfl rfl (by decide) rfl ?_
    refine v_callVv hC 51 3 [0, 4] [1, 2, 3, 5, 6, 7, 8, 9, 10, 11, 12] [oB ab door, aC (cs 1) (ab 1) 96 pil, aC (cs 1) (ab 2) 96 bar, oP ap (cnt + 1), aC (cs 0) (ap 1) 96 ofc, aC (cs 0) (ap 2) 96 knd, aC (cs 0) (ap 3) 96 (uI col cnt x), aC (cs 0) (ap 4) 96 (uI row cnt y), aC (cs 0) (ap 5) 96 siz, aC (cs 0) (ap 6) 96 bw, aC (cs 0) (ap 7) 96 bh] (As := [.int (iI x), .int (iI y), .ref (ap 8)]) (rest := []) (c_X3_frame lx D cs al (ap 8) wide high border pattern fl fr ft fb x y (by omega) (by omega) (by omega) (by omega) (by omega) (by omega)) dX4_add_48 rfl rfl 0 rfl rfl gX4_add_X3_frame rfl rfl rfl (by decide +kernel) ⟨by decide, by decide⟩ rfl rfl rfl rfl (by decide) rfl (Nat.le_of_ble_eq_true rfl) ⟨rfl, rfl⟩ ⟨by decide, by decide⟩ (fun u48 h48 => ?_)
    obtain ⟨fl1_48, fr1_48, ft1_48, fb1_48⟩ := u48
    (try dsimp only at h48)
    obtain ⟨h48_1, h48_2, h48_3, h48_4⟩ := h48
    have hf9 := frame_rng (pattern := pattern) hw hh hb hx hy
    have hF9 := inF_of (pattern := pattern) (bar := bar) hw hh hb hx hy
    rw [← h48_1, ← h48_2, ← h48_3, ← h48_4] at hf9 hF9
    show V p9 lx e9 ({ frames := 4, cells := 0, slots := 0, locals := 95 }) s9 m9 ar9 be9 me9 c9 Q9 D A9 s9.heap 6 0 0 [oB ab door, aC (cs 1) (ab 1) 96 pil, aC (cs 1) (ab 2) 96 bar, oP ap (cnt + 1), aC (cs 0) (ap 1) 96 ofc, aC (cs 0) (ap 2) 96 knd, aC (cs 0) (ap 3) 96 (uI col cnt x), aC (cs 0) (ap 4) 96 (uI row cnt y), aC (cs 0) (ap 5) 96 siz, aC (cs 0) (ap 6) 96 bw, aC (cs 0) (ap 7) 96 bh, oL al wide high border pattern, oF (ap 8) fl1_48 fr1_48 ft1_48 fb1_48] [(5, .int (iI cnt)), (0, .ref (ap 0)), (1, .ref al), (2, .ref (ab 0)), (3, .int (iI x)), (4, .int (iI y))] 51 []
    refine v_aload_n hC 52 1 dX4_add_51 rfl rfl rfl ?_
    refine v_aload_n hC 53 3 dX4_add_52 rfl rfl rfl ?_
    refine v_iload hC 55 0 dX4_add_53 rfl rfl ?_
    refine v_callVv hC 58 2 [3, 4, 5, 6, 7, 8, 9, 10, 0, 1, 2, 12] [11] [oL al wide high border pattern] (As := [.ref (ab 0), .int (iI cnt)]) (rest := []) (c_X4_measure lx D cs ap ab (cnt + 1) ofc knd (uI col cnt x) (uI row cnt y) siz bw bh door pil bar fl1_48 fr1_48 ft1_48 fb1_48 cnt x y (sl wide high border pattern bar (y * 12 + x)) (by omega) (by omega) (by exact uI_eq _ _ _) (by assumption) (by exact hF9) (by assumption) (by intro d h1 h2 h3 h4; rw [h48_1, h48_2] at h3; rw [h48_3] at h4; have q9 := (frame_sm (pattern := pattern) hw hh hb hx hy (u := d % 12) (r := d / 12) ⟨by omega, by omega⟩ ⟨by omega, by omega⟩).mpr ⟨h3, h4, by omega⟩; rw [show d / 12 * 12 + d % 12 = d by omega] at q9; exact hc1 d h1 h2 q9)) dX4_add_55 rfl rfl 3 rfl rfl gX4_add_X4_measure rfl rfl rfl (by decide +kernel) ⟨by decide, by decide⟩ rfl rfl rfl rfl (by decide) rfl (Nat.le_of_ble_eq_true rfl) ⟨rfl, rfl⟩ ⟨by decide, by decide⟩ (fun u55 h55 => ?_)
    (try dsimp only at h55)
    show V p9 lx e9 ({ frames := 4, cells := 0, slots := 0, locals := 95 }) s9 m9 ar9 be9 me9 c9 Q9 D A9 s9.heap 6 0 0 [oL al wide high border pattern, oP ap (cnt + 1), aC (cs 0) (ap 1) 96 (qA (sl wide high border pattern bar (y * 12 + x)) ofc cnt 96), aC (cs 0) (ap 2) 96 knd, aC (cs 0) (ap 3) 96 (uI col cnt x), aC (cs 0) (ap 4) 96 (uI row cnt y), aC (cs 0) (ap 5) 96 (uI siz cnt (qC (sl wide high border pattern bar (y * 12 + x)) 96)), aC (cs 0) (ap 6) 96 (uI bw cnt (qR (sl wide high border pattern bar (y * 12 + x)) 96 - qL (sl wide high border pattern bar (y * 12 + x)) 96 + 1)), aC (cs 0) (ap 7) 96 (uI bh cnt (qB (sl wide high border pattern bar (y * 12 + x)) 96 - y + 1)), oB ab door, aC (cs 1) (ab 1) 96 pil, aC (cs 1) (ab 2) 96 bar, oF (ap 8) fl1_48 fr1_48 ft1_48 fb1_48] [(5, .int (iI cnt)), (0, .ref (ap 0)), (1, .ref al), (2, .ref (ab 0)), (3, .int (iI x)), (4, .int (iI y))] 58 []
    refine v_aload_n hC 59 2 dX4_add_58 rfl rfl rfl ?_
    refine v_iload_n hC 60 4 dX4_add_59 rfl rfl rfl ?_
    refine v_iload hC 62 5 dX4_add_60 rfl rfl ?_
    refine v_callVi hC 65 2 [0] [1, 2, 3, 4, 5, 6, 7, 8, 9, 10, 11, 12] [oP ap (cnt + 1), aC (cs 0) (ap 1) 96 (qA (sl wide high border pattern bar (y * 12 + x)) ofc cnt 96), aC (cs 0) (ap 2) 96 knd, aC (cs 0) (ap 3) 96 (uI col cnt x), aC (cs 0) (ap 4) 96 (uI row cnt y), aC (cs 0) (ap 5) 96 (uI siz cnt (qC (sl wide high border pattern bar (y * 12 + x)) 96)), aC (cs 0) (ap 6) 96 (uI bw cnt (qR (sl wide high border pattern bar (y * 12 + x)) 96 - qL (sl wide high border pattern bar (y * 12 + x)) 96 + 1)), aC (cs 0) (ap 7) 96 (uI bh cnt (qB (sl wide high border pattern bar (y * 12 + x)) 96 - y + 1)), oB ab door, aC (cs 1) (ab 1) 96 pil, aC (cs 1) (ab 2) 96 bar, oF (ap 8) fl1_48 fr1_48 ft1_48 fb1_48] (As := [.int (iI x), .int (iI y)]) (rest := []) (c_X3_isBorder lx D cs al wide high border pattern x y (by omega) (by omega) (by omega)) dX4_add_62 rfl rfl 0 rfl rfl gX4_add_X3_isBorder rfl rfl rfl (by decide +kernel) ⟨by decide, by decide⟩ rfl rfl rfl rfl (by decide) rfl (Nat.le_of_ble_eq_true rfl) ⟨rfl, rfl⟩ ⟨by decide, by decide⟩ (fun z62 u62 h62 => ?_)
    (try dsimp only at h62)
    obtain ⟨h62_1, h62_2⟩ := h62
    show V p9 lx e9 ({ frames := 4, cells := 0, slots := 0, locals := 95 }) s9 m9 ar9 be9 me9 c9 Q9 D A9 s9.heap 6 0 0 [oP ap (cnt + 1), aC (cs 0) (ap 1) 96 (qA (sl wide high border pattern bar (y * 12 + x)) ofc cnt 96), aC (cs 0) (ap 2) 96 knd, aC (cs 0) (ap 3) 96 (uI col cnt x), aC (cs 0) (ap 4) 96 (uI row cnt y), aC (cs 0) (ap 5) 96 (uI siz cnt (qC (sl wide high border pattern bar (y * 12 + x)) 96)), aC (cs 0) (ap 6) 96 (uI bw cnt (qR (sl wide high border pattern bar (y * 12 + x)) 96 - qL (sl wide high border pattern bar (y * 12 + x)) 96 + 1)), aC (cs 0) (ap 7) 96 (uI bh cnt (qB (sl wide high border pattern bar (y * 12 + x)) 96 - y + 1)), oB ab door, aC (cs 1) (ab 1) 96 pil, aC (cs 1) (ab 2) 96 bar, oF (ap 8) fl1_48 fr1_48 ft1_48 fb1_48, oL al wide high border pattern] [(5, .int (iI cnt)), (0, .ref (ap 0)), (1, .ref al), (2, .ref (ab 0)), (3, .int (iI x)), (4, .int (iI y))] 65 [.int (iI z62)]
    refine v_if_eq hC 79 68 dX4_add_65 (by decide) rfl (by omega) (fun c_65 => ?_) (fun c_65 => ?_)
    · skip
      refine v_aload_n hC 80 1 dX4_add_79 rfl rfl rfl ?_
      refine v_get hC 83 0 2 (C := RX4) (T := TX4) (N := 9) dX4_add_80 rfl iX4 L4 rfl rfl (by decide) rfl ?_
      refine v_iload hC 85 0 dX4_add_83 rfl rfl ?_
      refine v_aload_n hC 86 1 dX4_add_85 rfl rfl rfl ?_
      refine v_get hC 89 0 5 (C := RX4) (T := TX4) (N := 9) dX4_add_86 rfl iX4 L5 rfl rfl (by decide) rfl ?_
      refine v_iload hC 91 0 dX4_add_89 rfl rfl ?_
      refine v_iald hC 92 5 dX4_add_91 rfl rfl (by decide) (by omega) ?_
      refine v_aload_n hC 93 2 dX4_add_92 rfl rfl rfl ?_
      refine v_get hC 96 12 0 (C := RX3) (T := TX3) (N := 4) dX4_add_93 rfl iX3 L6 rfl rfl (by decide) rfl ?_
      refine v_aload_n hC 97 2 dX4_add_96 rfl rfl rfl ?_
      refine v_get hC 100 12 1 (C := RX3) (T := TX3) (N := 4) dX4_add_97 rfl iX3 L7 rfl rfl (by decide) rfl ?_
      refine v_imul hC 101 (wide * high) dX4_add_100 rfl rfl ?_
      rw [uI_eq]
      have hq9 := (q_rng (sl wide high border pattern bar (y * 12 + x)) 96 (by decide)).1
      have hm9 := mul04 (a := wide) (b := high) (by omega) (by omega)
      refine v_icmp_ne hC 108 104 dX4_add_101 (by decide) rfl (by omega) (by omega) (fun c_101 => ?_) (fun c_101 => ?_)
      · skip
        refine v_iconst hC 109 dX4_add_108 rfl ?_
        refine v_iast hC 110 2 [oP ap (cnt + 1), aC (cs 0) (ap 1) 96 (qA (sl wide high border pattern bar (y * 12 + x)) ofc cnt 96), aC (cs 0) (ap 2) 96 (uI knd cnt 1), aC (cs 0) (ap 3) 96 (uI col cnt x), aC (cs 0) (ap 4) 96 (uI row cnt y), aC (cs 0) (ap 5) 96 (uI siz cnt (qC (sl wide high border pattern bar (y * 12 + x)) 96)), aC (cs 0) (ap 6) 96 (uI bw cnt (qR (sl wide high border pattern bar (y * 12 + x)) 96 - qL (sl wide high border pattern bar (y * 12 + x)) 96 + 1)), aC (cs 0) (ap 7) 96 (uI bh cnt (qB (sl wide high border pattern bar (y * 12 + x)) 96 - y + 1)), oB ab door, aC (cs 1) (ab 1) 96 pil, aC (cs 1) (ab 2) 96 bar, oF (ap 8) fl1_48 fr1_48 ft1_48 fb1_48, oL al wide high border pattern] dX4_add_109 rfl rfl (by decide) (by omega) rfl ?_
        exact v_vret hC hQ (fl1_48, fr1_48, ft1_48, fb1_48, uI knd cnt 1) [0, 1, 2, 3, 4, 5, 6, 7, 12, 8, 9, 10, 11] dX4_add_110 rfl rfl ⟨by decide, by decide⟩ (by (try dsimp only); all_goals (unfold kdN; first | (rw [if_pos (by show _ ∨ _ ∨ _ ∨ _; omega)]; done) | (rw [if_neg (by show ¬ (_ ∨ _ ∨ _ ∨ _); omega), if_pos (by omega)]; done) | (rw [if_neg (by show ¬ (_ ∨ _ ∨ _ ∨ _); omega), if_neg (by omega)]; done)))
      · skip
        refine v_iconst hC 105 dX4_add_104 rfl ?_
        refine v_goto hC 109 dX4_add_105 (by decide) ?_
        refine v_iast hC 110 2 [oP ap (cnt + 1), aC (cs 0) (ap 1) 96 (qA (sl wide high border pattern bar (y * 12 + x)) ofc cnt 96), aC (cs 0) (ap 2) 96 (uI knd cnt 0), aC (cs 0) (ap 3) 96 (uI col cnt x), aC (cs 0) (ap 4) 96 (uI row cnt y), aC (cs 0) (ap 5) 96 (uI siz cnt (qC (sl wide high border pattern bar (y * 12 + x)) 96)), aC (cs 0) (ap 6) 96 (uI bw cnt (qR (sl wide high border pattern bar (y * 12 + x)) 96 - qL (sl wide high border pattern bar (y * 12 + x)) 96 + 1)), aC (cs 0) (ap 7) 96 (uI bh cnt (qB (sl wide high border pattern bar (y * 12 + x)) 96 - y + 1)), oB ab door, aC (cs 1) (ab 1) 96 pil, aC (cs 1) (ab 2) 96 bar, oF (ap 8) fl1_48 fr1_48 ft1_48 fb1_48, oL al wide high border pattern] dX4_add_109 rfl rfl (by decide) (by omega) rfl ?_
        exact v_vret hC hQ (fl1_48, fr1_48, ft1_48, fb1_48, uI knd cnt 0) [0, 1, 2, 3, 4, 5, 6, 7, 12, 8, 9, 10, 11] dX4_add_110 rfl rfl ⟨by decide, by decide⟩ (by (try dsimp only); all_goals (unfold kdN; first | (rw [if_pos (by show _ ∨ _ ∨ _ ∨ _; omega)]; done) | (rw [if_neg (by show ¬ (_ ∨ _ ∨ _ ∨ _); omega), if_pos (by omega)]; done) | (rw [if_neg (by show ¬ (_ ∨ _ ∨ _ ∨ _); omega), if_neg (by omega)]; done)))
    · skip
      refine v_aload_n hC 69 1 dX4_add_68 rfl rfl rfl ?_
      refine v_get hC 72 0 2 (C := RX4) (T := TX4) (N := 9) dX4_add_69 rfl iX4 L4 rfl rfl (by decide) rfl ?_
      refine v_iload hC 74 0 dX4_add_72 rfl rfl ?_
      refine v_iconst hC 75 dX4_add_74 rfl ?_
      refine v_iast hC 76 2 [oP ap (cnt + 1), aC (cs 0) (ap 1) 96 (qA (sl wide high border pattern bar (y * 12 + x)) ofc cnt 96), aC (cs 0) (ap 2) 96 (uI knd cnt 2), aC (cs 0) (ap 3) 96 (uI col cnt x), aC (cs 0) (ap 4) 96 (uI row cnt y), aC (cs 0) (ap 5) 96 (uI siz cnt (qC (sl wide high border pattern bar (y * 12 + x)) 96)), aC (cs 0) (ap 6) 96 (uI bw cnt (qR (sl wide high border pattern bar (y * 12 + x)) 96 - qL (sl wide high border pattern bar (y * 12 + x)) 96 + 1)), aC (cs 0) (ap 7) 96 (uI bh cnt (qB (sl wide high border pattern bar (y * 12 + x)) 96 - y + 1)), oB ab door, aC (cs 1) (ab 1) 96 pil, aC (cs 1) (ab 2) 96 bar, oF (ap 8) fl1_48 fr1_48 ft1_48 fb1_48, oL al wide high border pattern] dX4_add_75 rfl rfl (by decide) (by omega) rfl ?_
      refine v_goto hC 110 dX4_add_76 (by decide) ?_
      exact v_vret hC hQ (fl1_48, fr1_48, ft1_48, fb1_48, uI knd cnt 2) [0, 1, 2, 3, 4, 5, 6, 7, 12, 8, 9, 10, 11] dX4_add_110 rfl rfl ⟨by decide, by decide⟩ (by (try dsimp only); all_goals (unfold kdN; first | (rw [if_pos (by show _ ∨ _ ∨ _ ∨ _; omega)]; done) | (rw [if_neg (by show ¬ (_ ∨ _ ∨ _ ∨ _); omega), if_pos (by omega)]; done) | (rw [if_neg (by show ¬ (_ ∨ _ ∨ _ ∨ _); omega), if_neg (by omega)]; done)))
  · exfalso; omega

set_option maxHeartbeats 4000000 in
set_option maxRecDepth 100000 in
theorem c_X4_find (lx : Launch) (D : va_G) (cs : Nat → ClassId) (ap : Nat → Nat) (al : Nat) (ab : Nat → Nat) (cnt : Int) (ofc : Int → Int) (knd : Int → Int) (col : Int → Int) (row : Int → Int) (siz : Int → Int) (bw : Int → Int) (bh : Int → Int) (wide : Int) (high : Int) (border : Int) (pattern : Int) (door : Int) (pil : Int → Int) (bar : Int → Int) (fl : Int) (fr : Int) (ft : Int) (fb : Int) (hw : 1 ≤ wide ∧ wide ≤ 4) (hh : 1 ≤ high ∧ high ≤ 4) (hb : 0 ≤ border ∧ border ≤ 2) (hp : 0 ≤ pattern ∧ pattern ≤ 1) (hbar : Rn bar 0 1) (hknd : Rn knd 0 2) : Cv lx D cs yX4_find wsX4_find ({ frames := 5, cells := 0, slots := 0, locals := 120 }) [.ref (ap 0), .ref al, .ref (ab 0)] [oP ap cnt, aC (cs 0) (ap 1) 96 ofc, aC (cs 0) (ap 2) 96 knd, aC (cs 0) (ap 3) 96 col, aC (cs 0) (ap 4) 96 row, aC (cs 0) (ap 5) 96 siz, aC (cs 0) (ap 6) 96 bw, aC (cs 0) (ap 7) 96 bh, oL al wide high border pattern, oB ab door, aC (cs 1) (ab 1) 96 pil, aC (cs 1) (ab 2) 96 bar, oF (ap 8) fl fr ft fb] (fun (u : Int × (Int → Int) × (Int → Int) × (Int → Int) × (Int → Int) × (Int → Int) × (Int → Int) × (Int → Int) × Int × Int × Int × Int) => (PFI wide high border pattern bar 96 u.1 u.2.1 u.2.2.1 u.2.2.2.1 u.2.2.2.2.1 u.2.2.2.2.2.1 u.2.2.2.2.2.2.1 u.2.2.2.2.2.2.2.1) ∧ (Rn u.2.2.1 0 2)) (fun u : Int × (Int → Int) × (Int → Int) × (Int → Int) × (Int → Int) × (Int → Int) × (Int → Int) × (Int → Int) × Int × Int × Int × Int => [oP ap u.1, aC (cs 0) (ap 1) 96 u.2.1, aC (cs 0) (ap 2) 96 u.2.2.1, aC (cs 0) (ap 3) 96 u.2.2.2.1, aC (cs 0) (ap 4) 96 u.2.2.2.2.1, aC (cs 0) (ap 5) 96 u.2.2.2.2.2.1, aC (cs 0) (ap 6) 96 u.2.2.2.2.2.2.1, aC (cs 0) (ap 7) 96 u.2.2.2.2.2.2.2.1, oL al wide high border pattern, oB ab door, aC (cs 1) (ab 1) 96 pil, aC (cs 1) (ab 2) 96 bar, oF (ap 8) u.2.2.2.2.2.2.2.2.1 u.2.2.2.2.2.2.2.2.2.1 u.2.2.2.2.2.2.2.2.2.2.1 u.2.2.2.2.2.2.2.2.2.2.2]) 0 0 := by
  refine Cv_of (cc := cX4_find) (nL := 6) (ret := none) (lv0 := [(0, .ref (ap 0)), (1, .ref al), (2, .ref (ab 0))]) RX4 "find" (by decide +kernel) rfl (Nat.le_of_ble_eq_true rfl) rfl (fun p9 e9 s9 m9 ar9 be9 me9 c9 A9 Q9 hQ hC => ?_)
  have iX4 : ∀ w ∈ wsX40, w ∈ wsX4_find := by decide +kernel
  have L0 : Cond.fieldLink RX4 9 "Groutline$Pieces" "count" "I" ∈ wsX4_find := by decide +kernel
  have L1 : Cond.fieldLink RX4 15 "Groutline$Pieces" "ofCells" "[I" ∈ wsX4_find := by decide +kernel
  have L2 : Cond.initialized yX7_cellAt.cls ∈ wsX4_find := by decide +kernel
  have L3 : Cond.static yX7_cellAt ∈ wsX4_find := by decide +kernel
  refine v_aload_n hC 1 0 dX4_find_0 rfl rfl rfl ?_
  refine v_iconst hC 2 dX4_find_1 rfl ?_
  refine v_put hC 5 0 0 [oP ap 0, aC (cs 0) (ap 1) 96 ofc, aC (cs 0) (ap 2) 96 knd, aC (cs 0) (ap 3) 96 col, aC (cs 0) (ap 4) 96 row, aC (cs 0) (ap 5) 96 siz, aC (cs 0) (ap 6) 96 bw, aC (cs 0) (ap 7) 96 bh, oL al wide high border pattern, oB ab door, aC (cs 1) (ab 1) 96 pil, aC (cs 1) (ab 2) 96 bar, oF (ap 8) fl fr ft fb] (C := RX4) (T := TX4) (N := 9) dX4_find_2 rfl iX4 tyX4_ok nmX4 L0 rfl rfl (by decide) rfl rfl rfl (Nat.le_of_ble_eq_true rfl) rfl ?_
  refine v_aload_n hC 6 0 dX4_find_5 rfl rfl rfl ?_
  refine v_get hC 9 0 1 (C := RX4) (T := TX4) (N := 9) dX4_find_6 rfl iX4 L1 rfl rfl (by decide) rfl ?_
  refine v_iconst hC 10 dX4_find_9 rfl ?_
  refine v_callSv hC 13 2 [1] [0, 2, 3, 4, 5, 6, 7, 8, 9, 10, 11, 12] [oP ap 0, aC (cs 0) (ap 2) 96 knd, aC (cs 0) (ap 3) 96 col, aC (cs 0) (ap 4) 96 row, aC (cs 0) (ap 5) 96 siz, aC (cs 0) (ap 6) 96 bw, aC (cs 0) (ap 7) 96 bh, oL al wide high border pattern, oB ab door, aC (cs 1) (ab 1) 96 pil, aC (cs 1) (ab 2) 96 bar, oF (ap 8) fl fr ft fb] (As := [.ref (ap 1), .int (iI (-1))]) (rest := []) (c_J7_fill_53178 lx D cs (ap 1) ofc (-1) ) dX4_find_10 rfl rfl gX4_find_J7_fill_53178 rfl rfl rfl (by decide +kernel) ⟨by decide, by decide⟩ rfl rfl rfl rfl (by decide) rfl (Nat.le_of_ble_eq_true rfl) ⟨rfl, rfl⟩ ⟨by decide, by decide⟩ (fun u10 h10 => ?_)
  obtain ⟨g1_10, rfl⟩ : ∃ y9, y9 = u10 := ⟨_, rfl⟩
  (try dsimp only at h10)
  show V p9 lx e9 ({ frames := 5, cells := 0, slots := 0, locals := 120 }) s9 m9 ar9 be9 me9 c9 Q9 D A9 s9.heap 6 0 0 [oP ap 0, aC (cs 0) (ap 2) 96 knd, aC (cs 0) (ap 3) 96 col, aC (cs 0) (ap 4) 96 row, aC (cs 0) (ap 5) 96 siz, aC (cs 0) (ap 6) 96 bw, aC (cs 0) (ap 7) 96 bh, oL al wide high border pattern, oB ab door, aC (cs 1) (ab 1) 96 pil, aC (cs 1) (ab 2) 96 bar, oF (ap 8) fl fr ft fb, aC (cs 0) (ap 1) 96 g1_10] [(0, .ref (ap 0)), (1, .ref al), (2, .ref (ab 0))] 13 []
  refine v_iconst hC 14 dX4_find_13 rfl ?_
  refine v_istore_n hC 15 [(3, .int (iI 0)), (0, .ref (ap 0)), (1, .ref al), (2, .ref (ab 0))] dX4_find_14 rfl rfl (by decide) rfl ?_
  have cut_15 : ∀ (n : Nat) (r : Int) (cnt2 : Int) (ofc2 : Int → Int) (knd2 : Int → Int) (col2 : Int → Int) (row2 : Int → Int) (siz2 : Int → Int) (bw2 : Int → Int) (bh2 : Int → Int) (fl2 : Int) (fr2 : Int) (ft2 : Int) (fb2 : Int), (0 ≤ r ∧ r ≤ 8) → (PFI wide high border pattern bar (r * 12).toNat cnt2 ofc2 knd2 col2 row2 siz2 bw2 bh2) → (Rn knd2 0 2) → (8 - r < (n : Int)) → V p9 lx e9 ({ frames := 5, cells := 0, slots := 0, locals := 120 }) s9 m9 ar9 be9 me9 c9 Q9 D A9 s9.heap 6 0 0 [oP ap cnt2, aC (cs 0) (ap 2) 96 knd2, aC (cs 0) (ap 3) 96 col2, aC (cs 0) (ap 4) 96 row2, aC (cs 0) (ap 5) 96 siz2, aC (cs 0) (ap 6) 96 bw2, aC (cs 0) (ap 7) 96 bh2, oL al wide high border pattern, oB ab door, aC (cs 1) (ab 1) 96 pil, aC (cs 1) (ab 2) 96 bar, oF (ap 8) fl2 fr2 ft2 fb2, aC (cs 0) (ap 1) 96 ofc2] [(0, .ref (ap 0)), (1, .ref al), (2, .ref (ab 0)), (3, .int (iI r))] 15 [] := by
    intro n
    induction n with
    | zero =>
      intro r cnt2 ofc2 knd2 col2 row2 siz2 bw2 bh2 fl2 fr2 ft2 fb2 hr hP2 hk2 hn
      exfalso; omega
    | succ n ih =>
      intro r cnt2 ofc2 knd2 col2 row2 siz2 bw2 bh2 fl2 fr2 ft2 fb2 hr hP2 hk2 hn
      have ih_15 := ih
      clear ih
      refine v_iload_n hC 16 3 dX4_find_15 rfl rfl rfl ?_
      refine v_bipush hC 18 dX4_find_16 rfl rfl ?_
      refine v_icmp_ge hC 98 21 dX4_find_18 (by decide) rfl (by omega) (by omega) (fun c_18 => ?_) (fun c_18 => ?_)
      · skip
        exact v_vret hC hQ (cnt2, ofc2, knd2, col2, row2, siz2, bw2, bh2, fl2, fr2, ft2, fb2) [0, 12, 1, 2, 3, 4, 5, 6, 7, 8, 9, 10, 11] dX4_find_98 rfl rfl ⟨by decide, by decide⟩ ⟨by (try dsimp only); all_goals (rw [show (r * 12).toNat = 96 by omega] at hP2; exact hP2), by (try dsimp only); all_goals (exact hk2)⟩
      · skip
        refine v_iconst hC 22 dX4_find_21 rfl ?_
        refine v_istore hC 24 [(4, .int (iI 0)), (0, .ref (ap 0)), (1, .ref al), (2, .ref (ab 0)), (3, .int (iI r))] dX4_find_22 rfl (by decide) rfl ?_
        have cut_24 : ∀ (n : Nat) (u : Int) (cnt3 : Int) (ofc3 : Int → Int) (knd3 : Int → Int) (col3 : Int → Int) (row3 : Int → Int) (siz3 : Int → Int) (bw3 : Int → Int) (bh3 : Int → Int) (fl3 : Int) (fr3 : Int) (ft3 : Int) (fb3 : Int), (0 ≤ u ∧ u ≤ 12) → (PFI wide high border pattern bar (r * 12 + u).toNat cnt3 ofc3 knd3 col3 row3 siz3 bw3 bh3) → (Rn knd3 0 2) → (12 - u < (n : Int)) → V p9 lx e9 ({ frames := 5, cells := 0, slots := 0, locals := 120 }) s9 m9 ar9 be9 me9 c9 Q9 D A9 s9.heap 6 0 0 [oP ap cnt3, aC (cs 0) (ap 2) 96 knd3, aC (cs 0) (ap 3) 96 col3, aC (cs 0) (ap 4) 96 row3, aC (cs 0) (ap 5) 96 siz3, aC (cs 0) (ap 6) 96 bw3, aC (cs 0) (ap 7) 96 bh3, oL al wide high border pattern, oB ab door, aC (cs 1) (ab 1) 96 pil, aC (cs 1) (ab 2) 96 bar, oF (ap 8) fl3 fr3 ft3 fb3, aC (cs 0) (ap 1) 96 ofc3] [(0, .ref (ap 0)), (1, .ref al), (2, .ref (ab 0)), (3, .int (iI r)), (4, .int (iI u))] 24 [] := by
          intro n
          induction n with
          | zero =>
            intro u cnt3 ofc3 knd3 col3 row3 siz3 bw3 bh3 fl3 fr3 ft3 fb3 hu hP3 hk3 hn
            exfalso; omega
          | succ n ih =>
            intro u cnt3 ofc3 knd3 col3 row3 siz3 bw3 bh3 fl3 fr3 ft3 fb3 hu hP3 hk3 hn
            have ih_24 := ih
            clear ih
            refine v_iload hC 26 4 dX4_find_24 rfl rfl ?_
            refine v_bipush hC 28 dX4_find_26 rfl rfl ?_
            refine v_icmp_ge hC 92 31 dX4_find_28 (by decide) rfl (by omega) (by omega) (fun c_28 => ?_) (fun c_28 => ?_)
            · skip
              refine v_iinc hC 95 3 [(3, .int (iI (r + 1))), (0, .ref (ap 0)), (1, .ref al), (2, .ref (ab 0)), (4, .int (iI u))] dX4_find_92 rfl rfl (by decide) rfl ?_
              refine v_goto hC 15 dX4_find_95 (by decide) ?_
              exact v_sub [0, 1, 2, 3, 4, 5, 6, 7, 8, 9, 10, 11, 12] [1, 2, 3, 0] _ _ rfl rfl rfl (ih_15 (r + 1) cnt3 ofc3 knd3 col3 row3 siz3 bw3 bh3 fl3 fr3 ft3 fb3 (by omega) (by rw [show (r + 1) * 12 = r * 12 + u by omega]; exact hP3) (by assumption) (by omega))
            · skip
              have hn9 := PFI_nw hP3 (n := r * 12 + u) ⟨by omega, by omega⟩
              refine v_aload_n hC 32 0 dX4_find_31 rfl rfl rfl ?_
              refine v_get hC 35 0 1 (C := RX4) (T := TX4) (N := 9) dX4_find_32 rfl iX4 L1 rfl rfl (by decide) rfl ?_
              refine v_iload hC 37 4 dX4_find_35 rfl rfl ?_
              refine v_iload_n hC 38 3 dX4_find_37 rfl rfl rfl ?_
              refine v_callSNi hC 41 2 [] [0, 1, 2, 3, 4, 5, 6, 7, 8, 9, 10, 11, 12] [oP ap cnt3, aC (cs 0) (ap 2) 96 knd3, aC (cs 0) (ap 3) 96 col3, aC (cs 0) (ap 4) 96 row3, aC (cs 0) (ap 5) 96 siz3, aC (cs 0) (ap 6) 96 bw3, aC (cs 0) (ap 7) 96 bh3, oL al wide high border pattern, oB ab door, aC (cs 1) (ab 1) 96 pil, aC (cs 1) (ab 2) 96 bar, oF (ap 8) fl3 fr3 ft3 fb3, aC (cs 0) (ap 1) 96 ofc3] (As := [.int (iI u), .int (iI r)]) (rest := [.ref (ap 1)]) (c_X7_cellAt lx D cs u r ) dX4_find_38 rfl rfl gX4_find_X7_cellAt_n50 L2 L3 RX7 (by decide +kernel) rfl rfl rfl (by decide +kernel) ⟨by decide, by decide⟩ rfl rfl rfl rfl (by decide) rfl (Nat.le_of_ble_eq_true rfl) ⟨rfl, rfl⟩ ⟨by decide, by decide⟩ (fun z38 u38 h38 => ?_)
              (try dsimp only at h38)
              subst h38
              show V p9 lx e9 ({ frames := 5, cells := 0, slots := 0, locals := 120 }) s9 m9 ar9 be9 me9 c9 Q9 D A9 s9.heap 6 0 0 [oP ap cnt3, aC (cs 0) (ap 2) 96 knd3, aC (cs 0) (ap 3) 96 col3, aC (cs 0) (ap 4) 96 row3, aC (cs 0) (ap 5) 96 siz3, aC (cs 0) (ap 6) 96 bw3, aC (cs 0) (ap 7) 96 bh3, oL al wide high border pattern, oB ab door, aC (cs 1) (ab 1) 96 pil, aC (cs 1) (ab 2) 96 bar, oF (ap 8) fl3 fr3 ft3 fb3, aC (cs 0) (ap 1) 96 ofc3] [(0, .ref (ap 0)), (1, .ref al), (2, .ref (ab 0)), (3, .int (iI r)), (4, .int (iI u))] 41 [.int (iI (r * 12 + u)), .ref (ap 1)]
              refine v_iald hC 42 12 dX4_find_41 rfl rfl (by decide) (by omega) ?_
              refine v_iconst hC 43 dX4_find_42 rfl ?_
              refine v_icmp_ne hC 60 46 dX4_find_43 (by decide) rfl (by omega) (by omega) (fun c_43 => ?_) (fun c_43 => ?_)
              · skip
                refine v_iconst hC 61 dX4_find_60 rfl ?_
                refine v_istore hC 63 [(5, .int (iI 0)), (0, .ref (ap 0)), (1, .ref al), (2, .ref (ab 0)), (3, .int (iI r)), (4, .int (iI u))] dX4_find_61 rfl (by decide) rfl ?_
                refine v_iload hC 65 0 dX4_find_63 rfl rfl ?_
                refine v_if_eq hC 86 68 dX4_find_65 (by decide) rfl (by omega) (fun c_65 => ?_) (fun c_65 => ?_)
                · skip
                  refine v_iinc hC 89 5 [(4, .int (iI (u + 1))), (5, .int (iI 0)), (0, .ref (ap 0)), (1, .ref al), (2, .ref (ab 0)), (3, .int (iI r))] dX4_find_86 rfl rfl (by decide) rfl ?_
                  refine v_goto hC 24 dX4_find_89 (by decide) ?_
                  exact v_sub [0, 1, 2, 3, 4, 5, 6, 7, 8, 9, 10, 11, 12] [2, 3, 4, 5, 0] _ _ rfl rfl rfl (ih_24 (u + 1) cnt3 ofc3 knd3 col3 row3 siz3 bw3 bh3 fl3 fr3 ft3 fb3 (by omega) (by rw [show r * 12 + (u + 1) = r * 12 + u + 1 by omega]; first | exact PFI_oldI (by omega) hP3 (fun q => absurd (hn9.1.mp q) (by omega)) | (rw [h83]; exact PFI_newI (by omega) hP3 (hn9.1.mpr ⟨by omega, by omega⟩) (by omega) (by omega) rfl rfl rfl (by omega))) (by first | assumption | (rw [h83]; exact Rn_uI hk3 (kdN_rng _ _ _ _ _ _))) (by omega))
                · exfalso; exact absurd c_65 (by decide)
              · skip
                refine v_aload_n hC 47 2 dX4_find_46 rfl rfl rfl ?_
                refine v_iload hC 49 4 dX4_find_47 rfl rfl ?_
                refine v_iload_n hC 50 3 dX4_find_49 rfl rfl rfl ?_
                refine v_callVi hC 53 2 [8, 9, 10] [0, 1, 2, 3, 4, 5, 6, 7, 11, 12] [oP ap cnt3, aC (cs 0) (ap 2) 96 knd3, aC (cs 0) (ap 3) 96 col3, aC (cs 0) (ap 4) 96 row3, aC (cs 0) (ap 5) 96 siz3, aC (cs 0) (ap 6) 96 bw3, aC (cs 0) (ap 7) 96 bh3, oL al wide high border pattern, oF (ap 8) fl3 fr3 ft3 fb3, aC (cs 0) (ap 1) 96 ofc3] (As := [.int (iI u), .int (iI r)]) (rest := []) (c_X0_areAt lx D cs ab door pil bar u r (by omega) (by omega) (by assumption)) dX4_find_50 rfl rfl 8 rfl rfl gX4_find_X0_areAt rfl rfl rfl (by decide +kernel) ⟨by decide, by decide⟩ rfl rfl rfl rfl (by decide) rfl (Nat.le_of_ble_eq_true rfl) ⟨rfl, rfl⟩ ⟨by decide, by decide⟩ (fun z50 u50 h50 => ?_)
                (try dsimp only at h50)
                obtain ⟨h50_1, h50_2⟩ := h50
                show V p9 lx e9 ({ frames := 5, cells := 0, slots := 0, locals := 120 }) s9 m9 ar9 be9 me9 c9 Q9 D A9 s9.heap 6 0 0 [oP ap cnt3, aC (cs 0) (ap 2) 96 knd3, aC (cs 0) (ap 3) 96 col3, aC (cs 0) (ap 4) 96 row3, aC (cs 0) (ap 5) 96 siz3, aC (cs 0) (ap 6) 96 bw3, aC (cs 0) (ap 7) 96 bh3, oL al wide high border pattern, oF (ap 8) fl3 fr3 ft3 fb3, aC (cs 0) (ap 1) 96 ofc3, oB ab door, aC (cs 1) (ab 1) 96 pil, aC (cs 1) (ab 2) 96 bar] [(0, .ref (ap 0)), (1, .ref al), (2, .ref (ab 0)), (3, .int (iI r)), (4, .int (iI u))] 53 [.int (iI z50)]
                refine v_if_ne hC 60 56 dX4_find_53 (by decide) rfl (by omega) (fun c_53 => ?_) (fun c_53 => ?_)
                · skip
                  refine v_iconst hC 61 dX4_find_60 rfl ?_
                  refine v_istore hC 63 [(5, .int (iI 0)), (0, .ref (ap 0)), (1, .ref al), (2, .ref (ab 0)), (3, .int (iI r)), (4, .int (iI u))] dX4_find_61 rfl (by decide) rfl ?_
                  refine v_iload hC 65 0 dX4_find_63 rfl rfl ?_
                  refine v_if_eq hC 86 68 dX4_find_65 (by decide) rfl (by omega) (fun c_65 => ?_) (fun c_65 => ?_)
                  · skip
                    refine v_iinc hC 89 5 [(4, .int (iI (u + 1))), (5, .int (iI 0)), (0, .ref (ap 0)), (1, .ref al), (2, .ref (ab 0)), (3, .int (iI r))] dX4_find_86 rfl rfl (by decide) rfl ?_
                    refine v_goto hC 24 dX4_find_89 (by decide) ?_
                    exact v_sub [0, 1, 2, 3, 4, 5, 6, 7, 10, 11, 12, 8, 9] [2, 3, 4, 5, 0] _ _ rfl rfl rfl (ih_24 (u + 1) cnt3 ofc3 knd3 col3 row3 siz3 bw3 bh3 fl3 fr3 ft3 fb3 (by omega) (by rw [show r * 12 + (u + 1) = r * 12 + u + 1 by omega]; first | exact PFI_oldI (by omega) hP3 (fun q => absurd (hn9.1.mp q) (by omega)) | (rw [h83]; exact PFI_newI (by omega) hP3 (hn9.1.mpr ⟨by omega, by omega⟩) (by omega) (by omega) rfl rfl rfl (by omega))) (by first | assumption | (rw [h83]; exact Rn_uI hk3 (kdN_rng _ _ _ _ _ _))) (by omega))
                  · exfalso; exact absurd c_65 (by decide)
                · skip
                  refine v_iconst hC 57 dX4_find_56 rfl ?_
                  refine v_goto hC 61 dX4_find_57 (by decide) ?_
                  refine v_istore hC 63 [(5, .int (iI 1)), (0, .ref (ap 0)), (1, .ref al), (2, .ref (ab 0)), (3, .int (iI r)), (4, .int (iI u))] dX4_find_61 rfl (by decide) rfl ?_
                  refine v_iload hC 65 0 dX4_find_63 rfl rfl ?_
                  refine v_if_eq hC 86 68 dX4_find_65 (by decide) rfl (by omega) (fun c_65 => ?_) (fun c_65 => ?_)
                  · exfalso; exact absurd c_65 (by decide)
                  · skip
                    refine v_aload_n hC 69 1 dX4_find_68 rfl rfl rfl ?_
                    refine v_get hC 72 0 0 (C := RX4) (T := TX4) (N := 9) dX4_find_69 rfl iX4 L0 rfl rfl (by decide) rfl ?_
                    refine v_bipush hC 74 dX4_find_72 rfl rfl ?_
                    refine v_icmp_ge hC 86 77 dX4_find_74 (by decide) rfl (by omega) (by omega) (fun c_74 => ?_) (fun c_74 => ?_)
                    · exfalso; omega
                    · skip
                      have hn8 := (nw_iff (k := (r * 12 + u).toNat) (by omega)).mp (hn9.1.mpr ⟨by omega, by omega⟩)
                      rw [Int.toNat_of_nonneg (show 0 ≤ r * 12 + u by omega)] at hn8
                      refine v_aload_n hC 78 1 dX4_find_77 rfl rfl rfl ?_
                      refine v_aload_n hC 79 2 dX4_find_78 rfl rfl rfl ?_
                      refine v_aload_n hC 80 3 dX4_find_79 rfl rfl rfl ?_
                      refine v_iload hC 82 5 dX4_find_80 rfl rfl ?_
                      refine v_iload_n hC 83 4 dX4_find_82 rfl rfl rfl ?_
                      refine v_callVv hC 86 4 [0, 9, 1, 2, 3, 4, 5, 6, 7, 10, 11, 12, 8] [] [] (As := [.ref al, .ref (ab 0), .int (iI u), .int (iI r)]) (rest := []) (c_X4_add lx D cs ap al ab cnt3 ofc3 knd3 col3 row3 siz3 bw3 bh3 wide high border pattern door pil bar fl3 fr3 ft3 fb3 u r (by omega) (by omega) (by omega) (by omega) (by omega) (by omega) (by omega) (by assumption) (by omega) (by exact hn8.2)) dX4_find_83 rfl rfl 0 rfl rfl gX4_find_X4_add rfl rfl rfl (by decide +kernel) ⟨by decide, by decide⟩ rfl rfl rfl rfl (by decide) rfl (Nat.le_of_ble_eq_true rfl) ⟨rfl, rfl⟩ ⟨by decide, by decide⟩ (fun u83 h83 => ?_)
                      obtain ⟨fl1_83, fr1_83, ft1_83, fb1_83, knd1_83⟩ := u83
                      (try dsimp only at h83)
                      show V p9 lx e9 ({ frames := 5, cells := 0, slots := 0, locals := 120 }) s9 m9 ar9 be9 me9 c9 Q9 D A9 s9.heap 6 0 0 [oP ap (cnt3 + 1), aC (cs 0) (ap 1) 96 (qA (sl wide high border pattern bar (r * 12 + u)) ofc3 cnt3 96), aC (cs 0) (ap 2) 96 knd1_83, aC (cs 0) (ap 3) 96 (uI col3 cnt3 u), aC (cs 0) (ap 4) 96 (uI row3 cnt3 r), aC (cs 0) (ap 5) 96 (uI siz3 cnt3 (qC (sl wide high border pattern bar (r * 12 + u)) 96)), aC (cs 0) (ap 6) 96 (uI bw3 cnt3 (qR (sl wide high border pattern bar (r * 12 + u)) 96 - qL (sl wide high border pattern bar (r * 12 + u)) 96 + 1)), aC (cs 0) (ap 7) 96 (uI bh3 cnt3 (qB (sl wide high border pattern bar (r * 12 + u)) 96 - r + 1)), oL al wide high border pattern, oB ab door, aC (cs 1) (ab 1) 96 pil, aC (cs 1) (ab 2) 96 bar, oF (ap 8) fl1_83 fr1_83 ft1_83 fb1_83] [(5, .int (iI 1)), (0, .ref (ap 0)), (1, .ref al), (2, .ref (ab 0)), (3, .int (iI r)), (4, .int (iI u))] 86 []
                      refine v_iinc hC 89 5 [(4, .int (iI (u + 1))), (5, .int (iI 1)), (0, .ref (ap 0)), (1, .ref al), (2, .ref (ab 0)), (3, .int (iI r))] dX4_find_86 rfl rfl (by decide) rfl ?_
                      refine v_goto hC 24 dX4_find_89 (by decide) ?_
                      exact v_sub [0, 2, 3, 4, 5, 6, 7, 8, 9, 10, 11, 12, 1] [2, 3, 4, 5, 0] _ _ rfl rfl rfl (ih_24 (u + 1) (cnt3 + 1) (qA (sl wide high border pattern bar (r * 12 + u)) ofc3 cnt3 96) knd1_83 (uI col3 cnt3 u) (uI row3 cnt3 r) (uI siz3 cnt3 (qC (sl wide high border pattern bar (r * 12 + u)) 96)) (uI bw3 cnt3 (qR (sl wide high border pattern bar (r * 12 + u)) 96 - qL (sl wide high border pattern bar (r * 12 + u)) 96 + 1)) (uI bh3 cnt3 (qB (sl wide high border pattern bar (r * 12 + u)) 96 - r + 1)) fl1_83 fr1_83 ft1_83 fb1_83 (by omega) (by rw [show r * 12 + (u + 1) = r * 12 + u + 1 by omega]; first | exact PFI_oldI (by omega) hP3 (fun q => absurd (hn9.1.mp q) (by omega)) | (rw [h83]; exact PFI_newI (by omega) hP3 (hn9.1.mpr ⟨by omega, by omega⟩) (by omega) (by omega) rfl rfl rfl (by omega))) (by first | assumption | (rw [h83]; exact Rn_uI hk3 (kdN_rng _ _ _ _ _ _))) (by omega))
        exact v_sub [0, 1, 2, 3, 4, 5, 6, 7, 8, 9, 10, 11, 12] [1, 2, 3, 4, 0] _ _ rfl rfl rfl (cut_24 (Int.toNat (12 - 0) + 1) 0 cnt2 ofc2 knd2 col2 row2 siz2 bw2 bh2 fl2 fr2 ft2 fb2 (by omega) (by rw [show r * 12 + 0 = r * 12 by omega]; exact hP2) (by assumption) (by omega))
  exact v_sub [0, 1, 2, 3, 4, 5, 6, 7, 8, 9, 10, 11, 12] [1, 2, 3, 0] _ _ rfl rfl rfl (cut_15 (Int.toNat (8 - 0) + 1) 0 0 g1_10 knd col row siz bw bh fl fr ft fb (by omega) (by rw [h10]; exact PFI_0) (by assumption) (by omega))

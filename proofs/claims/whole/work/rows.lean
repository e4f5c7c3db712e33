section
/-! THE WALK'S OWN KIT: whole numbers under Int32 (iI), rows as functions on whole numbers (aI, uI), a judgement V over worlds and listed locals, a row an instruction -/
section VK1
def iI (z : Int) : Int32 := Int32.ofInt z
def aI (g : Int → Int) : Nat → Int32 := fun j => iI (g (j : Int))
def uI (g : Int → Int) (k v : Int) : Int → Int := fun j => if j = k then v else g j
def lI (z : Int) : Int64 := Int64.ofInt z
def bI (g : Int → Int) : Nat → Int64 := fun j => lI (g (j : Int))
theorem iI_toInt {z : Int} (h : -2147483648 ≤ z ∧ z < 2147483648) : (iI z).toInt = z := Int32.toInt_ofInt_of_le (by omega) (by omega)
theorem iI_of (x : Int32) : x = iI x.toInt := (Int32.ofInt_toInt x).symm
theorem iI_rng (x : Int32) : -2147483648 ≤ x.toInt ∧ x.toInt < 2147483648 := ⟨by have := x.le_toInt; omega, by have := x.toInt_lt; omega⟩
theorem iI_add (a b : Int) : iI a + iI b = iI (a + b) := (Int32.ofInt_add a b).symm
theorem iI_sub (a b : Int) : iI a - iI b = iI (a - b) := (Int32.ofInt_sub a b).symm
theorem iI_mul (a b : Int) : iI a * iI b = iI (a * b) := (Int32.ofInt_mul a b).symm
theorem iI_lt {a b : Int} (ha : -2147483648 ≤ a ∧ a < 2147483648) (hb : -2147483648 ≤ b ∧ b < 2147483648) : iI a < iI b ↔ a < b := by
  rw [Int32.lt_iff_toInt_lt, iI_toInt ha, iI_toInt hb]
theorem iI_le {a b : Int} (ha : -2147483648 ≤ a ∧ a < 2147483648) (hb : -2147483648 ≤ b ∧ b < 2147483648) : iI a ≤ iI b ↔ a ≤ b := by
  rw [Int32.le_iff_toInt_le, iI_toInt ha, iI_toInt hb]
theorem iI_eq {a b : Int} (ha : -2147483648 ≤ a ∧ a < 2147483648) (hb : -2147483648 ≤ b ∧ b < 2147483648) : iI a = iI b ↔ a = b := by
  rw [← Int32.toInt_inj, iI_toInt ha, iI_toInt hb]
theorem iI_0 : (0 : Int32) = iI 0 := rfl
theorem iI_div {a b : Int} (ha : 0 ≤ a ∧ a < 2147483648) (hb : 0 < b ∧ b < 2147483648) : iI a / iI b = iI (a / b) := by
  have hm : Int32.minValue.toInt = -2147483648 := by decide
  have hM : Int32.maxValue.toInt = 2147483647 := by decide
  have h := Int32.ofInt_tdiv (a := a) (b := b) (by omega) (by omega) (by omega) (by omega)
  rw [Int.tdiv_eq_ediv_of_nonneg ha.1] at h
  exact h.symm
theorem iI_rem {a b : Int} (ha : 0 ≤ a ∧ a < 2147483648) (hb : 0 < b ∧ b < 2147483648) : iI a - iI a / iI b * iI b = iI (a % b) := by
  rw [iI_div ha hb, iI_mul, iI_sub, Int.emod_def, Int.mul_comm]
theorem iI_nat {n : Nat} : iI (n : Int) = nI n := Int32.ofInt_eq_ofNat
theorem iI_clamp {z : Int} (h : 0 ≤ z ∧ z < 2147483648) : (iI z).toNatClampNeg = z.toNat := Int32.toNatClampNeg_ofInt_of_le (by omega) (by omega)
theorem iI_in {z : Int} {n : Nat} (h : 0 ≤ z ∧ z < (n : Int)) (hn : n < 2147483648) : vp_in (iI z) n := by
  rw [vp_in_iff, iI_toInt (by omega)]; omega
theorem aI_get {g : Int → Int} {z : Int} (h : 0 ≤ z ∧ z < 2147483648) : aI g (iI z).toNatClampNeg = iI (g z) := by
  rw [iI_clamp h]; unfold aI; rw [Int.toNat_of_nonneg h.1]
theorem aI_upd {g : Int → Int} {z v : Int} (h : 0 ≤ z ∧ z < 2147483648) : upd (aI g) (iI z).toNatClampNeg (iI v) = aI (uI g z v) := by
  rw [iI_clamp h]
  funext j
  unfold upd aI uI
  by_cases hj : j = z.toNat
  · rw [if_pos hj, if_pos (by omega)]
  · rw [if_neg hj, if_neg (by omega)]
theorem bI_get {g : Int → Int} {z : Int} (h : 0 ≤ z ∧ z < 2147483648) : bI g (iI z).toNatClampNeg = lI (g z) := by
  rw [iI_clamp h]; unfold bI; rw [Int.toNat_of_nonneg h.1]
theorem bI_upd {g : Int → Int} {z v : Int} (h : 0 ≤ z ∧ z < 2147483648) : vp_updL (bI g) (iI z).toNatClampNeg (lI v) = bI (uI g z v) := by
  rw [iI_clamp h]
  funext j
  unfold vp_updL bI uI
  by_cases hj : j = z.toNat
  · rw [if_pos hj, if_pos (by omega)]
  · rw [if_neg hj, if_neg (by omega)]
theorem lI_of {z : Int} (h : -2147483648 ≤ z ∧ z < 2147483648) : (iI z).toInt64 = lI z := by
  apply Int64.toInt_inj.mp
  rw [Int32.toInt_toInt64, iI_toInt h]
  exact (Int64.toInt_ofInt_of_le (by omega) (by omega)).symm
theorem lI_toInt {z : Int} (h : -2147483648 ≤ z ∧ z < 2147483648) : (lI z).toInt = z := Int64.toInt_ofInt_of_le (by omega) (by omega)
theorem lI_cmp {a b : Int} (ha : -2147483648 ≤ a ∧ a < 2147483648) (hb : -2147483648 ≤ b ∧ b < 2147483648) : lg_cmp (lI a) (lI b) = iI (if b < a then 1 else if a = b then 0 else -1) := by
  have h1 : (lI a > lI b) ↔ b < a := by
    show lI b < lI a ↔ b < a
    rw [Int64.lt_iff_toInt_lt, lI_toInt ha, lI_toInt hb]
  have h2 : lI a = lI b ↔ a = b := by rw [← Int64.toInt_inj, lI_toInt ha, lI_toInt hb]
  unfold lg_cmp
  by_cases c1 : b < a
  · rw [if_pos (h1.mpr c1), if_pos c1]; rfl
  · rw [if_neg (fun h => c1 (h1.mp h)), if_neg c1]
    by_cases c2 : a = b
    · rw [if_pos (h2.mpr c2), if_pos c2]; rfl
    · rw [if_neg (fun h => c2 (h2.mp h)), if_neg c2]; rfl
theorem iI_01 {z : Int} (h : z = 0 ∨ z = 1) : narrow .boolean (.int (iI z)) = .int (iI z) := by rcases h with rfl | rfl <;> rfl
theorem iI_nar01 {z : Int} (h : z = 0 ∨ z = 1) : vp_nar .boolean (iI z) = iI z := by rcases h with rfl | rfl <;> rfl
theorem iI_bv {z : Int} : (iI z).toBitVec.toNat = (z % 4294967296).toNat := by
  show (BitVec.ofInt 32 z).toNat = _
  rw [BitVec.toNat_ofInt]
  rfl
theorem iI_and {z : Int} {m : Int32} (k : Nat) (N : Int) (hk : k ≤ 31) (hm : m.toBitVec.toNat = 2 ^ k - 1) (hN : ((2 ^ k : Nat) : Int) = N) : iI z &&& m = iI (z % N) := by
  rw [pk_and (iI z) k hm, iI_bv, ← iI_nat]
  congr 1
  subst hN
  have h0 : 0 ≤ z % 4294967296 := Int.emod_nonneg _ (by decide)
  rw [Int.natCast_emod, Int.toNat_of_nonneg h0]
  have hd : ((2 ^ k : Nat) : Int) ∣ 4294967296 := by
    refine ⟨((2 ^ (32 - k) : Nat) : Int), ?_⟩
    rw [← Int.natCast_mul, ← Nat.pow_add, show k + (32 - k) = 32 by omega]
    rfl
  exact Int.emod_emod_of_dvd _ hd
theorem iI_shr1 {z : Int} (h : 0 ≤ z ∧ z < 2147483648) : iI z >>> (iI 1 &&& 31) = iI (z / 2) := by
  obtain ⟨n, rfl⟩ : ∃ n : Nat, z = n := ⟨z.toNat, by omega⟩
  rw [iI_nat, pk_shrN (by omega) (iI 1 &&& 31) 1 (by decide), ← iI_nat]
  rfl
theorem iI_or {a b : Int} (ha : a = 0 ∨ a = 1) (hb : b = 0 ∨ b = 1) : iI a ||| iI b = iI (max a b) := by
  rcases ha with rfl | rfl <;> rcases hb with rfl | rfl <;> rfl
theorem uI_eq (g : Int → Int) (k v : Int) : uI g k v k = v := by unfold uI; rw [if_pos rfl]
theorem uI_ne (g : Int → Int) {k j : Int} (v : Int) (h : j ≠ k) : uI g k v j = g j := by unfold uI; rw [if_neg h]
end VK1
end
section
-- ===== PART A: goes FIRST, ahead of the names: the tables' words, and 'selects' of the private methods out of them =====
/-- a private method of a class that the tables say can be made, by its rows of tables_1 -/
def lw_okq (q : MethodName × Nat) : Prop := (q.1.cls ≠ "java/lang/invoke/MethodHandle" ∧ q.1.cls ≠ "java/lang/invoke/VarHandle") ∧ Cond.instantiable q.1.cls q.2 ∈ tables_1 ∧ Cond.privateMethod q.1 ∈ tables_1 ∧ Cond.instanceMethod q.1 ∈ tables_1
theorem lw_p0 : lw_okq (⟨"Groutline", "renew", "()V"⟩, 7) := ⟨⟨by decide +kernel, by decide +kernel⟩, List.mem_of_getElem? (i := 19) (by decide +kernel), List.mem_of_getElem? (i := 213) (by decide +kernel), List.mem_of_getElem? (i := 214) (by decide +kernel)⟩
theorem lw_p1 : lw_okq (⟨"Groutline$Bars", "renewRow", "(I)V"⟩, 3) := ⟨⟨by decide +kernel, by decide +kernel⟩, List.mem_of_getElem? (i := 50) (by decide +kernel), List.mem_of_getElem? (i := 244) (by decide +kernel), List.mem_of_getElem? (i := 245) (by decide +kernel)⟩
theorem lw_p2 : lw_okq (⟨"Groutline$Bars", "isDoor", "(II)Z"⟩, 3) := ⟨⟨by decide +kernel, by decide +kernel⟩, List.mem_of_getElem? (i := 50) (by decide +kernel), List.mem_of_getElem? (i := 254) (by decide +kernel), List.mem_of_getElem? (i := 255) (by decide +kernel)⟩
theorem lw_p3 : lw_okq (⟨"Groutline$Pieces", "add", "(LGroutline$Layout;LGroutline$Bars;II)V"⟩, 9) := ⟨⟨by decide +kernel, by decide +kernel⟩, List.mem_of_getElem? (i := 68) (by decide +kernel), List.mem_of_getElem? (i := 270) (by decide +kernel), List.mem_of_getElem? (i := 271) (by decide +kernel)⟩
theorem lw_p4 : lw_okq (⟨"Groutline$Pieces", "measure", "(LGroutline$Bars;I)V"⟩, 9) := ⟨⟨by decide +kernel, by decide +kernel⟩, List.mem_of_getElem? (i := 68) (by decide +kernel), List.mem_of_getElem? (i := 300) (by decide +kernel), List.mem_of_getElem? (i := 301) (by decide +kernel)⟩
theorem lw_p5 : lw_okq (⟨"Groutline$Cuts", "cut", "(LGroutline$Layout;III)V"⟩, 6) := ⟨⟨by decide +kernel, by decide +kernel⟩, List.mem_of_getElem? (i := 138) (by decide +kernel), List.mem_of_getElem? (i := 314) (by decide +kernel), List.mem_of_getElem? (i := 315) (by decide +kernel)⟩
theorem lw_p6 : lw_okq (⟨"Groutline$Cuts", "bestRestFor", "(II)I"⟩, 6) := ⟨⟨by decide +kernel, by decide +kernel⟩, List.mem_of_getElem? (i := 138) (by decide +kernel), List.mem_of_getElem? (i := 318) (by decide +kernel), List.mem_of_getElem? (i := 319) (by decide +kernel)⟩
theorem lw_p7 : lw_okq (⟨"Groutline$Cuts", "hasRest", "(I)Z"⟩, 6) := ⟨⟨by decide +kernel, by decide +kernel⟩, List.mem_of_getElem? (i := 138) (by decide +kernel), List.mem_of_getElem? (i := 322) (by decide +kernel), List.mem_of_getElem? (i := 323) (by decide +kernel)⟩
theorem lw_p8 : lw_okq (⟨"Groutline$Cuts", "leave", "(IIIII)V"⟩, 6) := ⟨⟨by decide +kernel, by decide +kernel⟩, List.mem_of_getElem? (i := 138) (by decide +kernel), List.mem_of_getElem? (i := 326) (by decide +kernel), List.mem_of_getElem? (i := 327) (by decide +kernel)⟩
theorem lw_p9 : lw_okq (⟨"Groutline$Cuts", "addRest", "(III)V"⟩, 6) := ⟨⟨by decide +kernel, by decide +kernel⟩, List.mem_of_getElem? (i := 138) (by decide +kernel), List.mem_of_getElem? (i := 330) (by decide +kernel), List.mem_of_getElem? (i := 331) (by decide +kernel)⟩
theorem lw_p10 : lw_okq (⟨"Groutline$Cuts", "removeRest", "(I)V"⟩, 6) := ⟨⟨by decide +kernel, by decide +kernel⟩, List.mem_of_getElem? (i := 138) (by decide +kernel), List.mem_of_getElem? (i := 334) (by decide +kernel), List.mem_of_getElem? (i := 335) (by decide +kernel)⟩
theorem lw_p11 : lw_okq (⟨"Groutline", "isFirstOfItsPiece", "(II)Z"⟩, 7) := ⟨⟨by decide +kernel, by decide +kernel⟩, List.mem_of_getElem? (i := 19) (by decide +kernel), List.mem_of_getElem? (i := 364) (by decide +kernel), List.mem_of_getElem? (i := 365) (by decide +kernel)⟩
theorem lw_p12 : lw_okq (⟨"java/lang/Throwable", "fillInStackTrace", "(I)Ljava/lang/Throwable;"⟩, 6) := ⟨⟨by decide +kernel, by decide +kernel⟩, List.mem_of_getElem? (i := 436) (by decide +kernel), List.mem_of_getElem? (i := 434) (by decide +kernel), List.mem_of_getElem? (i := 435) (by decide +kernel)⟩
theorem lw_p13 : lw_okq (⟨"Groutline$Stack", "has", "(I)Z"⟩, 4) := ⟨⟨by decide +kernel, by decide +kernel⟩, List.mem_of_getElem? (i := 165) (by decide +kernel), List.mem_of_getElem? (i := 588) (by decide +kernel), List.mem_of_getElem? (i := 589) (by decide +kernel)⟩
theorem lw_p14 : lw_okq (⟨"Groutline$Stack", "remove", "(I)V"⟩, 4) := ⟨⟨by decide +kernel, by decide +kernel⟩, List.mem_of_getElem? (i := 165) (by decide +kernel), List.mem_of_getElem? (i := 592) (by decide +kernel), List.mem_of_getElem? (i := 593) (by decide +kernel)⟩
theorem lw_p15 : lw_okq (⟨"Groutline", "piecesOfStrip", "(I)I"⟩, 7) := ⟨⟨by decide +kernel, by decide +kernel⟩, List.mem_of_getElem? (i := 19) (by decide +kernel), List.mem_of_getElem? (i := 623) (by decide +kernel), List.mem_of_getElem? (i := 624) (by decide +kernel)⟩
def lw_privs_1 : List (MethodName × Nat) := [(⟨"Groutline", "renew", "()V"⟩, 7), (⟨"Groutline$Bars", "renewRow", "(I)V"⟩, 3), (⟨"Groutline$Bars", "isDoor", "(II)Z"⟩, 3), (⟨"Groutline$Pieces", "add", "(LGroutline$Layout;LGroutline$Bars;II)V"⟩, 9), (⟨"Groutline$Pieces", "measure", "(LGroutline$Bars;I)V"⟩, 9), (⟨"Groutline$Cuts", "cut", "(LGroutline$Layout;III)V"⟩, 6), (⟨"Groutline$Cuts", "bestRestFor", "(II)I"⟩, 6), (⟨"Groutline$Cuts", "hasRest", "(I)Z"⟩, 6), (⟨"Groutline$Cuts", "leave", "(IIIII)V"⟩, 6), (⟨"Groutline$Cuts", "addRest", "(III)V"⟩, 6), (⟨"Groutline$Cuts", "removeRest", "(I)V"⟩, 6), (⟨"Groutline", "isFirstOfItsPiece", "(II)Z"⟩, 7), (⟨"java/lang/Throwable", "fillInStackTrace", "(I)Ljava/lang/Throwable;"⟩, 6), (⟨"Groutline$Stack", "has", "(I)Z"⟩, 4), (⟨"Groutline$Stack", "remove", "(I)V"⟩, 4), (⟨"Groutline", "piecesOfStrip", "(I)I"⟩, 7)]
theorem lw_r1 : ∀ q ∈ lw_privs_1, lw_okq q := List.forall_mem_cons.mpr ⟨lw_p0, List.forall_mem_cons.mpr ⟨lw_p1, List.forall_mem_cons.mpr ⟨lw_p2, List.forall_mem_cons.mpr ⟨lw_p3, List.forall_mem_cons.mpr ⟨lw_p4, List.forall_mem_cons.mpr ⟨lw_p5, List.forall_mem_cons.mpr ⟨lw_p6, List.forall_mem_cons.mpr ⟨lw_p7, List.forall_mem_cons.mpr ⟨lw_p8, List.forall_mem_cons.mpr ⟨lw_p9, List.forall_mem_cons.mpr ⟨lw_p10, List.forall_mem_cons.mpr ⟨lw_p11, List.forall_mem_cons.mpr ⟨lw_p12, List.forall_mem_cons.mpr ⟨lw_p13, List.forall_mem_cons.mpr ⟨lw_p14, List.forall_mem_cons.mpr ⟨lw_p15, fun _ h => absurd h List.not_mem_nil⟩⟩⟩⟩⟩⟩⟩⟩⟩⟩⟩⟩⟩⟩⟩⟩
theorem lw_p16 : lw_okq (⟨"GroutlineModel", "unlay", "()V"⟩, 31) := ⟨⟨by decide +kernel, by decide +kernel⟩, List.mem_of_getElem? (i := 651) (by decide +kernel), List.mem_of_getElem? (i := 657) (by decide +kernel), List.mem_of_getElem? (i := 658) (by decide +kernel)⟩
theorem lw_p17 : lw_okq (⟨"GroutlineModel", "plans", "()V"⟩, 31) := ⟨⟨by decide +kernel, by decide +kernel⟩, List.mem_of_getElem? (i := 651) (by decide +kernel), List.mem_of_getElem? (i := 661) (by decide +kernel), List.mem_of_getElem? (i := 662) (by decide +kernel)⟩
theorem lw_p18 : lw_okq (⟨"GroutlineModel", "isBarred", "(I)Z"⟩, 31) := ⟨⟨by decide +kernel, by decide +kernel⟩, List.mem_of_getElem? (i := 651) (by decide +kernel), List.mem_of_getElem? (i := 665) (by decide +kernel), List.mem_of_getElem? (i := 666) (by decide +kernel)⟩
theorem lw_p19 : lw_okq (⟨"GroutlineModel", "isSame", "(II)Z"⟩, 31) := ⟨⟨by decide +kernel, by decide +kernel⟩, List.mem_of_getElem? (i := 651) (by decide +kernel), List.mem_of_getElem? (i := 669) (by decide +kernel), List.mem_of_getElem? (i := 670) (by decide +kernel)⟩
theorem lw_p20 : lw_okq (⟨"GroutlineModel", "isEdge", "(I)Z"⟩, 31) := ⟨⟨by decide +kernel, by decide +kernel⟩, List.mem_of_getElem? (i := 651) (by decide +kernel), List.mem_of_getElem? (i := 673) (by decide +kernel), List.mem_of_getElem? (i := 674) (by decide +kernel)⟩
theorem lw_p21 : lw_okq (⟨"GroutlineModel", "tileOf", "(I)I"⟩, 31) := ⟨⟨by decide +kernel, by decide +kernel⟩, List.mem_of_getElem? (i := 651) (by decide +kernel), List.mem_of_getElem? (i := 677) (by decide +kernel), List.mem_of_getElem? (i := 678) (by decide +kernel)⟩
theorem lw_p22 : lw_okq (⟨"GroutlineModel", "cuts", "()V"⟩, 31) := ⟨⟨by decide +kernel, by decide +kernel⟩, List.mem_of_getElem? (i := 651) (by decide +kernel), List.mem_of_getElem? (i := 681) (by decide +kernel), List.mem_of_getElem? (i := 682) (by decide +kernel)⟩
theorem lw_p23 : lw_okq (⟨"GroutlineModel", "bestRest", "(II)I"⟩, 31) := ⟨⟨by decide +kernel, by decide +kernel⟩, List.mem_of_getElem? (i := 651) (by decide +kernel), List.mem_of_getElem? (i := 685) (by decide +kernel), List.mem_of_getElem? (i := 686) (by decide +kernel)⟩
theorem lw_p24 : lw_okq (⟨"GroutlineModel", "takeOut", "(I)V"⟩, 31) := ⟨⟨by decide +kernel, by decide +kernel⟩, List.mem_of_getElem? (i := 651) (by decide +kernel), List.mem_of_getElem? (i := 689) (by decide +kernel), List.mem_of_getElem? (i := 690) (by decide +kernel)⟩
theorem lw_p25 : lw_okq (⟨"GroutlineModel", "in", "(III)Z"⟩, 31) := ⟨⟨by decide +kernel, by decide +kernel⟩, List.mem_of_getElem? (i := 651) (by decide +kernel), List.mem_of_getElem? (i := 795) (by decide +kernel), List.mem_of_getElem? (i := 796) (by decide +kernel)⟩
theorem lw_p26 : lw_okq (⟨"GroutlineModel", "holds", "(I)Z"⟩, 31) := ⟨⟨by decide +kernel, by decide +kernel⟩, List.mem_of_getElem? (i := 651) (by decide +kernel), List.mem_of_getElem? (i := 799) (by decide +kernel), List.mem_of_getElem? (i := 800) (by decide +kernel)⟩
theorem lw_p27 : lw_okq (⟨"GroutlineModel", "stripOfRow", "(I)I"⟩, 31) := ⟨⟨by decide +kernel, by decide +kernel⟩, List.mem_of_getElem? (i := 651) (by decide +kernel), List.mem_of_getElem? (i := 815) (by decide +kernel), List.mem_of_getElem? (i := 816) (by decide +kernel)⟩
theorem lw_p28 : lw_okq (⟨"GroutlineModel", "courses", "()I"⟩, 31) := ⟨⟨by decide +kernel, by decide +kernel⟩, List.mem_of_getElem? (i := 651) (by decide +kernel), List.mem_of_getElem? (i := 819) (by decide +kernel), List.mem_of_getElem? (i := 820) (by decide +kernel)⟩
theorem lw_p29 : lw_okq (⟨"GroutlineModel", "isStrip", "(I)Z"⟩, 31) := ⟨⟨by decide +kernel, by decide +kernel⟩, List.mem_of_getElem? (i := 651) (by decide +kernel), List.mem_of_getElem? (i := 859) (by decide +kernel), List.mem_of_getElem? (i := 860) (by decide +kernel)⟩
theorem lw_p30 : lw_okq (⟨"GroutlineModel", "stripCount", "()I"⟩, 31) := ⟨⟨by decide +kernel, by decide +kernel⟩, List.mem_of_getElem? (i := 651) (by decide +kernel), List.mem_of_getElem? (i := 863) (by decide +kernel), List.mem_of_getElem? (i := 864) (by decide +kernel)⟩
theorem lw_p31 : lw_okq (⟨"GroutlineModel", "isWet", "(I)Z"⟩, 31) := ⟨⟨by decide +kernel, by decide +kernel⟩, List.mem_of_getElem? (i := 651) (by decide +kernel), List.mem_of_getElem? (i := 867) (by decide +kernel), List.mem_of_getElem? (i := 868) (by decide +kernel)⟩
def lw_privs_2 : List (MethodName × Nat) := [(⟨"GroutlineModel", "unlay", "()V"⟩, 31), (⟨"GroutlineModel", "plans", "()V"⟩, 31), (⟨"GroutlineModel", "isBarred", "(I)Z"⟩, 31), (⟨"GroutlineModel", "isSame", "(II)Z"⟩, 31), (⟨"GroutlineModel", "isEdge", "(I)Z"⟩, 31), (⟨"GroutlineModel", "tileOf", "(I)I"⟩, 31), (⟨"GroutlineModel", "cuts", "()V"⟩, 31), (⟨"GroutlineModel", "bestRest", "(II)I"⟩, 31), (⟨"GroutlineModel", "takeOut", "(I)V"⟩, 31), (⟨"GroutlineModel", "in", "(III)Z"⟩, 31), (⟨"GroutlineModel", "holds", "(I)Z"⟩, 31), (⟨"GroutlineModel", "stripOfRow", "(I)I"⟩, 31), (⟨"GroutlineModel", "courses", "()I"⟩, 31), (⟨"GroutlineModel", "isStrip", "(I)Z"⟩, 31), (⟨"GroutlineModel", "stripCount", "()I"⟩, 31), (⟨"GroutlineModel", "isWet", "(I)Z"⟩, 31)]
theorem lw_r2 : ∀ q ∈ lw_privs_2, lw_okq q := List.forall_mem_cons.mpr ⟨lw_p16, List.forall_mem_cons.mpr ⟨lw_p17, List.forall_mem_cons.mpr ⟨lw_p18, List.forall_mem_cons.mpr ⟨lw_p19, List.forall_mem_cons.mpr ⟨lw_p20, List.forall_mem_cons.mpr ⟨lw_p21, List.forall_mem_cons.mpr ⟨lw_p22, List.forall_mem_cons.mpr ⟨lw_p23, List.forall_mem_cons.mpr ⟨lw_p24, List.forall_mem_cons.mpr ⟨lw_p25, List.forall_mem_cons.mpr ⟨lw_p26, List.forall_mem_cons.mpr ⟨lw_p27, List.forall_mem_cons.mpr ⟨lw_p28, List.forall_mem_cons.mpr ⟨lw_p29, List.forall_mem_cons.mpr ⟨lw_p30, List.forall_mem_cons.mpr ⟨lw_p31, fun _ h => absurd h List.not_mem_nil⟩⟩⟩⟩⟩⟩⟩⟩⟩⟩⟩⟩⟩⟩⟩⟩
theorem lw_p32 : lw_okq (⟨"GroutlineModel", "piecesOf", "(I)I"⟩, 31) := ⟨⟨by decide +kernel, by decide +kernel⟩, List.mem_of_getElem? (i := 651) (by decide +kernel), List.mem_of_getElem? (i := 871) (by decide +kernel), List.mem_of_getElem? (i := 872) (by decide +kernel)⟩
def lw_privs_3 : List (MethodName × Nat) := [(⟨"GroutlineModel", "piecesOf", "(I)I"⟩, 31)]
theorem lw_r3 : ∀ q ∈ lw_privs_3, lw_okq q := List.forall_mem_cons.mpr ⟨lw_p32, fun _ h => absurd h List.not_mem_nil⟩
def lw_privs : List (MethodName × Nat) := lw_privs_1 ++ (lw_privs_2 ++ (lw_privs_3))
def lw_tbl : List Cond := k2_sels lw_privs ++ tables_1
theorem lw_privs_ok : ∀ q ∈ lw_privs, lw_okq q := by
  show ∀ q ∈ lw_privs_1 ++ (lw_privs_2 ++ (lw_privs_3)), lw_okq q
  exact List.forall_mem_append.mpr ⟨lw_r1, List.forall_mem_append.mpr ⟨lw_r2, lw_r3⟩⟩
/-! ===== BEGIN words of one list among another's, by their places ===== -/
theorem goodIn_r {big : List Cond} (ws : List Cond) (ps : List Nat) (hp : ws = ps.filterMap (fun i => big[i]?)) (h : ws.all goodWord = true) : GoodIn big ws := by
  intro w hw
  have h1 := List.all_eq_true.mp h w hw
  rw [hp] at hw
  obtain ⟨i, -, hi⟩ := List.mem_filterMap.mp hw
  have hm : w ∈ big := by first | exact List.mem_of_getElem? hi | exact List.getElem?_mem hi
  exact ⟨hm, good_of_word h1⟩
theorem goodIn_app {big a b : List Cond} (ha : GoodIn big a) (hb : GoodIn big b) : GoodIn big (a ++ b) := fun w h => (List.mem_append.mp h).elim (ha w) (hb w)
theorem goodIn_ca {big a b : List Cond} {c : Cond} (ha : GoodIn big (c :: a)) (hb : GoodIn big b) : GoodIn big (c :: (a ++ b)) := fun w h => (List.mem_cons.mp h).elim (fun e => ha w (List.mem_cons.mpr (Or.inl e))) (fun h => (List.mem_append.mp h).elim (fun h => ha w (List.mem_cons.mpr (Or.inr h))) (hb w))
theorem goodIn_sub {big ws : List Cond} (hm : ∀ w ∈ ws, w ∈ big) (h : ws.all goodWord = true) : GoodIn big ws := fun w hw => ⟨hm w hw, good_of_word (List.all_eq_true.mp h w hw)⟩
/-! ===== END ===== -/

/-! ===== BEGIN exceptions that leave a method, and their catching by the caller (launches without stack traces) ===== -/
section VXA
/-! The laws vx_back, vx_callV, vx_callS, vx_callSW, vx_throw0, vx_throwS follow proofs of the library, with one case more: JvmDerived/Free/Laws.lean (Back.of_free), Shelf42/LK1.lean (callV, callS), Shelf/KitTraced.lean (throwNew0V, throwNewS). -/
/-- where a method has thrown q: the class by its name, the cell, what was written, the world -/
def vx_T (XC : String → State → State → Prop) (st : State) (q : Addr) (t : State) (mc ms : Nat) (free : Addr → Prop) : Prop :=
  ∃ (E : String) (ce : Cell) (L : List Loc), XC E st t ∧ t.heap[q]? = some ce ∧ ce.vm = .none ∧ st.vm.findClass E = some ce.cls ∧ st.WarmedH t.vm ∧ st.sameButNew ({ t with vm := st.vm } : State) L mc ms ∧ ∀ z ∈ L, free z.base
def vx_Q (Qc : Array Value → State → Outcome → State → Prop) (XC : String → State → State → Prop) (mc ms : Nat) (free : Addr → Prop) : Array Value → State → Outcome → State → Prop := fun a st o t =>
  (Qc a st o t ∧ ∃ L, FrameEnd st o t L mc ms ∧ ∀ q ∈ L, free q.base) ∨ ∃ q, o = .threw q ∧ vx_T XC st q t mc ms free
/-- a callee that returns or throws -/
def vx_Met (l : Launch) (y : MethodName) (ws : List Cond) (rm : Room) (Pc : Array Value → State → Prop) (Qc : Array Value → State → Outcome → State → Prop) (XC : String → State → State → Prop) (mc ms : Nat) (free : Addr → Prop) : Prop :=
  MetFree l y (headSpec ws rm) Pc (fun _ _ _ _ _ => True) (vx_Q Qc XC mc ms free)
def vx_Post (XC : String → State → State → Prop) (mc ms : Nat) (free : Addr → Prop) : Pt → Array Value → Addr → Pt → Prop := fun A a q B =>
  ∃ (g : JFrame) (mk : MethodId) (t : State) (L : List Loc) (E : String) (ce : Cell), B.U.heap = t.heap ∧ B.U.vm = t.vm ∧ XC E (A.U.calling g mk a) t ∧ t.heap[q]? = some ce ∧ ce.vm = .none ∧ A.U.vm.findClass E = some ce.cls ∧ B.locs = A.locs ++ L ∧ (∀ z ∈ L, free z.base) ∧ B.cells = A.cells + mc ∧ B.slots = A.slots + ms
def vx_Back (l : Launch) (R : Room) (p : Program) (e : Env) (below : List Frame) (s : State) (sargs : Array Value) (y : MethodName) (len W9 : Nat)
    (Pre : Pt → Array Value → Prop) (Post : Pt → Array Value → Option Value → Pt → Prop) (PostX : Pt → Array Value → Addr → Pt → Prop) : Prop :=
  ∀ (m : MethodId) (meth : Method) (c : Code) (A : Pt) (g : JFrame) (ig : Instr) (mk : MethodId) (a : Array Value),
    Stand p l e R s m sargs below meth c A.U A.locs A.cells A.slots → g.method = m → g.locals.size = c.maxLocals → decode c.code g.pc = .ok (ig, len) →
    2 * g.monitorRoom + (g.stack.map fun v => v.category).sum ≤ W9 → A.U.methodNamed? y = some mk → Pre A a →
    (∃ (v : Option Value) (B : Pt), Stand p l e R s m sargs below meth c B.U B.locs B.cells B.slots ∧ Post A a v B ∧
      Steps p.tables e below (doInvoke e (A.U.setTop g) [] mk a).1 (B.U.setTop { g with pc := g.pc + len, stack := v.toList ++ g.stack })) ∨
    (∃ (q : Addr) (B : Pt), Stand p l e R s m sargs below meth c B.U B.locs B.cells B.slots ∧ PostX A a q B ∧
      Steps p.tables e below (doInvoke e (A.U.setTop g) [] mk a).1 ((B.U.setTop g).pushFrame (.throwing q)))
section Payer
variable {l : Launch} {R : Room} {p : Program} {e : Env} {below : List Frame} {s : State} {sargs : Array Value} {y : MethodName} {len W9 : Nat}
theorem vx_back {ws : List Cond} {rm : Room} {Pc : Array Value → State → Prop} {Qc : Array Value → State → Outcome → State → Prop} {XC : String → State → State → Prop} {mc ms : Nat} {free : Addr → Prop} {bytes : ByteArray} {maxL : Nat} {ret : Option FieldType}
    (hM : vx_Met l y ws rm Pc Qc XC mc ms free) (hblind : FrameBlind Pc) (hrc : rm.cells = mc) (hrs : rm.slots = ms)
    (hframes : rm.frames + 1 ≤ R.frames) (hlocals : W9 + (maxL + 11) + rm.locals ≤ R.locals)
    (hws : ∀ w ∈ ws, ∀ a' U, s.WarmedH U.vm → w.before a' U = true) (hcode : Cond.code y bytes maxL ret ∈ ws) (hinit : ∀ a' U, s.WarmedH U.vm → (Cond.initialized y.cls).before a' U = true) :
    vx_Back l R p e below s sargs y len W9 (PreOf R mc ms Pc) (PostOf Qc mc ms free) (vx_Post XC mc ms free) := by
  intro m meth c A g ig mk a X hg hsize hdg hW hn hp
  have h1 : (headSpec ws rm).pre.before a A.U = true := atoms_intro fun w hw => hws w hw _ _ X.warmed
  have h2 : (Cond.code y bytes maxL ret).before a A.U = true := hws _ hcode _ _ X.warmed
  have h3 : (Cond.initialized y.cls).before a A.U = true := hinit _ _ X.warmed
  have h4 : A.cells + (headSpec ws rm).room.cells ≤ R.cells := by rw [show (headSpec ws rm).room.cells = mc from hrc]; exact hp.1
  have h5 : A.slots + (headSpec ws rm).room.slots ≤ R.slots := by rw [show (headSpec ws rm).room.slots = ms from hrs]; exact hp.2.1
  have hPc : Pc a (A.U.calling g mk a) := hblind _ _ _ _ hp.2.2
  obtain ⟨U, Ls, c0, s0⟩ := A
  dsimp only [Pt.U, Pt.locs, Pt.cells, Pt.slots] at h1 h2 h3 h4 h5 X hn hPc ⊢
  obtain ⟨methY, cY, hmY, hcY, -, hlY, -, -, -, -⟩ := Cond.code_spec hn h2
  obtain ⟨kY, hkY, -⟩ := className_of_methodNamed hn
  have hinitY : kY.init = .initialized := Cond.initialized_spec (findClass_of_methodNamed hn) hkY h3
  have h : At U g.method c below := by rw [hg]; exact X.here
  have hlocals9 : W9 + (maxL + 11) + (headSpec ws rm).room.locals ≤ R.locals := hlocals
  have happ : (headSpec ws rm).appliesLoose y e.platform (U.calling g mk a) = true :=
    Spec.appliesLoose_calling (g := g) h hdg hn hkY hinitY
      (X.room_calling (g := g) (R' := (headSpec ws rm).room) hsize hmY hcY hframes (by rw [hlY]; omega) h4 h5) h1
  obtain ⟨mid, hmid⟩ := h.above
  have hfr : (U.setTop g).frames = (.java g :: mid) ++ below := by rw [State.frames_setTop' g h.top, hmid]; rfl
  obtain ⟨o, s₂, hsteps, -, hend, hq⟩ := Steps.callFree hM p X.admits X.cas X.clock (acts := []) hfr happ hPc trivial
  have hq' : vx_Q Qc XC mc ms free a (U.calling g mk a) o s₂ := hq
  rw [State.frames_setTop' g h.top] at hend
  obtain ⟨g₀, hg0⟩ := Option.isSome_iff_exists.mp h.top
  obtain ⟨r, hr⟩ := State.topJava?_eq_some.mp hg0
  have hr' : (({ U with heap := s₂.heap, slotsUsed := s₂.slotsUsed } : State).setVm s₂.vm).frames = .java g₀ :: r := hr
  rcases hq' with ⟨hqc, L, hfe, hL⟩ | ⟨q, rfl, E, ce, L, hx, hce, hcv, hcl, hW₂, hsm, hL⟩
  · obtain ⟨⟨v, rfl⟩, hW₂, e2, q2, q3, q4, q5, q6⟩ := id hfe
    have e3 : s₂ = ({ (U.calling g mk a).setFrames s₂.frames with heap := s₂.heap, slotsUsed := s₂.slotsUsed } : State).setVm s₂.vm := by
      have : s₂ = ({ s₂ with vm := (U.calling g mk a).vm } : State).setVm s₂.vm := rfl
      rw [e2] at this
      exact this
    obtain ⟨c₂, i₂, len₂, hc₂, hd₂, hf₂⟩ := hend
    have hW' : U.WarmedH s₂.vm := hW₂
    have hcc : c₂ = c := by
      have h1 : s₂.code? g.method = U.code? g.method := by
        rw [State.code?_eq, State.code?_eq, hW'.alike.method?]
      exact Option.some.inj (hc₂.symm.trans (h1.trans h.code))
    subst hcc
    have hlen : len₂ = len := by rw [hdg] at hd₂; cases hd₂; rfl
    subst hlen
    have hs₂ : s₂ = (({ U with heap := s₂.heap, slotsUsed := s₂.slotsUsed } : State).setVm s₂.vm).setTop { g with pc := g.pc + len₂, stack := v.toList ++ g.stack } := by
      refine e3.trans ?_
      rw [hf₂, State.calling_eq h.top, State.setFrames_setFrames, State.setTop_of_frames _ hr', hr]
      rfl
    have hsame : U.sameButNew ({ U with heap := s₂.heap, slotsUsed := s₂.slotsUsed } : State) L mc ms := by
      refine ⟨?_, q2, q3, q4, q5, q6⟩
      obtain ⟨t, ht, -⟩ := State.frames_cons hr
      show ({ U with heap := s₂.heap, slotsUsed := s₂.slotsUsed } : State) = { U.setFrames U.frames with heap := s₂.heap, slotsUsed := s₂.slotsUsed }
      rw [State.setFrames_self ht]
    subst hg
    refine Or.inl ⟨v, ⟨(({ U with heap := s₂.heap, slotsUsed := s₂.slotsUsed } : State).setVm s₂.vm), Ls ++ L, c0 + mc, s0 + ms⟩,
      ⟨X.admits, X.cas, X.clock, X.frames, X.room, X.hears, X.method, X.code, (X.here.setHeapUsed s₂.heap s₂.slotsUsed).setVm hW'.alike, X.tail, State.WarmedH.trans X.warmed hW', X.limits, X.bytes, X.same.trans (hsame.setVm s.vm)⟩,
      ⟨g, mk, s₂, L, rfl, rfl, hqc, rfl, hL, rfl, rfl⟩, ?_⟩
    show Steps p.tables e below _ ((({ U with heap := s₂.heap, slotsUsed := s₂.slotsUsed } : State).setVm s₂.vm).setTop { g with pc := g.pc + len₂, stack := v.toList ++ g.stack })
    rw [← hs₂]
    exact hsteps
  · obtain ⟨e2, q2, q3, q4, q5, q6⟩ := id hsm
    have e3 : s₂ = ({ (U.calling g mk a).setFrames s₂.frames with heap := s₂.heap, slotsUsed := s₂.slotsUsed } : State).setVm s₂.vm := by
      have : s₂ = ({ s₂ with vm := (U.calling g mk a).vm } : State).setVm s₂.vm := rfl
      rw [e2] at this
      exact this
    have hf₂ : s₂.frames = .throwing q :: .java g :: U.frames.tail := hend
    have hW' : U.WarmedH s₂.vm := hW₂
    have hs₂ : s₂ = ((({ U with heap := s₂.heap, slotsUsed := s₂.slotsUsed } : State).setVm s₂.vm).setTop g).pushFrame (.throwing q) := by
      refine e3.trans ?_
      rw [hf₂, State.calling_eq h.top, State.setFrames_setFrames, State.pushFrame, State.frames_setTop _ hr', State.setTop_of_frames _ hr', State.setFrames_setFrames, hr]
      rfl
    have hsame : U.sameButNew ({ U with heap := s₂.heap, slotsUsed := s₂.slotsUsed } : State) L mc ms := by
      refine ⟨?_, q2, q3, q4, q5, q6⟩
      obtain ⟨t, ht, -⟩ := State.frames_cons hr
      show ({ U with heap := s₂.heap, slotsUsed := s₂.slotsUsed } : State) = { U.setFrames U.frames with heap := s₂.heap, slotsUsed := s₂.slotsUsed }
      rw [State.setFrames_self ht]
    subst hg
    refine Or.inr ⟨q, ⟨(({ U with heap := s₂.heap, slotsUsed := s₂.slotsUsed } : State).setVm s₂.vm), Ls ++ L, c0 + mc, s0 + ms⟩,
      ⟨X.admits, X.cas, X.clock, X.frames, X.room, X.hears, X.method, X.code, (X.here.setHeapUsed s₂.heap s₂.slotsUsed).setVm hW'.alike, X.tail, State.WarmedH.trans X.warmed hW', X.limits, X.bytes, X.same.trans (hsame.setVm s.vm)⟩,
      ⟨g, mk, s₂, L, E, ce, rfl, rfl, hx, hce, hcv, hcl, rfl, hL, rfl, rfl⟩, ?_⟩
    show Steps p.tables e below _ (((({ U with heap := s₂.heap, slotsUsed := s₂.slotsUsed } : State).setVm s₂.vm).setTop g).pushFrame (.throwing q))
    rw [← hs₂]
    exact hsteps
end Payer
section Calls
variable {p : Program} {l : Launch} {e : Env} {R : Room} {s : State} {m : MethodId} {args : Array Value} {below : List Frame} {meth : Method} {c : Code} {T : State} {locs : List Loc} {cells slots : Nat}
theorem vx_callV (X : Stand p l e R s m args below meth c T locs cells slots) (hexec : p.tables.exec = Jvm.exec) {own C : String} {index : Nat} {y : MethodName} {bytes : ByteArray} {maxL : Nat} {ret : Option FieldType}
    (hown : s.vm.findClass own = some m.cls) (hlink : (Cond.methodLink own index y).before args s = true) (hinst : (Cond.instanceMethod y).before args s = true) (hsel : (Cond.selects C y y).before args s = true)
    (hcode : (Cond.code y bytes maxL ret).before args s = true) (hy : y.cls ≠ "java/lang/invoke/MethodHandle" ∧ y.cls ≠ "java/lang/invoke/VarHandle")
    {W9 : Nat} {Pre : Pt → Array Value → Prop} {Post : Pt → Array Value → Option Value → Pt → Prop} {PostX : Pt → Array Value → Addr → Pt → Prop} (hK : vx_Back l R p e below s args y 3 W9 Pre Post PostX)
    {b : Addr} {cellB : Cell} (hcell : T.heap[b]? = some cellB) (hobj : cellB.vm.isStatics = false) (hcls : s.vm.findClass C = some cellB.cls)
    {g : JFrame} (hg : g.method = m) (hsize : g.locals.size = c.maxLocals) {argsL rest : List Value} (hlen : ∀ sig, parseMethodDescriptor y.desc = some sig → argsL.length = sig.parameters.length)
    (hstack : g.stack = argsL.reverse ++ .ref b :: rest) (hW : 2 * g.monitorRoom + (rest.map fun v => v.category).sum ≤ W9) (hdg : decode c.code g.pc = .ok (.invokevirtual index, 3))
    (hpre : ∀ vm₁, s.WarmedH vm₁ → Pre ⟨T.setVm vm₁, locs, cells, slots⟩ (Value.ref b :: argsL).toArray) :
    (∃ (v : Option Value) (vm₁ : Vm) (B : Pt), s.WarmedH vm₁ ∧ Stand p l e R s m args below meth c B.U B.locs B.cells B.slots ∧ Post ⟨T.setVm vm₁, locs, cells, slots⟩ (Value.ref b :: argsL).toArray v B ∧
      ∀ target, Steps p.tables e below (B.U.setTop { g with pc := g.pc + 3, stack := v.toList ++ rest }) target → Steps p.tables e below (T.setTop g) target) ∨
    (∃ (q : Addr) (vm₁ : Vm) (B : Pt), s.WarmedH vm₁ ∧ Stand p l e R s m args below meth c B.U B.locs B.cells B.slots ∧ PostX ⟨T.setVm vm₁, locs, cells, slots⟩ (Value.ref b :: argsL).toArray q B ∧
      Steps p.tables e below (T.setTop g) ((B.U.setTop { g with stack := rest }).pushFrame (.throwing q))) := by
  obtain ⟨mk, methM, hnamed, hmethM, hstM, habM⟩ := Cond.instanceMethod_spec hinst
  obtain ⟨methM', cM, hmethM', -, -, -, -, -, -, hsigM⟩ := Cond.code_spec hnamed hcode
  cases hmethM.symm.trans hmethM'
  obtain ⟨c2, r2, m2, q1, q2, q3, q4, kP, hkP, hkPi⟩ := Cond.selects_spec hsel
  cases hcls.symm.trans q1
  cases (State.methodFound?_of_named hnamed hy).symm.trans q2
  cases hnamed.symm.trans q3
  have hselP : selectMethod e.platform s.vm cellB.cls mk = .method mk := by rw [Launch.admits_selectMethod X.admits]; exact q4
  obtain ⟨vm₁, X₁, hstep₁⟩ := X.invokevirtual hexec hown hlink hnamed hmethM hstM hkP hkPi hy (a := b) (cell := cellB) hcell
    (fun z h => by rw [h] at hobj; cases hobj) hselP hmethM habM hkP hkPi (g := g) hg (argsL := argsL) (rest := rest) (hlen _ hsigM) hstack hdg
  rcases hK m meth c ⟨T.setVm vm₁, locs, cells, slots⟩ { g with stack := rest } (.invokevirtual index) mk (Value.ref b :: argsL).toArray X₁ hg hsize hdg hW (X₁.named hnamed) (hpre vm₁ X₁.warmed) with ⟨v, B, X', hpost, hsteps⟩ | ⟨q, B, X', hpost, hsteps⟩
  · exact Or.inl ⟨v, vm₁, B, X₁.warmed, X', hpost, fun target h => hstep₁ _ fun acts => by rw [doInvoke_state]; exact hsteps.trans h⟩
  · exact Or.inr ⟨q, vm₁, B, X₁.warmed, X', hpost, hstep₁ _ fun acts => by rw [doInvoke_state]; exact hsteps⟩
theorem vx_callS (X : Stand p l e R s m args below meth c T locs cells slots) (hexec : p.tables.exec = Jvm.exec) {own : String} {index : Nat} {y : MethodName} {bytes : ByteArray} {maxL : Nat} {ret : Option FieldType}
    (hown : s.vm.findClass own = some m.cls) (hlink : (Cond.methodLink own index y).before args s = true) (hstat : (Cond.static y).before args s = true) (hinit : (Cond.initialized y.cls).before args s = true)
    (hcode : (Cond.code y bytes maxL ret).before args s = true) (hy : y.cls ≠ "java/lang/invoke/MethodHandle" ∧ y.cls ≠ "java/lang/invoke/VarHandle")
    {W9 : Nat} {Pre : Pt → Array Value → Prop} {Post : Pt → Array Value → Option Value → Pt → Prop} {PostX : Pt → Array Value → Addr → Pt → Prop} (hK : vx_Back l R p e below s args y 3 W9 Pre Post PostX)
    {g : JFrame} (hg : g.method = m) (hsize : g.locals.size = c.maxLocals) {argsL rest : List Value} (hlen : ∀ sig, parseMethodDescriptor y.desc = some sig → argsL.length = sig.parameters.length)
    (hstack : g.stack = argsL.reverse ++ rest) (hW : 2 * g.monitorRoom + (rest.map fun v => v.category).sum ≤ W9) (hdg : decode c.code g.pc = .ok (.invokestatic index, 3))
    (hpre : ∀ vm₁, s.WarmedH vm₁ → Pre ⟨T.setVm vm₁, locs, cells, slots⟩ argsL.toArray) :
    (∃ (v : Option Value) (vm₁ : Vm) (B : Pt), s.WarmedH vm₁ ∧ Stand p l e R s m args below meth c B.U B.locs B.cells B.slots ∧ Post ⟨T.setVm vm₁, locs, cells, slots⟩ argsL.toArray v B ∧
      ∀ target, Steps p.tables e below (B.U.setTop { g with pc := g.pc + 3, stack := v.toList ++ rest }) target → Steps p.tables e below (T.setTop g) target) ∨
    (∃ (q : Addr) (vm₁ : Vm) (B : Pt), s.WarmedH vm₁ ∧ Stand p l e R s m args below meth c B.U B.locs B.cells B.slots ∧ PostX ⟨T.setVm vm₁, locs, cells, slots⟩ argsL.toArray q B ∧
      Steps p.tables e below (T.setTop g) ((B.U.setTop { g with stack := rest }).pushFrame (.throwing q))) := by
  obtain ⟨mk, hnamed⟩ := Cond.code_named hcode
  obtain ⟨methM, cM, hmethM, -, -, -, -, -, -, hsigM⟩ := Cond.code_spec hnamed hcode
  have hstatic : methM.isStatic = true := Cond.static_spec hnamed hmethM hstat
  obtain ⟨kP, hkP, -⟩ := className_of_methodNamed hnamed
  have hinitP : kP.init = .initialized := Cond.initialized_spec (findClass_of_methodNamed hnamed) hkP hinit
  obtain ⟨vm₁, X₁, hstep₁⟩ := X.invokestatic hexec hown hlink hnamed hmethM hstatic hkP hinitP hy (g := g) hg (argsL := argsL) (rest := rest) (hlen _ hsigM) hstack hdg
  rcases hK m meth c ⟨T.setVm vm₁, locs, cells, slots⟩ { g with stack := rest } (.invokestatic index) mk argsL.toArray X₁ hg hsize hdg hW (X₁.named hnamed) (hpre vm₁ X₁.warmed) with ⟨v, B, X', hpost, hsteps⟩ | ⟨q, B, X', hpost, hsteps⟩
  · exact Or.inl ⟨v, vm₁, B, X₁.warmed, X', hpost, fun target h => hstep₁ _ fun acts => by rw [doInvoke_state]; exact hsteps.trans h⟩
  · exact Or.inr ⟨q, vm₁, B, X₁.warmed, X', hpost, hstep₁ _ fun acts => by rw [doInvoke_state]; exact hsteps⟩
end Calls
theorem vx_cls {s : State} {T : State} {vm₁ : Vm} {E : String} {k : ClassId} (hW : s.WarmedH vm₁) (h : (T.setVm vm₁).vm.findClass E = some k) : s.vm.findClass E = some k := by
  have h1 : vm₁.findClass E = some k := h
  rw [hW.alike.findClass] at h1
  exact h1
/-- the method's frame g, with q thrown over it -/
def vx_W (p : Program) (l : Launch) (e : Env) (R : Room) (s : State) (m : MethodId) (args : Array Value) (below : List Frame) (meth : Method) (c : Code) (H : Heap) (locs : List Loc) (cells slots : Nat) (Q : State → Prop) (g : JFrame) (q : Addr) : Prop :=
  ∀ T : State, T.heap = H → Stand p l e R s m args below meth c T locs cells slots → ∃ t, Steps p.tables e below ((T.setTop g).pushFrame (.throwing q)) t ∧ Q t
def vx_Run (p : Program) (l : Launch) (e : Env) (R : Room) (s : State) (m : MethodId) (args : Array Value) (below : List Frame) (meth : Method) (c : Code) (H : Heap) (locs : List Loc) (cells slots mc ms : Nat) (g : JFrame) (rest : List Value) (Qa : State → Outcome → State → Prop) (XC : String → State → State → Prop) (free : Addr → Prop) : Prop :=
  ∀ T : State, T.heap = H → Stand p l e R s m args below meth c T locs cells slots →
    (∃ (v : Option Value) (st₀ t T' : State) (L : List Loc), st₀.heap = H ∧ Stand p l e R s m args below meth c T' (locs ++ L) (cells + mc) (slots + ms) ∧ (∀ q ∈ L, free q.base) ∧ T'.heap = t.heap ∧ T'.vm = t.vm ∧ Qa st₀ (.returned v) t ∧
      Goes p e below T g T' { g with pc := g.pc + 3, stack := v.toList ++ rest }) ∨
    (∃ (q : Addr) (st₀ t T' : State) (L : List Loc) (E : String) (ce : Cell), st₀.heap = H ∧ Stand p l e R s m args below meth c T' (locs ++ L) (cells + mc) (slots + ms) ∧ (∀ z ∈ L, free z.base) ∧ T'.heap = t.heap ∧ T'.vm = t.vm ∧ XC E st₀ t ∧ t.heap[q]? = some ce ∧ ce.vm = .none ∧ s.vm.findClass E = some ce.cls ∧
      Steps p.tables e below (T.setTop g) ((T'.setTop { g with stack := rest }).pushFrame (.throwing q)))
def vx_X {S : Type} (px : S → Prop) (B : String → S → State → Prop) (A : Nat → Prop) : String → State → State → Prop := fun E st t => ∃ u : S, px u ∧ B E u t ∧ va_F A st t
section Runs
variable {p : Program} {l : Launch} {e : Env} {R : Room} {s : State} {m : MethodId} {args : Array Value} {below : List Frame} {meth : Method} {c : Code} {H : Heap} {locs : List Loc} {cells slots : Nat}
variable {y : MethodName} {bytes cc : ByteArray} {maxL nL mc ms n index : Nat} {ret : Option FieldType} {ws : List Cond} {rm : Room} {Pc : Array Value → State → Prop} {Qc : Array Value → State → Outcome → State → Prop} {XC : String → State → State → Prop} {free : Addr → Prop} {Ts : List Cond} {own C : String} {b : Addr} {As rest : List Value} {g : JFrame}
theorem vx_callBack (cb : CallB R s args own index y bytes maxL ret ws rm mc ms n) (hM : vx_Met l y ws rm Pc Qc XC mc ms free) (hbl : FrameBlind Pc) : vx_Back l R p e below s args y 3 8 (PreOf R mc ms Pc) (PostOf Qc mc ms free) (vx_Post XC mc ms free) := by
  obtain ⟨hrc, hrs, hfr, hlo, hws, hcw, -, hini, -⟩ := cb
  exact vx_back (bytes := bytes) (maxL := maxL) (ret := ret) hM hbl hrc hrs hfr hlo hws hcw (fun a' U hW => word_at hW (Or.inl (by first | rfl | simp [Cond.onTables, Cond.keeps, Cond.steady])) hini)
theorem vx_runV (S : CallFix p m c cc nL s args Ts own) (hM : vx_Met l y ws rm Pc Qc XC mc ms free) (cw : CallW R s args own C index y bytes maxL ret ws rm mc ms n) (hp : PreV s H C b Pc As)
    (hg : g.method = m) (hn : As.length = n) (hsize : g.locals.size = nL) (hstack : g.stack = As.reverse ++ .ref b :: rest) (hW : 2 * g.monitorRoom + (rest.map fun v => v.category).sum ≤ 8) (hdg : decode cc g.pc = .ok (.invokevirtual index, 3)) (hf : cells + mc ≤ R.cells ∧ slots + ms ≤ R.slots) :
    vx_Run p l e R s m args below meth c H locs cells slots mc ms g rest (Qc (Value.ref b :: As).toArray) XC free := by
  have hK : vx_Back l R p e below s args y 3 8 (PreOf R mc ms Pc) (PostOf Qc mc ms free) (vx_Post XC mc ms free) := vx_callBack cw.1 hM hp.1
  obtain ⟨⟨-, -, -, -, -, -, hcode, -, hy, hlen, hl⟩, hin, hse⟩ := cw
  obtain ⟨hx, hb, hml, ho, -⟩ := S
  obtain ⟨-, ⟨cellB, hcB, hoB, hclB⟩, hPc⟩ := hp
  intro T hT X
  rcases vx_callV X hx (C := C) (bytes := bytes) (maxL := maxL) (ret := ret) ho hl hin hse hcode hy hK (by rw [hT]; exact hcB) hoB hclB hg (hsize.trans hml.symm) (argsL := As) (rest := rest) (fun sig h => hn.trans (hlen sig h)) hstack hW (by rw [hb]; exact hdg)
    (fun vm₁ hW₁ => ⟨hf.1, hf.2, hPc (T.setVm vm₁) hT hW₁⟩) with ⟨v, vm₁, ⟨U', l2, c2, s2⟩, hW₁, X', ⟨g', mk, t, L, e1, e2, hq, h1, hL, h2, h3⟩, st⟩ | ⟨q, vm₁, ⟨U', l2, c2, s2⟩, hW₁, X', ⟨g', mk, t, L, E, ce, e1, e2, hq, hce, hcv, hcl, h1, hL, h2, h3⟩, st⟩
  · dsimp only [Pt.U, Pt.locs, Pt.cells, Pt.slots] at X' e1 e2 h1 h2 h3 st
    subst h1; subst h2; subst h3
    exact Or.inl ⟨v, (T.setVm vm₁).calling g' mk (Value.ref b :: As).toArray, t, U', L, hT, X', hL, e1, e2, hq, st⟩
  · dsimp only [Pt.U, Pt.locs, Pt.cells, Pt.slots] at X' e1 e2 h1 h2 h3 st hcl
    subst h1; subst h2; subst h3
    exact Or.inr ⟨q, (T.setVm vm₁).calling g' mk (Value.ref b :: As).toArray, t, U', L, E, ce, hT, X', hL, e1, e2, hq, hce, hcv, vx_cls hW₁ hcl, st⟩
theorem vx_runS (S : CallFix p m c cc nL s args Ts own) (hM : vx_Met l y ws rm Pc Qc XC mc ms free) (cw : CallB R s args own index y bytes maxL ret ws rm mc ms n ∧ (Cond.static y).before args s = true) (hp : PreS s H Pc As)
    (hg : g.method = m) (hn : As.length = n) (hsize : g.locals.size = nL) (hstack : g.stack = As.reverse ++ rest) (hW : 2 * g.monitorRoom + (rest.map fun v => v.category).sum ≤ 8) (hdg : decode cc g.pc = .ok (.invokestatic index, 3)) (hf : cells + mc ≤ R.cells ∧ slots + ms ≤ R.slots) :
    vx_Run p l e R s m args below meth c H locs cells slots mc ms g rest (Qc As.toArray) XC free := by
  have hK : vx_Back l R p e below s args y 3 8 (PreOf R mc ms Pc) (PostOf Qc mc ms free) (vx_Post XC mc ms free) := vx_callBack cw.1 hM hp.1
  obtain ⟨⟨-, -, -, -, -, -, hcode, hini, hy, hlen, hl⟩, hstt⟩ := cw
  obtain ⟨hx, hb, hml, ho, -⟩ := S
  intro T hT X
  rcases vx_callS X hx (bytes := bytes) (maxL := maxL) (ret := ret) ho hl hstt hini hcode hy hK hg (hsize.trans hml.symm) (argsL := As) (rest := rest) (fun sig h => hn.trans (hlen sig h)) hstack hW (by rw [hb]; exact hdg)
    (fun vm₁ hW₁ => ⟨hf.1, hf.2, hp.2 (T.setVm vm₁) hT hW₁⟩) with ⟨v, vm₁, ⟨U', l2, c2, s2⟩, hW₁, X', ⟨g', mk, t, L, e1, e2, hq, h1, hL, h2, h3⟩, st⟩ | ⟨q, vm₁, ⟨U', l2, c2, s2⟩, hW₁, X', ⟨g', mk, t, L, E, ce, e1, e2, hq, hce, hcv, hcl, h1, hL, h2, h3⟩, st⟩
  · dsimp only [Pt.U, Pt.locs, Pt.cells, Pt.slots] at X' e1 e2 h1 h2 h3 st
    subst h1; subst h2; subst h3
    exact Or.inl ⟨v, (T.setVm vm₁).calling g' mk As.toArray, t, U', L, hT, X', hL, e1, e2, hq, st⟩
  · dsimp only [Pt.U, Pt.locs, Pt.cells, Pt.slots] at X' e1 e2 h1 h2 h3 st hcl
    subst h1; subst h2; subst h3
    exact Or.inr ⟨q, (T.setVm vm₁).calling g' mk As.toArray, t, U', L, E, ce, hT, X', hL, e1, e2, hq, hce, hcv, vx_cls hW₁ hcl, st⟩
end Runs
section Rows
variable {p : Program} {l : Launch} {e : Env} {R : Room} {s : State} {m : MethodId} {args : Array Value} {below : List Frame} {meth : Method} {c : Code} {H : Heap} {locs : List Loc} {cells slots : Nat} {Q : State → Prop}
variable {mc ms : Nat} {free : Addr → Prop} {A0 A1 : Nat → Prop} {H0 : Heap} {a : Array Value} {pc : Nat} {ls : Array Slot} {st0 rest : List Value}
theorem vx_keep {st₀ t T' : State} {L : List Loc} (h0 : st₀.heap = H) (e1 : T'.heap = t.heap) (hS : va_S A0 H0 H locs) (hA : ∀ q, q < H.size → A1 q → A0 q) (hf : ∀ q, free q → A0 q) (hL : ∀ q ∈ L, free q.base) (hF : va_F A1 st₀ t) :
    H.size ≤ T'.heap.size ∧ (∀ q : Nat, q < H.size → ¬ A1 q → T'.heap[q]? = H[q]?) ∧ va_S A0 H0 T'.heap (locs ++ L) := by
  obtain ⟨hz, hk⟩ := hF
  rw [h0] at hz hk
  exact ⟨by rw [e1]; exact hz, fun q h1 h2 => by rw [e1]; exact hk q h1 h2,
    ⟨Nat.le_trans hS.1 (by rw [e1]; exact hz), fun q h1 h2 => by rw [e1, hk q (Nat.lt_of_lt_of_le h1 hS.1) (fun z => h2 (hA q (Nat.lt_of_lt_of_le h1 hS.1) z))]; exact hS.2.1 q h1 h2, fun q hq => by
      rcases List.mem_append.mp hq with h | h
      · exact hS.2.2 q h
      · exact hf _ (hL q h)⟩⟩
theorem vx_calli {S SX : Type} {post : Int32 → S → Prop} {px : SX → Prop} {B : S → State → Prop} {BX : String → SX → State → Prop} {AX : Nat → Prop} (hr : vx_Run p l e R s m args below meth c H locs cells slots mc ms (F0 m pc ls st0) rest (va_Qi post B A1 a) (vx_X px BX AX) free) (hS : va_S A0 H0 H locs) (hA : ∀ q, q < H.size → A1 q → A0 q) (hf : ∀ q, free q → A0 q) (hAX : ∀ q, q < H.size → AX q → A0 q)
    (kx : ∀ (E : String) (ce : Cell) (q9 : Addr) (u : SX) (t : State) (H1 : Heap) (locs1 : List Loc), t.heap = H1 → s.vm.Alike t.vm → px u → BX E u t → H.size ≤ H1.size → (∀ q : Nat, q < H.size → ¬ AX q → H1[q]? = H[q]?) → va_S A0 H0 H1 locs1 → H1[q9]? = some ce → ce.vm = .none → s.vm.findClass E = some ce.cls → vx_W p l e R s m args below meth c H1 locs1 (cells + mc) (slots + ms) Q (F0 m pc ls rest) q9)
    (kk : ∀ (r : Int32) (u : S) (t : State) (H1 : Heap) (locs1 : List Loc), t.heap = H1 → s.vm.Alike t.vm → post r u → B u t → H.size ≤ H1.size → (∀ q : Nat, q < H.size → ¬ A1 q → H1[q]? = H[q]?) → va_S A0 H0 H1 locs1 → W p l e R s m args below meth c H1 locs1 (cells + mc) (slots + ms) Q (F0 m (pc + 3) ls (.int r :: rest))) : W p l e R s m args below meth c H locs cells slots Q (F0 m pc ls st0) := by
  intro T hT X
  rcases hr T hT X with ⟨v, st₀, t, T', L, h0, X', hL, e1, e2, ⟨⟨r, u, hv, hp, hb⟩, hF⟩, st⟩ | ⟨q, st₀, t, T', L, E, ce, h0, X', hL, e1, e2, ⟨u, hp, hb, hF⟩, hce, hcv, hcl, st⟩
  · cases hv
    obtain ⟨k1, k2, k3⟩ := vx_keep h0 e1 hS hA hf hL hF
    obtain ⟨t2, a1, b1⟩ := kk r u t T'.heap (locs ++ L) e1.symm (by rw [← e2]; exact X'.warmed.alike) hp hb k1 k2 k3 T' rfl X'
    exact ⟨t2, st t2 a1, b1⟩
  · obtain ⟨k1, k2, k3⟩ := vx_keep h0 e1 hS hAX hf hL hF
    obtain ⟨t2, a1, b1⟩ := kx E ce q u t T'.heap (locs ++ L) e1.symm (by rw [← e2]; exact X'.warmed.alike) hp hb k1 k2 k3 (by rw [e1]; exact hce) hcv hcl T' rfl X'
    exact ⟨t2, st.trans a1, b1⟩
theorem vx_calll {S SX : Type} {post : Int64 → S → Prop} {px : SX → Prop} {B : S → State → Prop} {BX : String → SX → State → Prop} {AX : Nat → Prop} (hr : vx_Run p l e R s m args below meth c H locs cells slots mc ms (F0 m pc ls st0) rest (va_Ql post B A1 a) (vx_X px BX AX) free) (hS : va_S A0 H0 H locs) (hA : ∀ q, q < H.size → A1 q → A0 q) (hf : ∀ q, free q → A0 q) (hAX : ∀ q, q < H.size → AX q → A0 q)
    (kx : ∀ (E : String) (ce : Cell) (q9 : Addr) (u : SX) (t : State) (H1 : Heap) (locs1 : List Loc), t.heap = H1 → s.vm.Alike t.vm → px u → BX E u t → H.size ≤ H1.size → (∀ q : Nat, q < H.size → ¬ AX q → H1[q]? = H[q]?) → va_S A0 H0 H1 locs1 → H1[q9]? = some ce → ce.vm = .none → s.vm.findClass E = some ce.cls → vx_W p l e R s m args below meth c H1 locs1 (cells + mc) (slots + ms) Q (F0 m pc ls rest) q9)
    (kk : ∀ (r : Int64) (u : S) (t : State) (H1 : Heap) (locs1 : List Loc), t.heap = H1 → s.vm.Alike t.vm → post r u → B u t → H.size ≤ H1.size → (∀ q : Nat, q < H.size → ¬ A1 q → H1[q]? = H[q]?) → va_S A0 H0 H1 locs1 → W p l e R s m args below meth c H1 locs1 (cells + mc) (slots + ms) Q (F0 m (pc + 3) ls (.long r :: rest))) : W p l e R s m args below meth c H locs cells slots Q (F0 m pc ls st0) := by
  intro T hT X
  rcases hr T hT X with ⟨v, st₀, t, T', L, h0, X', hL, e1, e2, ⟨⟨r, u, hv, hp, hb⟩, hF⟩, st⟩ | ⟨q, st₀, t, T', L, E, ce, h0, X', hL, e1, e2, ⟨u, hp, hb, hF⟩, hce, hcv, hcl, st⟩
  · cases hv
    obtain ⟨k1, k2, k3⟩ := vx_keep h0 e1 hS hA hf hL hF
    obtain ⟨t2, a1, b1⟩ := kk r u t T'.heap (locs ++ L) e1.symm (by rw [← e2]; exact X'.warmed.alike) hp hb k1 k2 k3 T' rfl X'
    exact ⟨t2, st t2 a1, b1⟩
  · obtain ⟨k1, k2, k3⟩ := vx_keep h0 e1 hS hAX hf hL hF
    obtain ⟨t2, a1, b1⟩ := kx E ce q u t T'.heap (locs ++ L) e1.symm (by rw [← e2]; exact X'.warmed.alike) hp hb k1 k2 k3 (by rw [e1]; exact hce) hcv hcl T' rfl X'
    exact ⟨t2, st.trans a1, b1⟩
theorem vx_callf {S SX : Type} {post : UInt32 → S → Prop} {px : SX → Prop} {B : S → State → Prop} {BX : String → SX → State → Prop} {AX : Nat → Prop} (hr : vx_Run p l e R s m args below meth c H locs cells slots mc ms (F0 m pc ls st0) rest (va_Qf post B A1 a) (vx_X px BX AX) free) (hS : va_S A0 H0 H locs) (hA : ∀ q, q < H.size → A1 q → A0 q) (hf : ∀ q, free q → A0 q) (hAX : ∀ q, q < H.size → AX q → A0 q)
    (kx : ∀ (E : String) (ce : Cell) (q9 : Addr) (u : SX) (t : State) (H1 : Heap) (locs1 : List Loc), t.heap = H1 → s.vm.Alike t.vm → px u → BX E u t → H.size ≤ H1.size → (∀ q : Nat, q < H.size → ¬ AX q → H1[q]? = H[q]?) → va_S A0 H0 H1 locs1 → H1[q9]? = some ce → ce.vm = .none → s.vm.findClass E = some ce.cls → vx_W p l e R s m args below meth c H1 locs1 (cells + mc) (slots + ms) Q (F0 m pc ls rest) q9)
    (kk : ∀ (r : UInt32) (u : S) (t : State) (H1 : Heap) (locs1 : List Loc), t.heap = H1 → s.vm.Alike t.vm → post r u → B u t → H.size ≤ H1.size → (∀ q : Nat, q < H.size → ¬ A1 q → H1[q]? = H[q]?) → va_S A0 H0 H1 locs1 → W p l e R s m args below meth c H1 locs1 (cells + mc) (slots + ms) Q (F0 m (pc + 3) ls (.float r :: rest))) : W p l e R s m args below meth c H locs cells slots Q (F0 m pc ls st0) := by
  intro T hT X
  rcases hr T hT X with ⟨v, st₀, t, T', L, h0, X', hL, e1, e2, ⟨⟨r, u, hv, hp, hb⟩, hF⟩, st⟩ | ⟨q, st₀, t, T', L, E, ce, h0, X', hL, e1, e2, ⟨u, hp, hb, hF⟩, hce, hcv, hcl, st⟩
  · cases hv
    obtain ⟨k1, k2, k3⟩ := vx_keep h0 e1 hS hA hf hL hF
    obtain ⟨t2, a1, b1⟩ := kk r u t T'.heap (locs ++ L) e1.symm (by rw [← e2]; exact X'.warmed.alike) hp hb k1 k2 k3 T' rfl X'
    exact ⟨t2, st t2 a1, b1⟩
  · obtain ⟨k1, k2, k3⟩ := vx_keep h0 e1 hS hAX hf hL hF
    obtain ⟨t2, a1, b1⟩ := kx E ce q u t T'.heap (locs ++ L) e1.symm (by rw [← e2]; exact X'.warmed.alike) hp hb k1 k2 k3 (by rw [e1]; exact hce) hcv hcl T' rfl X'
    exact ⟨t2, st.trans a1, b1⟩
theorem vx_calld {S SX : Type} {post : UInt64 → S → Prop} {px : SX → Prop} {B : S → State → Prop} {BX : String → SX → State → Prop} {AX : Nat → Prop} (hr : vx_Run p l e R s m args below meth c H locs cells slots mc ms (F0 m pc ls st0) rest (va_Qd post B A1 a) (vx_X px BX AX) free) (hS : va_S A0 H0 H locs) (hA : ∀ q, q < H.size → A1 q → A0 q) (hf : ∀ q, free q → A0 q) (hAX : ∀ q, q < H.size → AX q → A0 q)
    (kx : ∀ (E : String) (ce : Cell) (q9 : Addr) (u : SX) (t : State) (H1 : Heap) (locs1 : List Loc), t.heap = H1 → s.vm.Alike t.vm → px u → BX E u t → H.size ≤ H1.size → (∀ q : Nat, q < H.size → ¬ AX q → H1[q]? = H[q]?) → va_S A0 H0 H1 locs1 → H1[q9]? = some ce → ce.vm = .none → s.vm.findClass E = some ce.cls → vx_W p l e R s m args below meth c H1 locs1 (cells + mc) (slots + ms) Q (F0 m pc ls rest) q9)
    (kk : ∀ (r : UInt64) (u : S) (t : State) (H1 : Heap) (locs1 : List Loc), t.heap = H1 → s.vm.Alike t.vm → post r u → B u t → H.size ≤ H1.size → (∀ q : Nat, q < H.size → ¬ A1 q → H1[q]? = H[q]?) → va_S A0 H0 H1 locs1 → W p l e R s m args below meth c H1 locs1 (cells + mc) (slots + ms) Q (F0 m (pc + 3) ls (.double r :: rest))) : W p l e R s m args below meth c H locs cells slots Q (F0 m pc ls st0) := by
  intro T hT X
  rcases hr T hT X with ⟨v, st₀, t, T', L, h0, X', hL, e1, e2, ⟨⟨r, u, hv, hp, hb⟩, hF⟩, st⟩ | ⟨q, st₀, t, T', L, E, ce, h0, X', hL, e1, e2, ⟨u, hp, hb, hF⟩, hce, hcv, hcl, st⟩
  · cases hv
    obtain ⟨k1, k2, k3⟩ := vx_keep h0 e1 hS hA hf hL hF
    obtain ⟨t2, a1, b1⟩ := kk r u t T'.heap (locs ++ L) e1.symm (by rw [← e2]; exact X'.warmed.alike) hp hb k1 k2 k3 T' rfl X'
    exact ⟨t2, st t2 a1, b1⟩
  · obtain ⟨k1, k2, k3⟩ := vx_keep h0 e1 hS hAX hf hL hF
    obtain ⟨t2, a1, b1⟩ := kx E ce q u t T'.heap (locs ++ L) e1.symm (by rw [← e2]; exact X'.warmed.alike) hp hb k1 k2 k3 (by rw [e1]; exact hce) hcv hcl T' rfl X'
    exact ⟨t2, st.trans a1, b1⟩
theorem vx_callv {S SX : Type} {post : S → Prop} {px : SX → Prop} {B : S → State → Prop} {BX : String → SX → State → Prop} {AX : Nat → Prop} (hr : vx_Run p l e R s m args below meth c H locs cells slots mc ms (F0 m pc ls st0) rest (va_Qv post B A1 a) (vx_X px BX AX) free) (hS : va_S A0 H0 H locs) (hA : ∀ q, q < H.size → A1 q → A0 q) (hf : ∀ q, free q → A0 q) (hAX : ∀ q, q < H.size → AX q → A0 q)
    (kx : ∀ (E : String) (ce : Cell) (q9 : Addr) (u : SX) (t : State) (H1 : Heap) (locs1 : List Loc), t.heap = H1 → s.vm.Alike t.vm → px u → BX E u t → H.size ≤ H1.size → (∀ q : Nat, q < H.size → ¬ AX q → H1[q]? = H[q]?) → va_S A0 H0 H1 locs1 → H1[q9]? = some ce → ce.vm = .none → s.vm.findClass E = some ce.cls → vx_W p l e R s m args below meth c H1 locs1 (cells + mc) (slots + ms) Q (F0 m pc ls rest) q9)
    (kk : ∀ (u : S) (t : State) (H1 : Heap) (locs1 : List Loc), t.heap = H1 → s.vm.Alike t.vm → post u → B u t → H.size ≤ H1.size → (∀ q : Nat, q < H.size → ¬ A1 q → H1[q]? = H[q]?) → va_S A0 H0 H1 locs1 → W p l e R s m args below meth c H1 locs1 (cells + mc) (slots + ms) Q (F0 m (pc + 3) ls (rest))) : W p l e R s m args below meth c H locs cells slots Q (F0 m pc ls st0) := by
  intro T hT X
  rcases hr T hT X with ⟨v, st₀, t, T', L, h0, X', hL, e1, e2, ⟨⟨u, hv, hp, hb⟩, hF⟩, st⟩ | ⟨q, st₀, t, T', L, E, ce, h0, X', hL, e1, e2, ⟨u, hp, hb, hF⟩, hce, hcv, hcl, st⟩
  · cases hv
    obtain ⟨k1, k2, k3⟩ := vx_keep h0 e1 hS hA hf hL hF
    obtain ⟨t2, a1, b1⟩ := kk u t T'.heap (locs ++ L) e1.symm (by rw [← e2]; exact X'.warmed.alike) hp hb k1 k2 k3 T' rfl X'
    exact ⟨t2, st t2 a1, b1⟩
  · obtain ⟨k1, k2, k3⟩ := vx_keep h0 e1 hS hAX hf hL hF
    obtain ⟨t2, a1, b1⟩ := kx E ce q u t T'.heap (locs ++ L) e1.symm (by rw [← e2]; exact X'.warmed.alike) hp hb k1 k2 k3 (by rw [e1]; exact hce) hcv hcl T' rfl X'
    exact ⟨t2, st.trans a1, b1⟩
/-- caught by the row x of this method's table; the rows ahead don't take it -/
theorem vx_catch {own name : String} {E : String} {ce : Cell} {q : Addr} (hown : s.vm.findClass own = some m.cls) (pre : List ExceptionTableEntry) (x : ExceptionTableEntry) (suf : List ExceptionTableEntry) (hsplit : c.exceptionTable.toList = pre ++ x :: suf)
    (hpass : ∀ z ∈ pre, covers z pc = false ∨ (z.catchType ≠ 0 ∧ ∃ nm : String, (Cond.classLink own z.catchType nm).before args s = true ∧ va_Nc E nm s)) (hx : covers x pc = true) (h0 : x.catchType ≠ 0)
    (hlink : (Cond.classLink own x.catchType name).before args s = true) (hcast : (Cond.castable E name).before args s = true) (hcell : H[q]? = some ce) (hv : ce.vm = .none) (hcl : s.vm.findClass E = some ce.cls)
    (kk : W p l e R s m args below meth c H locs cells slots Q (F0 m x.handlerPc ls [.ref q])) : vx_W p l e R s m args below meth c H locs cells slots Q (F0 m pc ls rest) q := by
  intro T hT X
  have hpl : e.platform.magicAccessors = ({} : Platform).magicAccessors := by rw [X.admits.platform]
  obtain ⟨c3, c4, hc3, hc4, hasg⟩ := Cond.castable_spec hcast
  cases Option.some.inj (hc3.symm.trans hcl)
  obtain ⟨c5, hc5, hcl5⟩ := Cond.classLink_spec hown hlink e.platform hpl
  cases Option.some.inj (hc4.symm.trans hc5)
  obtain ⟨vm', X', st⟩ := X.thenCaughtThrough q (g := F0 m pc ls rest) rfl (Steps.refl _) (by rw [hT]; exact hcell) (by rw [hv]; rfl) (by obtain ⟨k9, h9, -⟩ := Vm.findClass_spec hcl; exact ⟨k9, h9⟩) pre x suf hsplit
    (fun z hz => by
      rcases hpass z hz with h | ⟨hz0, nm, hl1, hn1⟩
      · exact Or.inl h
      · obtain ⟨c6, hc6, hcl6⟩ := Cond.classLink_spec hown hl1 e.platform hpl
        obtain ⟨a8, b8, h1, h2, h3⟩ := hn1
        cases Option.some.inj (h1.symm.trans hcl)
        cases Option.some.inj (h2.symm.trans hc6)
        exact Or.inr ⟨hz0, _, hcl6, h3⟩) hx (Or.inr ⟨h0, c4, hcl5, hasg⟩)
  obtain ⟨t, a1, b1⟩ := kk (T.setVm vm') hT X'
  exact ⟨t, st.trans a1, b1⟩
end Rows
section Ends
variable {p : Program} {l : Launch} {e : Env} {R : Room} {s : State} {m : MethodId} {args : Array Value} {below : List Frame} {meth : Method} {c : Code} {H : Heap} {locs : List Loc} {cells slots : Nat} {Q : State → Prop}
variable {mc ms : Nat} {free : Addr → Prop} {A0 A1 : Nat → Prop} {H0 : Heap} {a : Array Value} {ls : Array Slot} {st0 rest : List Value}
variable {Qc : Array Value → State → Outcome → State → Prop} {XC : String → State → State → Prop}
/-- what a body that may throw owes at its end -/
def vx_MQ (below : List Frame) (Qc : Array Value → State → Outcome → State → Prop) (XC : String → State → State → Prop) (a : Array Value) (s : State) (mc ms : Nat) (free : Addr → Prop) : State → Prop := fun t =>
  ∃ o, t.status = .running ∧ Ended t below o ∧ vx_Q Qc XC mc ms free a s o t
theorem vx_ret {g : JFrame} {mc ms : Nat} (k : W p l e R s m args below meth c H locs cells slots (MQ below Qc args s mc ms free) g) : W p l e R s m args below meth c H locs cells slots (vx_MQ below Qc XC args s mc ms free) g := by
  intro T hT X
  obtain ⟨t, a1, o, b1, b2, b3, b4⟩ := k T hT X
  exact ⟨t, a1, o, b1, b2, Or.inl ⟨b3, b4⟩⟩
/-- not caught here: it goes on to the caller -/
theorem vx_widen {g : JFrame} {q : Addr} {k n : Nat} (h1 : cells ≤ k) (h2 : slots ≤ n) (kk : vx_W p l e R s m args below meth c H locs k n Q g q) : vx_W p l e R s m args below meth c H locs cells slots Q g q := fun T hT X => kk T hT (stand_widen X h1 h2)
theorem vx_out {pc : Nat} {E : String} {ce : Cell} {q : Addr} {mc ms : Nat} (hout : ∀ x ∈ c.exceptionTable.toList, covers x pc = false) (hlocks : meth.locks = false) (hcell : H[q]? = some ce) (hv : ce.vm = .none) (hcl : s.vm.findClass E = some ce.cls)
    (hx : ∀ t : State, t.heap = H → s.vm.Alike t.vm → XC E s t) (hf : ∀ z ∈ locs, free z.base) (hc : cells ≤ mc) (hs : slots ≤ ms) :
    vx_W p l e R s m args below meth c H locs cells slots (vx_MQ below Qc XC args s mc ms free) (F0 m pc ls rest) q := by
  intro T hT X
  obtain ⟨st1, hrun, hend, hW, hsm⟩ := X.leaveThrown q (g := F0 m pc ls rest) rfl rfl rfl hout hlocks
  have hcell9 : (T.setFrames (.throwing q :: below)).heap[q]? = some ce := by
    show T.heap[q]? = some ce
    rw [hT]; exact hcell
  exact ⟨_, st1, .threw q, hrun, hend, Or.inr ⟨q, rfl, E, ce, locs, hx _ hT hW.alike, hcell9, hv, hcl, hW, hsm.mono hc hs, hf⟩⟩
theorem vx_frame {U : State} {k n : Nat} (h : s.sameButNew ({ U with vm := s.vm } : State) locs k n) : s.heap.size ≤ U.heap.size ∧ ∀ q : Nat, q < s.heap.size → (∀ z ∈ locs, z.base ≠ q) → U.heap[q]? = s.heap[q]? := by
  obtain ⟨-, h2, -, -, -, h6⟩ := h
  refine ⟨h2, fun q hq hz => ?_⟩
  obtain ⟨c9, e1, e2, e3, e4⟩ := h6 q _ (Array.getElem?_eq_getElem hq)
  have hs : c9.slots = (s.heap[q]).slots := Array.ext_getElem? fun i => e4 i fun hm => hz _ hm rfl
  have h9 : c9 = s.heap[q] := by
    rw [hs] at e2
    exact e2
  have e5 : U.heap[q]? = some c9 := e1
  rw [e5, h9, Array.getElem?_eq_getElem hq]
/-- the words of a throw but the four that speak of the heap -/
def vx_no (w : Cond) : Bool := decide (w ≠ .isRef (.static Bundle.tN "UNASSIGNED_STACK" Bundle.steD)) && decide (w ≠ .isRef (.static Bundle.tN "SUPPRESSED_SENTINEL" Bundle.listD)) && decide (w ≠ .laysStatic Bundle.tN "UNASSIGNED_STACK" Bundle.steD) && decide (w ≠ .laysStatic Bundle.tN "SUPPRESSED_SENTINEL" Bundle.listD)
def vx_at0 (own : String) (ic : Nat) (X : String) (names : List String) : List Cond := (Bundle.ownAtoms0 own ic X names).filter vx_no
def vx_atS (own : String) (ic : Nat) (X : String) (names : List String) : List Cond := (Bundle.ownAtoms own ic X names).filter vx_no
/-- a word that the tables alone decide, or a good one -/
def vx_ot (w : Cond) : Bool := w.onTables || goodWord w
theorem vx_ot_at {args a' : Array Value} {s U : State} {w : Cond} (hW : s.WarmedH U.vm) (hvm : s.vm = U.vm) (hg : vx_ot w = true) (h : w.before args s = true) : w.before a' U = true := by
  simp only [vx_ot, Bool.or_eq_true] at hg
  rcases hg with hg | hg
  · exact va_tabs hg hvm h
  · exact word_at hW (good_of_word hg) h
/-- a list's words: the good ones out of the method's own list, the others by premises of their own -/
theorem vx_hat {args : Array Value} {s : State} {L B : List Cond} (h1 : ∀ w ∈ L.filter goodWord, w.before args s = true) (h2 : ∀ w ∈ L.filter (fun w => !goodWord w), w ∈ B) (h3 : ∀ w ∈ B, w.before args s = true) : ∀ w ∈ L, w.before args s = true := by
  intro w hw
  by_cases g : goodWord w = true
  · exact h1 w (List.mem_filter.mpr ⟨hw, g⟩)
  · refine h3 w (h2 w (List.mem_filter.mpr ⟨hw, ?_⟩))
    show (!goodWord w) = true
    cases hgw : goodWord w
    · rfl
    · exact absurd hgw g
theorem vx_c {args : Array Value} {s : State} {w : Cond} {B : List Cond} (h : w.before args s = true) (t : ∀ w ∈ B, w.before args s = true) : ∀ w' ∈ w :: B, w'.before args s = true := fun w' h' => (List.mem_cons.mp h').elim (fun e => by rw [e]; exact h) (t w')
theorem vx_n {args : Array Value} {s : State} : ∀ w ∈ ([] : List Cond), w.before args s = true := fun _ h => nomatch h
theorem vx_own {args : Array Value} {s : State} {L : List Cond} (h1 : ∀ w ∈ L.filter vx_no, w.before args s = true)
    (hU : (Cond.isRef (.static Bundle.tN "UNASSIGNED_STACK" Bundle.steD)).before args s = true) (hN : (Cond.isRef (.static Bundle.tN "SUPPRESSED_SENTINEL" Bundle.listD)).before args s = true)
    (lU : (Cond.laysStatic Bundle.tN "UNASSIGNED_STACK" Bundle.steD).before args s = true) (lN : (Cond.laysStatic Bundle.tN "SUPPRESSED_SENTINEL" Bundle.listD).before args s = true) : ∀ w ∈ L, w.before args s = true := by
  intro w hw
  by_cases e1 : w = .isRef (.static Bundle.tN "UNASSIGNED_STACK" Bundle.steD)
  · rw [e1]; exact hU
  · by_cases e2 : w = .isRef (.static Bundle.tN "SUPPRESSED_SENTINEL" Bundle.listD)
    · rw [e2]; exact hN
    · by_cases e3 : w = .laysStatic Bundle.tN "UNASSIGNED_STACK" Bundle.steD
      · rw [e3]; exact lU
      · by_cases e4 : w = .laysStatic Bundle.tN "SUPPRESSED_SENTINEL" Bundle.listD
        · rw [e4]; exact lN
        · exact h1 w (List.mem_filter.mpr ⟨hw, by unfold vx_no; rw [decide_eq_true e1, decide_eq_true e2, decide_eq_true e3, decide_eq_true e4]; rfl⟩)
/-- where a static field lies, its class's statics cell in H -/
def vx_L (C n d : String) (A : Nat → Prop) (U : State) (H : Heap) : Prop := ∃ (c : ClassId) (k : Class) (i : Nat) (f : Field) (a : Nat) (cell : Cell), U.vm.findClass C = some c ∧ U.fieldFound? C n d = some (c, k, i, f) ∧ f.isStatic = true ∧ k.statics = some a ∧ H[a]? = some cell ∧ cell.vm.isStatics = true ∧ cell.cls = c ∧ f.slot < cell.slots.size ∧ k.staticTypes[f.slot]? = some f.type ∧ ¬ A a
theorem vx_L.moved {C n d : String} {A : Nat → Prop} {u U : State} {H : Heap} (hvm : u.vm.Alike U.vm) (h : vx_L C n d A u H) : vx_L C n d A U H := by
  obtain ⟨c, k, i, f, a, cell, h1, h2, h3, h4, h5, h6, h7, h8, h9, h10⟩ := h
  obtain ⟨k', hi', he⟩ := State.fieldFound?_setVm hvm h2
  exact ⟨c, k', i, f, a, cell, by rw [hvm.findClass]; exact h1, hi', h3, by rw [he]; exact h4, h5, h6, h7, h8, by rw [he]; exact h9, h10⟩
theorem vx_L.kept {C n d : String} {A : Nat → Prop} {U : State} {H H1 : Heap} (h : vx_L C n d A U H) (hq : ∀ a : Nat, a < H.size → ¬ A a → H1[a]? = H[a]?) : vx_L C n d A U H1 := by
  obtain ⟨c, k, i, f, a, cell, h1, h2, h3, h4, h5, h6, h7, h8, h9, h10⟩ := h
  exact ⟨c, k, i, f, a, cell, h1, h2, h3, h4, by rw [hq a (Array.getElem?_eq_some_iff.mp h5).1 h10]; exact h5, h6, h7, h8, h9, h10⟩
theorem vx_L.narrow {C n d : String} {A B : Nat → Prop} {U : State} {H : Heap} (h : vx_L C n d A U H) (hAB : ∀ q, B q → A q) : vx_L C n d B U H := by
  obtain ⟨c, k, i, f, a, cell, h1, h2, h3, h4, h5, h6, h7, h8, h9, h10⟩ := h
  exact ⟨c, k, i, f, a, cell, h1, h2, h3, h4, h5, h6, h7, h8, h9, fun z => h10 (hAB _ z)⟩
theorem vx_L.word {C n d : String} {A : Nat → Prop} {s : State} {args : Array Value} (h : vx_L C n d A s s.heap) : (Cond.laysStatic C n d).before args s = true := by
  obtain ⟨c, k, i, f, a, cell, h1, h2, h3, h4, h5, h6, h7, h8, h9, -⟩ := h
  show (Cond.laysStatic C n d).holds args s none s [] = true
  exact Cond.laysStatic_of h1 h2 h3 h4 h5 h6 h7 h8 h9
/-- .. and what it holds: null or some reference -/
def vx_Zq (C n d : String) (A : Nat → Prop) (U : State) (H : Heap) : Prop := va_Zq C n d A U H ∧ vx_L C n d A U H
theorem vx_Zq.moved {C n d : String} {A : Nat → Prop} {u U : State} {H : Heap} (hvm : u.vm.Alike U.vm) (h : vx_Zq C n d A u H) : vx_Zq C n d A U H := ⟨va_Zq.moved hvm h.1, vx_L.moved hvm h.2⟩
theorem vx_Zq.kept {C n d : String} {A : Nat → Prop} {U : State} {H H1 : Heap} (h : vx_Zq C n d A U H) (hq : ∀ a : Nat, a < H.size → ¬ A a → H1[a]? = H[a]?) : vx_Zq C n d A U H1 := ⟨va_Zq.kept h.1 hq, vx_L.kept h.2 hq⟩
theorem vx_Zq.narrow {C n d : String} {A B : Nat → Prop} {U : State} {H : Heap} (h : vx_Zq C n d A U H) (hAB : ∀ q, B q → A q) : vx_Zq C n d B U H := ⟨va_Zq.narrow h.1 hAB, vx_L.narrow h.2 hAB⟩
theorem vx_Zqof {args : Array Value} {s : State} {C n d : String} {A : Nat → Prop} (hl : (Cond.laysStatic C n d).before args s = true) (hini : (Cond.initialized C).before args s = true) (h : (Cond.isRef (.static C n d)).before args s = true) (hA : ∀ a : Nat, a < s.heap.size → ¬ A a) : vx_Zq C n d A s s.heap := by
  refine ⟨va_Zqof hl hini h hA, ?_⟩
  obtain ⟨c, k, i, f, a, cell, h1, h2, h3, h4, h5, h6, h7, h8, h9⟩ := Cond.laysStatic_spec hl
  exact ⟨c, k, i, f, a, cell, h1, h2, h3, h4, h5, h6, h7, h8, h9, hA a (Array.getElem?_eq_some_iff.mp h5).1⟩
theorem vx_isRef {C n d : String} {v : Value} {A : Nat → Prop} {s : State} {args : Array Value} (h : va_Z C n d v A s s.heap) (hv : v.isRef = true) : (Cond.isRef (.static C n d)).before args s = true := by
  obtain ⟨cf, kf, fi, f, a, cell, h1, h2, h3, h4, h5, h6, h7, -⟩ := h
  have he : (Term.static C n d).eval args s none [] s = some v := by
    simp [Term.eval, State.fieldNamed?, h1, h2, h4, h5, h6, h7]
  simp only [Cond.before, Cond.holds, Cond.value, he]
  cases v <;> simp_all [Value.isRef]
theorem vx_isRefq {C n d : String} {A : Nat → Prop} {s : State} {args : Array Value} (h : va_Zq C n d A s s.heap) : (Cond.isRef (.static C n d)).before args s = true := by
  rcases h with h | ⟨t, h⟩
  · exact vx_isRef h rfl
  · exact vx_isRef h rfl
/-- the same frame, seen from here: as if the method were called anew in this heap -/
theorem vx_rebase {T : State} (X : Stand p l e R s m args below meth c T locs cells slots) {R' : Room} (hf : R'.frames ≤ R.frames) (hl : R'.locals ≤ R.locals) (hc : cells + R'.cells ≤ R.cells) (hs : slots + R'.slots ≤ R.slots) :
    Stand p l e R' ((T.setVm s.vm).setFrames (.invoking m args :: below)) m args below meth c T [] 0 0 := by
  have htop : (T.setVm s.vm).topJava?.isSome := X.here.top
  have hF : ((T.setVm s.vm).setFrames (.invoking m args :: below)).frames = .invoking m args :: below := State.frames_setFrames _ (State.cur_lt_of_top htop)
  obtain ⟨g₀, hg0⟩ := Option.isSome_iff_exists.mp htop
  obtain ⟨r, hr⟩ := State.topJava?_eq_some.mp hg0
  have hl9 : e.platform.stackLimits (T.setVm s.vm).me = e.platform.stackLimits s.me := X.limits
  have hb9 : (T.setVm s.vm).me.stackBytes = s.me.stackBytes := X.bytes
  refine ⟨X.admits, X.cas, X.clock, hF, ?_, X.hears, X.method, X.code, X.here, X.tail, X.warmed, ?_, ?_, ?_⟩
  · have h := X.room
    have hU : ((T.setVm s.vm).setFrames (.invoking m args :: below)).localsInUse = s.localsInUse := by
      rw [State.localsInUse_invoking hF (meth := meth) (c := c) X.method X.code, State.localsInUse_invoking X.frames X.method X.code]
    simp only [State.hasRoom, Bool.and_eq_true, decide_eq_true_eq] at h ⊢
    obtain ⟨⟨⟨⟨h1, h2, h3, h4, h5, h6⟩, h7⟩, h8⟩, h9⟩ := h
    rw [X.frames, List.length_cons] at h2 h3
    have q1 := X.heapSize
    have q2 := X.used
    simp only [hF, hU, List.length_cons, State.stackLimits_setFrames, State.stackBytes_setFrames, hl9, hb9]
    refine ⟨⟨⟨⟨by omega, by omega, by omega, by omega, by omega, h6⟩, ?_⟩, ?_⟩, X.book⟩
    · show T.heap.size + R'.cells ≤ e.platform.maxCells
      omega
    · show T.slotsUsed + R'.slots ≤ e.platform.maxSlots
      omega
  · rw [State.stackLimits_setFrames]; rfl
  · rw [State.stackBytes_setFrames]; rfl
  · refine ⟨?_, Nat.le_refl _, Nat.le_refl _, ?_, ?_, fun a c9 h9 => ⟨c9, h9, rfl, rfl, fun _ _ => rfl⟩⟩
    · obtain ⟨t, ht, -⟩ := State.frames_cons hr
      show T.setVm s.vm = { ((T.setVm s.vm).setFrames (.invoking m args :: below)).setFrames (T.setVm s.vm).frames with heap := T.heap, slotsUsed := T.slotsUsed }
      rw [State.setFrames_setFrames, State.setFrames_self ht]
      rfl
    · show T.slotsUsed = T.slotsUsed + ((T.heap.toList.drop T.heap.size).map (·.slots.size)).sum
      rw [List.drop_eq_nil_of_le (Nat.le_of_eq Array.length_toList)]
      rfl
    · show ((T.heap.toList.drop T.heap.size).map (·.slots.size)).sum ≤ 0
      rw [List.drop_eq_nil_of_le (Nat.le_of_eq Array.length_toList)]
      exact Nat.le_refl _
/-- 'throw new E()': new; dup; invokespecial; athrow -/
theorem vx_throw0 {cc : ByteArray} {pc : Nat} (hexec : p.tables.exec = Jvm.exec) (hb : c.code = cc) (hl : l.stackTraces = false) {own cls : String} {names : List String} {ik ic mc ms : Nat} {A : Nat → Prop}
    (hown : s.vm.findClass own = some m.cls) (hcls : Bundle.fit cls = true) (hnames : ∀ n ∈ names, Bundle.fit n = true)
    (hk : (Cond.classLink own ik cls).before args s = true) (hini : (Cond.initialized cls).before args s = true) (hat : ∀ w ∈ vx_at0 own ic cls names, w.before args s = true)
    (hgood : ∀ w ∈ Cond.classLink own ik cls :: Cond.initialized cls :: vx_at0 own ic cls names, vx_ot w = true)
    (hU : vx_Zq Bundle.tN "UNASSIGNED_STACK" Bundle.steD A s s.heap) (hN : vx_Zq Bundle.tN "SUPPRESSED_SENTINEL" Bundle.listD A s s.heap) (hS : va_S A s.heap H locs) (hsize : ls.size = c.maxLocals)
    (d0 : decode cc pc = .ok (.new ik, 3)) (d3 : decode cc (pc + 3) = .ok (.dup, 1)) (d4 : decode cc (pc + 4) = .ok (.invokespecial ic, 3)) (d7 : decode cc (pc + 7) = .ok (.athrow, 1))
    (hout : ∀ x ∈ c.exceptionTable.toList, covers x (pc + 7) = false)
    (hRframes : names.length + 3 < R.frames) (hRlocals : (rest.map fun v => v.category).sum + (13 * (names.length + 1) + 42) ≤ R.locals) (hRcells : cells + 1 ≤ R.cells) (hRslots : slots + 6 ≤ R.slots) (hlocks : meth.locks = false)
    (hx : ∀ t : State, s.vm.Alike t.vm → H.size ≤ t.heap.size → (∀ q : Nat, q < H.size → t.heap[q]? = H[q]?) → XC cls s t)
    (hf : ∀ z ∈ locs, free z.base) (hc : cells + 1 ≤ mc) (hs : slots + 6 ≤ ms) :
    W p l e R s m args below meth c H locs cells slots (vx_MQ below Qc XC args s mc ms free) (F0 m pc ls rest) := by
  intro T hT X
  have htr : e.platform.stackTraces = false := (show e.platform.stackTraces = l.stackTraces by rw [X.admits.platform]).trans hl
  have Y := vx_rebase X (R' := { frames := R.frames, locals := R.locals, cells := 1, slots := 6 }) (Nat.le_refl _) (Nat.le_refl _) hRcells hRslots
  obtain ⟨s', hA⟩ : ∃ z, z = (T.setVm s.vm).setFrames (.invoking m args :: below) := ⟨_, rfl⟩
  rw [← hA] at Y
  have hvm : s'.vm = s.vm := by rw [hA]; rfl
  have hhp : s'.heap = H := by rw [hA]; exact hT
  have hW0 : s.WarmedH s'.vm := by rw [hvm]; exact State.WarmedH.refl s
  have hat' : ∀ w ∈ vx_at0 own ic cls names, w.before args s' = true := fun w hw => vx_ot_at hW0 hvm.symm (hgood w (List.mem_cons_of_mem _ (List.mem_cons_of_mem _ hw))) (hat w hw)
  have hk' : (Cond.classLink own ik cls).before args s' = true := vx_ot_at hW0 hvm.symm (hgood _ List.mem_cons_self) hk
  have hini' : (Cond.initialized cls).before args s' = true := vx_ot_at hW0 hvm.symm (hgood _ (List.mem_cons_of_mem _ List.mem_cons_self)) hini
  have hU' : vx_Zq Bundle.tN "UNASSIGNED_STACK" Bundle.steD A s' s'.heap := by rw [hhp]; exact vx_Zq.moved hW0.alike (hU.kept hS.2.1)
  have hN' : vx_Zq Bundle.tN "SUPPRESSED_SENTINEL" Bundle.listD A s' s'.heap := by rw [hhp]; exact vx_Zq.moved hW0.alike (hN.kept hS.2.1)
  have h : ∀ w ∈ Bundle.ownAtoms0 own ic cls names, w.before args s' = true := vx_own hat' (vx_isRefq hU'.1) (vx_isRefq hN'.1) hU'.2.word hN'.2.word
  have hown' : s'.vm.findClass own = some m.cls := by rw [hvm]; exact hown
  have hins : (Cond.instantiable cls 6).before args s' = true := h _ (by simp [Bundle.ownAtoms0])
  obtain ⟨vm₁, cX, kX, hfX, hkX, -, -, X₁, st1⟩ := Y.newCold hexec (own := own) (C := cls) (index := ik) (n := 6) hown' hk' hins hini'
    (g := F0 m pc ls rest) rfl (by rw [hb]; exact d0) (Nat.le_refl _) (Nat.le_refl _)
  generalize hT1 : (T.setVm vm₁).pushCell { cls := cX, slots := kX.instanceTypes.map defaultValue, vm := .none } = T1 at X₁ st1
  have hcat : (Value.ref T.heap.size).category = 1 := rfl
  have hcellA : T1.heap[T.heap.size]? = some (freshCell cX kX) := by rw [← hT1]; exact State.heap_pushCell_size _ _
  have d3' : decode c.code (pc + 3) = .ok (.dup, 1) := by rw [hb]; exact d3
  obtain ⟨U, hsteps, hrun, hend, hW, hsame, ce, hce, hO⟩ := X₁.ctorThrow0 hexec htr (own := own) (cls := cls) (names := names) (ic := ic) hown' hcls hnames h (fun x hx => nomatch hx) hfX hkX hcellA (by rw [hhp, hT]; exact Nat.le_refl _)
    (g := { method := m, pc := pc + 4, locals := ls, stack := .ref T.heap.size :: .ref T.heap.size :: rest, locked := none }) rfl hsize rfl rfl (rest := rest) rfl
    (by rw [hb]; exact d4) (by rw [hb]; exact d7) hout hRframes (by simp only [List.map_cons, List.sum_cons, hcat]; omega) hlocks
  obtain ⟨f1, f2⟩ := vx_frame hsame
  rw [hhp] at f1 f2
  have hWs : s.WarmedH U.vm := State.WarmedH.trans hW0 hW
  have hcl : s.vm.findClass cls = some ce.cls := by
    have h9 := hO.cls
    rw [hvm] at h9
    exact h9
  have hall : s.sameButNew ({ U with vm := s.vm } : State) locs mc ms := by
    subst hA
    obtain ⟨e1, e2⟩ := hsame
    rw [State.setFrames_setFrames] at e1
    have h2 : (T.setVm s.vm).sameButNew ({ U with vm := s.vm } : State) [] (0 + 1) (0 + 6) := ⟨e1, e2⟩
    have h3 := X.same.trans h2
    rw [List.append_nil] at h3
    exact h3.mono hc hs
  refine ⟨U, ?_, .threw T.heap.size, hrun, hend, Or.inr ⟨T.heap.size, rfl, cls, ce, locs, hx U hWs.alike f1 (fun q hq => f2 q hq (fun z hz => nomatch hz)), hce, hO.vm, hcl, hWs, hall, hf⟩⟩
  refine st1 _ ?_
  show Steps p.tables e below (T1.setTop { method := m, pc := pc + 3, locals := ls, stack := .ref T.heap.size :: rest, locked := none }) _
  jvm_step X₁.here [X₁.here.top, hexec, d3', Value.category]
  exact hsteps
/-- 'throw new E("text")': new; dup; ldc; invokespecial; athrow -/
theorem vx_throwS {cc : ByteArray} {pc : Nat} (hexec : p.tables.exec = Jvm.exec) (hb : c.code = cc) (hl : l.stackTraces = false) {own cls text : String} {names : List String} {ik is ic mc ms sa : Nat} {A : Nat → Prop}
    (hown : s.vm.findClass own = some m.cls) (hcls : Bundle.fit cls = true) (hnames : ∀ n ∈ names, Bundle.fit n = true)
    (hk : (Cond.classLink own ik cls).before args s = true) (hini : (Cond.initialized cls).before args s = true) (hstr : vk_R own is text sa s) (hat : ∀ w ∈ vx_atS own ic cls names, w.before args s = true)
    (hgood : ∀ w ∈ Cond.classLink own ik cls :: Cond.initialized cls :: vx_atS own ic cls names, vx_ot w = true)
    (hU : vx_Zq Bundle.tN "UNASSIGNED_STACK" Bundle.steD A s s.heap) (hN : vx_Zq Bundle.tN "SUPPRESSED_SENTINEL" Bundle.listD A s s.heap) (hS : va_S A s.heap H locs) (hsize : ls.size = c.maxLocals)
    (d0 : decode cc pc = .ok (.new ik, 3)) (d3 : decode cc (pc + 3) = .ok (.dup, 1)) (d4 : decode cc (pc + 4) = .ok (.ldc is, 2)) (d6 : decode cc (pc + 6) = .ok (.invokespecial ic, 3)) (d9 : decode cc (pc + 9) = .ok (.athrow, 1))
    (hout : ∀ x ∈ c.exceptionTable.toList, covers x (pc + 9) = false)
    (hRframes : names.length + 3 < R.frames) (hRlocals : (rest.map fun v => v.category).sum + (13 * (names.length + 1) + 43) ≤ R.locals) (hRcells : cells + 1 ≤ R.cells) (hRslots : slots + 6 ≤ R.slots) (hlocks : meth.locks = false)
    (hx : ∀ t : State, s.vm.Alike t.vm → H.size ≤ t.heap.size → (∀ q : Nat, q < H.size → t.heap[q]? = H[q]?) → XC cls s t)
    (hf : ∀ z ∈ locs, free z.base) (hc : cells + 1 ≤ mc) (hs : slots + 6 ≤ ms) :
    W p l e R s m args below meth c H locs cells slots (vx_MQ below Qc XC args s mc ms free) (F0 m pc ls rest) := by
  intro T hT X
  have htr : e.platform.stackTraces = false := (show e.platform.stackTraces = l.stackTraces by rw [X.admits.platform]).trans hl
  have Y := vx_rebase X (R' := { frames := R.frames, locals := R.locals, cells := 1, slots := 6 }) (Nat.le_refl _) (Nat.le_refl _) hRcells hRslots
  obtain ⟨s', hA⟩ : ∃ z, z = (T.setVm s.vm).setFrames (.invoking m args :: below) := ⟨_, rfl⟩
  rw [← hA] at Y
  have hvm : s'.vm = s.vm := by rw [hA]; rfl
  have hhp : s'.heap = H := by rw [hA]; exact hT
  have hW0 : s.WarmedH s'.vm := by rw [hvm]; exact State.WarmedH.refl s
  have hat' : ∀ w ∈ vx_atS own ic cls names, w.before args s' = true := fun w hw => vx_ot_at hW0 hvm.symm (hgood w (List.mem_cons_of_mem _ (List.mem_cons_of_mem _ hw))) (hat w hw)
  have hk' : (Cond.classLink own ik cls).before args s' = true := vx_ot_at hW0 hvm.symm (hgood _ List.mem_cons_self) hk
  have hini' : (Cond.initialized cls).before args s' = true := vx_ot_at hW0 hvm.symm (hgood _ (List.mem_cons_of_mem _ List.mem_cons_self)) hini
  have hU' : vx_Zq Bundle.tN "UNASSIGNED_STACK" Bundle.steD A s' s'.heap := by rw [hhp]; exact vx_Zq.moved hW0.alike (hU.kept hS.2.1)
  have hN' : vx_Zq Bundle.tN "SUPPRESSED_SENTINEL" Bundle.listD A s' s'.heap := by rw [hhp]; exact vx_Zq.moved hW0.alike (hN.kept hS.2.1)
  have h : ∀ w ∈ Bundle.ownAtoms own ic cls names, w.before args s' = true := vx_own hat' (vx_isRefq hU'.1) (vx_isRefq hN'.1) hU'.2.word hN'.2.word
  have hown' : s'.vm.findClass own = some m.cls := by rw [hvm]; exact hown
  have hins : (Cond.instantiable cls 6).before args s' = true := h _ (by simp [Bundle.ownAtoms])
  obtain ⟨vm₁, cX, kX, hfX, hkX, -, -, X₁, st1⟩ := Y.newCold hexec (own := own) (C := cls) (index := ik) (n := 6) hown' hk' hins hini'
    (g := F0 m pc ls rest) rfl (by rw [hb]; exact d0) (Nat.le_refl _) (Nat.le_refl _)
  generalize hT1 : (T.setVm vm₁).pushCell { cls := cX, slots := kX.instanceTypes.map defaultValue, vm := .none } = T1 at X₁ st1
  have hcat : (Value.ref T.heap.size).category = 1 := rfl
  have hcellA : T1.heap[T.heap.size]? = some (freshCell cX kX) := by rw [← hT1]; exact State.heap_pushCell_size _ _
  have d3' : decode c.code (pc + 3) = .ok (.dup, 1) := by rw [hb]; exact d3
  have d4' : decode c.code (pc + 4) = .ok (.ldc is, 2) := by rw [hb]; exact d4
  have hstr' : vk_R own is text sa s' := vk_R.warm hW0 hstr
  obtain ⟨U, hsteps, hrun, hend, hW, hsame, ce, hce, hO⟩ := X₁.ctorThrowS hexec htr (own := own) (cls := cls) (names := names) (ic := ic) hown' hcls hnames h (fun x hx => nomatch hx) hfX hkX hcellA (by rw [hhp, hT]; exact Nat.le_refl _) (msg := .ref sa) rfl
    (g := { method := m, pc := pc + 6, locals := ls, stack := .ref sa :: .ref T.heap.size :: .ref T.heap.size :: rest, locked := none }) rfl hsize rfl rfl (rest := rest) rfl
    (by rw [hb]; exact d6) (by rw [hb]; exact d9) hout hRframes (by simp only [List.map_cons, List.sum_cons, hcat]; omega) hlocks
  obtain ⟨f1, f2⟩ := vx_frame hsame
  rw [hhp] at f1 f2
  have hWs : s.WarmedH U.vm := State.WarmedH.trans hW0 hW
  have hcl : s.vm.findClass cls = some ce.cls := by
    have h9 := hO.cls
    rw [hvm] at h9
    exact h9
  have hall : s.sameButNew ({ U with vm := s.vm } : State) locs mc ms := by
    subst hA
    obtain ⟨e1, e2⟩ := hsame
    rw [State.setFrames_setFrames] at e1
    have h2 : (T.setVm s.vm).sameButNew ({ U with vm := s.vm } : State) [] (0 + 1) (0 + 6) := ⟨e1, e2⟩
    have h3 := X.same.trans h2
    rw [List.append_nil] at h3
    exact h3.mono hc hs
  refine ⟨U, ?_, .threw T.heap.size, hrun, hend, Or.inr ⟨T.heap.size, rfl, cls, ce, locs, hx U hWs.alike f1 (fun q hq => f2 q hq (fun z hz => nomatch hz)), hce, hO.vm, hcl, hWs, hall, hf⟩⟩
  refine st1 _ ?_
  show Steps p.tables e below (T1.setTop { method := m, pc := pc + 3, locals := ls, stack := .ref T.heap.size :: rest, locked := none }) _
  jvm_step X₁.here [X₁.here.top, hexec, d3', Value.category]
  exact X₁.ldcString hexec (own := own) (text := text) (index := is) (a := sa) hown' hstr'.1 hstr'.2
    (g := { method := m, pc := pc + 4, locals := ls, stack := .ref T.heap.size :: .ref T.heap.size :: rest, locked := none }) rfl d4' _ hsteps
/-- 'throw new E("text")', the text by a wide index -/
theorem vx_throwSW {cc : ByteArray} {pc : Nat} (hexec : p.tables.exec = Jvm.exec) (hb : c.code = cc) (hl : l.stackTraces = false) {own cls text : String} {names : List String} {ik is ic mc ms sa : Nat} {A : Nat → Prop}
    (hown : s.vm.findClass own = some m.cls) (hcls : Bundle.fit cls = true) (hnames : ∀ n ∈ names, Bundle.fit n = true)
    (hk : (Cond.classLink own ik cls).before args s = true) (hini : (Cond.initialized cls).before args s = true) (hstr : vk_R own is text sa s) (hat : ∀ w ∈ vx_atS own ic cls names, w.before args s = true)
    (hgood : ∀ w ∈ Cond.classLink own ik cls :: Cond.initialized cls :: vx_atS own ic cls names, vx_ot w = true)
    (hU : vx_Zq Bundle.tN "UNASSIGNED_STACK" Bundle.steD A s s.heap) (hN : vx_Zq Bundle.tN "SUPPRESSED_SENTINEL" Bundle.listD A s s.heap) (hS : va_S A s.heap H locs) (hsize : ls.size = c.maxLocals)
    (d0 : decode cc pc = .ok (.new ik, 3)) (d3 : decode cc (pc + 3) = .ok (.dup, 1)) (d4 : decode cc (pc + 4) = .ok (.ldc_w is, 3)) (d7 : decode cc (pc + 7) = .ok (.invokespecial ic, 3)) (d10 : decode cc (pc + 10) = .ok (.athrow, 1))
    (hout : ∀ x ∈ c.exceptionTable.toList, covers x (pc + 10) = false)
    (hRframes : names.length + 3 < R.frames) (hRlocals : (rest.map fun v => v.category).sum + (13 * (names.length + 1) + 43) ≤ R.locals) (hRcells : cells + 1 ≤ R.cells) (hRslots : slots + 6 ≤ R.slots) (hlocks : meth.locks = false)
    (hx : ∀ t : State, s.vm.Alike t.vm → H.size ≤ t.heap.size → (∀ q : Nat, q < H.size → t.heap[q]? = H[q]?) → XC cls s t)
    (hf : ∀ z ∈ locs, free z.base) (hc : cells + 1 ≤ mc) (hs : slots + 6 ≤ ms) :
    W p l e R s m args below meth c H locs cells slots (vx_MQ below Qc XC args s mc ms free) (F0 m pc ls rest) := by
  intro T hT X
  have htr : e.platform.stackTraces = false := (show e.platform.stackTraces = l.stackTraces by rw [X.admits.platform]).trans hl
  have Y := vx_rebase X (R' := { frames := R.frames, locals := R.locals, cells := 1, slots := 6 }) (Nat.le_refl _) (Nat.le_refl _) hRcells hRslots
  obtain ⟨s', hA⟩ : ∃ z, z = (T.setVm s.vm).setFrames (.invoking m args :: below) := ⟨_, rfl⟩
  rw [← hA] at Y
  have hvm : s'.vm = s.vm := by rw [hA]; rfl
  have hhp : s'.heap = H := by rw [hA]; exact hT
  have hW0 : s.WarmedH s'.vm := by rw [hvm]; exact State.WarmedH.refl s
  have hat' : ∀ w ∈ vx_atS own ic cls names, w.before args s' = true := fun w hw => vx_ot_at hW0 hvm.symm (hgood w (List.mem_cons_of_mem _ (List.mem_cons_of_mem _ hw))) (hat w hw)
  have hk' : (Cond.classLink own ik cls).before args s' = true := vx_ot_at hW0 hvm.symm (hgood _ List.mem_cons_self) hk
  have hini' : (Cond.initialized cls).before args s' = true := vx_ot_at hW0 hvm.symm (hgood _ (List.mem_cons_of_mem _ List.mem_cons_self)) hini
  have hU' : vx_Zq Bundle.tN "UNASSIGNED_STACK" Bundle.steD A s' s'.heap := by rw [hhp]; exact vx_Zq.moved hW0.alike (hU.kept hS.2.1)
  have hN' : vx_Zq Bundle.tN "SUPPRESSED_SENTINEL" Bundle.listD A s' s'.heap := by rw [hhp]; exact vx_Zq.moved hW0.alike (hN.kept hS.2.1)
  have h : ∀ w ∈ Bundle.ownAtoms own ic cls names, w.before args s' = true := vx_own hat' (vx_isRefq hU'.1) (vx_isRefq hN'.1) hU'.2.word hN'.2.word
  have hown' : s'.vm.findClass own = some m.cls := by rw [hvm]; exact hown
  have hins : (Cond.instantiable cls 6).before args s' = true := h _ (by simp [Bundle.ownAtoms])
  obtain ⟨vm₁, cX, kX, hfX, hkX, -, -, X₁, st1⟩ := Y.newCold hexec (own := own) (C := cls) (index := ik) (n := 6) hown' hk' hins hini'
    (g := F0 m pc ls rest) rfl (by rw [hb]; exact d0) (Nat.le_refl _) (Nat.le_refl _)
  generalize hT1 : (T.setVm vm₁).pushCell { cls := cX, slots := kX.instanceTypes.map defaultValue, vm := .none } = T1 at X₁ st1
  have hcat : (Value.ref T.heap.size).category = 1 := rfl
  have hcellA : T1.heap[T.heap.size]? = some (freshCell cX kX) := by rw [← hT1]; exact State.heap_pushCell_size _ _
  have d3' : decode c.code (pc + 3) = .ok (.dup, 1) := by rw [hb]; exact d3
  have d4' : decode c.code (pc + 4) = .ok (.ldc_w is, 3) := by rw [hb]; exact d4
  have hstr' : vk_R own is text sa s' := vk_R.warm hW0 hstr
  obtain ⟨U, hsteps, hrun, hend, hW, hsame, ce, hce, hO⟩ := X₁.ctorThrowS hexec htr (own := own) (cls := cls) (names := names) (ic := ic) hown' hcls hnames h (fun x hx => nomatch hx) hfX hkX hcellA (by rw [hhp, hT]; exact Nat.le_refl _) (msg := .ref sa) rfl
    (g := { method := m, pc := pc + 7, locals := ls, stack := .ref sa :: .ref T.heap.size :: .ref T.heap.size :: rest, locked := none }) rfl hsize rfl rfl (rest := rest) rfl
    (by rw [hb]; exact d7) (by rw [hb]; exact d10) hout hRframes (by simp only [List.map_cons, List.sum_cons, hcat]; omega) hlocks
  obtain ⟨f1, f2⟩ := vx_frame hsame
  rw [hhp] at f1 f2
  have hWs : s.WarmedH U.vm := State.WarmedH.trans hW0 hW
  have hcl : s.vm.findClass cls = some ce.cls := by
    have h9 := hO.cls
    rw [hvm] at h9
    exact h9
  have hall : s.sameButNew ({ U with vm := s.vm } : State) locs mc ms := by
    subst hA
    obtain ⟨e1, e2⟩ := hsame
    rw [State.setFrames_setFrames] at e1
    have h2 : (T.setVm s.vm).sameButNew ({ U with vm := s.vm } : State) [] (0 + 1) (0 + 6) := ⟨e1, e2⟩
    have h3 := X.same.trans h2
    rw [List.append_nil] at h3
    exact h3.mono hc hs
  refine ⟨U, ?_, .threw T.heap.size, hrun, hend, Or.inr ⟨T.heap.size, rfl, cls, ce, locs, hx U hWs.alike f1 (fun q hq => f2 q hq (fun z hz => nomatch hz)), hce, hO.vm, hcl, hWs, hall, hf⟩⟩
  refine st1 _ ?_
  show Steps p.tables e below (T1.setTop { method := m, pc := pc + 3, locals := ls, stack := .ref T.heap.size :: rest, locked := none }) _
  jvm_step X₁.here [X₁.here.top, hexec, d3', Value.category]
  exact X₁.ldcStringW hexec (own := own) (text := text) (index := is) (a := sa) hown' hstr'.1 hstr'.2
    (g := { method := m, pc := pc + 4, locals := ls, stack := .ref T.heap.size :: .ref T.heap.size :: rest, locked := none }) rfl d4' _ hsteps
end Ends
section Bodies
variable {l : Launch}
theorem vx_ofW {y : MethodName} {ws ws' : List Cond} {rm : Room} {Pc : Array Value → State → Prop} {Qc : Array Value → State → Outcome → State → Prop} {XC : String → State → State → Prop} {mc ms : Nat} {free : Addr → Prop} {cc : ByteArray} {maxL : Nat} {ret : Option FieldType}
    (hy : plainName y.cls = true) (hw : ws = Cond.code y cc maxL ret :: ws')
    (body : ∀ p e s m args below meth c s₁, BodyLoose p l y (headSpec ws rm) cc maxL ret e s m args below meth c s₁ → c.maxLocals = maxL → (∀ x ∈ c.exceptionTable.toList, False) → Pc args s →
      W p l e (headSpec ws rm).room s m args below meth c s.heap [] 0 0 (vx_MQ below Qc XC args s mc ms free) (entryFrame m args maxL)) : vx_Met l y ws rm Pc Qc XC mc ms free := by
  refine MetFree.of_bodyS (code := cc) (maxLocals := maxL) (ret := ret) hy ?_ ?_
  · intro args s m h hn
    obtain ⟨meth, c, h1, h2, h3, h4, h5, h6, -, -⟩ := Cond.code_spec hn (atoms_spec (ws := ws) h _ (by rw [hw]; exact List.mem_cons_self))
    exact ⟨meth, c, h1, h2, h3, h4, h5, h6⟩
  · intro p e s m args below meth c s₁ B hml hP _
    have hh0 : s₁.heap = s.heap := by rw [B.state]; rfl
    have ht : ∀ x ∈ c.exceptionTable.toList, False := by
      obtain ⟨meth9, c9, h1, h2, -, -, -, -, h7, -⟩ := Cond.code_spec B.named (atoms_spec (ws := ws) B.pre _ (by rw [hw]; exact List.mem_cons_self))
      cases Option.some.inj (h1.symm.trans B.method)
      cases Option.some.inj (h2.symm.trans (Stand.of_body B).code)
      intro x hx
      rw [Array.isEmpty_iff.mp h7] at hx
      cases hx
    obtain ⟨t, a1, o, b1, b2, b3⟩ := body p e s m args below meth c s₁ B hml ht hP s₁ hh0 (Stand.of_body B)
    exact ⟨t, o, a1, b1, b2, b3⟩
/-- the table of a body with handlers -/
theorem vx_table {p : Program} {x y : MethodName} {S : Spec} {cc bytes : ByteArray} {maxL maxL' : Nat} {ret ret' : Option FieldType} {e : Env} {s s₁ : State} {m : MethodId} {args : Array Value} {below : List Frame} {meth : Method} {c : Code} {hh : List (Nat × Nat × Nat × Nat)}
    (B : BodyLoose p l y S cc maxL ret e s m args below meth c s₁) (h : (Cond.codeWith y bytes maxL' ret' hh).before args s = true) : c.exceptionTable.toList = tableOf hh := by
  obtain ⟨m9, meth9, c9, hn9, h1, h2, -, -, h6, -⟩ := Cond.codeWith_spec h
  cases Option.some.inj (hn9.symm.trans B.named)
  cases Option.some.inj (h1.symm.trans B.method)
  cases Option.some.inj (h2.symm.trans (Stand.of_body B).code)
  rw [← h6, table_eq]
end Bodies
end VXA
/-! ===== END ===== -/
/-! ===== BEGIN a static call of a method with an exception table ===== -/
section VXS
variable {p : Program} {l : Launch} {e : Env} {R : Room} {s : State} {m : MethodId} {args : Array Value} {below : List Frame} {meth : Method} {c : Code} {T : State} {H : Heap} {locs : List Loc} {cells slots : Nat}
abbrev vx_CSW (R : Room) (s : State) (args : Array Value) (own : String) (index : Nat) (y : MethodName) (bytes : ByteArray) (maxL : Nat) (ret : Option FieldType) (hh : List (Nat × Nat × Nat × Nat)) (ws : List Cond) (rm : Room) (mc ms n : Nat) : Prop :=
  (rm.cells = mc ∧ rm.slots = ms ∧ rm.frames + 1 ≤ R.frames ∧ 8 + (maxL + 11) + rm.locals ≤ R.locals ∧ (∀ w ∈ ws, ∀ (a' : Array Value) (U : State), s.WarmedH U.vm → w.before a' U = true) ∧ Cond.codeWith y bytes maxL ret hh ∈ ws) ∧
  (Cond.codeWith y bytes maxL ret hh).before args s = true ∧ (Cond.initialized y.cls).before args s = true ∧ (y.cls ≠ "java/lang/invoke/MethodHandle" ∧ y.cls ≠ "java/lang/invoke/VarHandle") ∧
  (∀ sig, parseMethodDescriptor y.desc = some sig → n = sig.parameters.length) ∧ (Cond.methodLink own index y).before args s = true ∧ (Cond.static y).before args s = true
theorem vx_cwSW {own : String} {index maxL mc ms : Nat} {y : MethodName} {bytes : ByteArray} {ret : Option FieldType} {hh : List (Nat × Nat × Nat × Nat)} {Ts ws ws' : List Cond} {rm : Room} (n : Nat) (ht : ∀ w ∈ Ts, w.before args s = true) (hT : GoodIn Ts (va_wsS own index y ws)) (hw : ws = Cond.codeWith y bytes maxL ret hh :: ws') (hrc : rm.cells = mc) (hrs : rm.slots = ms)
    (hd : y.cls ≠ "java/lang/invoke/MethodHandle" ∧ y.cls ≠ "java/lang/invoke/VarHandle" ∧ (parseMethodDescriptor y.desc).map (fun d => d.parameters.length) = some n) (hR : rm.frames + 1 ≤ R.frames ∧ 8 + (maxL + 11) + rm.locals ≤ R.locals) :
    vx_CSW R s args own index y bytes maxL ret hh ws rm mc ms n := by
  have ok : ∀ w ∈ va_wsS own index y ws, w.before args s = true := fun w h => ht w (hT w h).1
  have hG : GoodIn Ts ws := fun w h => hT w (by unfold va_wsS; exact List.mem_append_right _ h)
  have hc : Cond.codeWith y bytes maxL ret hh ∈ ws := by rw [hw]; exact List.mem_cons_self
  refine ⟨⟨hrc, hrs, hR.1, hR.2, pay_in ht hG, hc⟩, ht _ (hG _ hc).1, ok _ (by simp [va_wsS]), ⟨hd.1, hd.2.1⟩, fun sig h => ?_, ok _ (by simp [va_wsS]), ok _ (by simp [va_wsS])⟩
  have h2 := hd.2.2
  rw [h] at h2
  exact (Option.some.inj h2).symm
theorem vx_callSW (X : Stand p l e R s m args below meth c T locs cells slots) (hexec : p.tables.exec = Jvm.exec) {own : String} {index : Nat} {y : MethodName} {bytes : ByteArray} {maxL : Nat} {ret : Option FieldType} {hh : List (Nat × Nat × Nat × Nat)}
    (hown : s.vm.findClass own = some m.cls) (hlink : (Cond.methodLink own index y).before args s = true) (hstat : (Cond.static y).before args s = true) (hinit : (Cond.initialized y.cls).before args s = true)
    (hcode : (Cond.codeWith y bytes maxL ret hh).before args s = true) (hy : y.cls ≠ "java/lang/invoke/MethodHandle" ∧ y.cls ≠ "java/lang/invoke/VarHandle")
    {W9 : Nat} {Pre : Pt → Array Value → Prop} {Post : Pt → Array Value → Option Value → Pt → Prop} (hK : Back l R p e below s args y 3 W9 Pre Post)
    {g : JFrame} (hg : g.method = m) (hsize : g.locals.size = c.maxLocals) {argsL rest : List Value} (hlen : ∀ sig, parseMethodDescriptor y.desc = some sig → argsL.length = sig.parameters.length)
    (hstack : g.stack = argsL.reverse ++ rest) (hW : 2 * g.monitorRoom + (rest.map fun v => v.category).sum ≤ W9) (hdg : decode c.code g.pc = .ok (.invokestatic index, 3))
    (hpre : ∀ vm₁, s.WarmedH vm₁ → Pre ⟨T.setVm vm₁, locs, cells, slots⟩ argsL.toArray) :
    ∃ (v : Option Value) (vm₁ : Vm) (B : Pt), s.WarmedH vm₁ ∧ Stand p l e R s m args below meth c B.U B.locs B.cells B.slots ∧ Post ⟨T.setVm vm₁, locs, cells, slots⟩ argsL.toArray v B ∧
      ∀ target, Steps p.tables e below (B.U.setTop { g with pc := g.pc + 3, stack := v.toList ++ rest }) target → Steps p.tables e below (T.setTop g) target := by
  obtain ⟨mk, methM, cM, hnamed, hmethM, -, -, -, -, -, -, hsigM⟩ := Cond.codeWith_spec hcode
  have hstatic : methM.isStatic = true := Cond.static_spec hnamed hmethM hstat
  obtain ⟨kP, hkP, -⟩ := className_of_methodNamed hnamed
  have hinitP : kP.init = .initialized := Cond.initialized_spec (findClass_of_methodNamed hnamed) hkP hinit
  obtain ⟨vm₁, X₁, hstep₁⟩ := X.invokestatic hexec hown hlink hnamed hmethM hstatic hkP hinitP hy (g := g) hg (argsL := argsL) (rest := rest) (hlen _ hsigM) hstack hdg
  obtain ⟨v, B, X', hpost, hsteps⟩ := hK m meth c ⟨T.setVm vm₁, locs, cells, slots⟩ { g with stack := rest } (.invokestatic index) mk argsL.toArray X₁ hg hsize hdg hW (X₁.named hnamed) (hpre vm₁ X₁.warmed)
  exact ⟨v, vm₁, B, X₁.warmed, X', hpost, fun target h => hstep₁ _ fun acts => by rw [doInvoke_state]; exact hsteps.trans h⟩
theorem vx_runSW {y : MethodName} {bytes cc : ByteArray} {maxL nL mc ms n index : Nat} {ret : Option FieldType} {hh : List (Nat × Nat × Nat × Nat)} {ws : List Cond} {rm : Room} {Pc : Array Value → State → Prop} {Qc : Array Value → State → Outcome → State → Prop} {free : Addr → Prop} {Ts : List Cond} {own : String} {As rest : List Value} {g : JFrame}
    (S : CallFix p m c cc nL s args Ts own) (hM : Met l y ws rm Pc Qc mc ms free) (cw : vx_CSW R s args own index y bytes maxL ret hh ws rm mc ms n) (hp : PreS s H Pc As)
    (hg : g.method = m) (hn : As.length = n) (hsize : g.locals.size = nL) (hstack : g.stack = As.reverse ++ rest) (hW : 2 * g.monitorRoom + (rest.map fun v => v.category).sum ≤ 8) (hdg : decode cc g.pc = .ok (.invokestatic index, 3)) (hf : cells + mc ≤ R.cells ∧ slots + ms ≤ R.slots) :
    va_Run p l e R s m args below meth c H locs cells slots mc ms g rest (Qc As.toArray) (free) := by
  obtain ⟨⟨hrc, hrs, hfr, hlo, hws, hcw⟩, hcode, hini, hy, hlen, hl, hstt⟩ := cw
  have hK : Back l R p e below s args y 3 8 (PreOf R mc ms Pc) (PostOf Qc mc ms free) := va_backW (hh := hh) (bytes := bytes) (maxL := maxL) (ret := ret) hM hp.1 hrc hrs hfr hlo hws hcw (fun a' U hW => word_at hW (Or.inl (by first | rfl | simp [Cond.onTables, Cond.keeps, Cond.steady])) hini)
  obtain ⟨hx, hb, hml, ho, -⟩ := S
  intro T hT X
  obtain ⟨v, vm₁, ⟨U', l2, c2, s2⟩, hW₁, X', ⟨g', mk, t, L, e1, e2, hq, h1, hL, h2, h3⟩, st⟩ := vx_callSW X hx (hh := hh) (bytes := bytes) (maxL := maxL) (ret := ret) ho hl hstt hini hcode hy hK hg (hsize.trans hml.symm) (argsL := As) (rest := rest) (fun sig h => hn.trans (hlen sig h)) hstack hW (by rw [hb]; exact hdg)
    (fun vm₁ hW₁ => ⟨hf.1, hf.2, hp.2 (T.setVm vm₁) hT hW₁⟩)
  dsimp only [Pt.U, Pt.locs, Pt.cells, Pt.slots] at X' e1 e2 h1 h2 h3 st
  subst h1; subst h2; subst h3
  exact ⟨v, (T.setVm vm₁).calling g' mk As.toArray, t, U', L, hT, X', hL, e1, e2, hq, st⟩
/-- not caught here, past rows that name other classes: it goes on to the caller -/
theorem vx_outP {p : Program} {l : Launch} {e : Env} {R : Room} {s : State} {m : MethodId} {args : Array Value} {below : List Frame} {meth : Method} {c : Code} {H : Heap} {locs : List Loc} {cells slots : Nat} {free : Addr → Prop} {ls : Array Slot} {rest : List Value} {Qc : Array Value → State → Outcome → State → Prop} {XC : String → State → State → Prop}
    {pc : Nat} {own E : String} {ce : Cell} {q : Addr} {mc ms : Nat} (hown : s.vm.findClass own = some m.cls) (hlocks : meth.locks = false)
    (hpass : ∀ z ∈ c.exceptionTable.toList, covers z pc = false ∨ (z.catchType ≠ 0 ∧ ∃ nm : String, (Cond.classLink own z.catchType nm).before args s = true ∧ va_Nc E nm s)) (hcell : H[q]? = some ce) (hv : ce.vm = .none) (hcl : s.vm.findClass E = some ce.cls)
    (hx : ∀ t : State, t.heap = H → s.vm.Alike t.vm → XC E s t) (hf : ∀ z ∈ locs, free z.base) (hc : cells ≤ mc) (hs : slots ≤ ms) :
    vx_W p l e R s m args below meth c H locs cells slots (vx_MQ below Qc XC args s mc ms free) (F0 m pc ls rest) q := by
  intro T hT X
  have hpl : e.platform.magicAccessors = ({} : Platform).magicAccessors := by rw [X.admits.platform]
  obtain ⟨vm', hW', X', st⟩ := X.outThrough hlocks q (g := F0 m pc ls rest) rfl rfl rfl (cell := ce) (by rw [hT]; exact hcell) (by rw [hv]; rfl)
    (by obtain ⟨k9, h9, -⟩ := Vm.findClass_spec hcl; exact ⟨k9, h9⟩) (fun z hz => by
      rcases hpass z hz with h | ⟨hz0, nm, hl1, hn1⟩
      · exact Or.inl h
      · obtain ⟨c6, hc6, hcl6⟩ := Cond.classLink_spec hown hl1 e.platform hpl
        obtain ⟨a8, b8, h1, h2, h3⟩ := hn1
        cases Option.some.inj (h1.symm.trans hcl)
        cases Option.some.inj (h2.symm.trans hc6)
        exact Or.inr ⟨hz0, _, hcl6, h3⟩)
  obtain ⟨g₀, hfr⟩ := X'.frames_eq
  have hcell9 : ((T.setVm vm').setFrames (.throwing q :: below)).heap[q]? = some ce := by
    show T.heap[q]? = some ce
    rw [hT]; exact hcell
  have hend : Ended ((T.setVm vm').setFrames (.throwing q :: below)) below (.threw q) := State.frames_setFrames _ (State.cur_lt_of_frames hfr)
  refine ⟨(T.setVm vm').setFrames (.throwing q :: below), ?_, .threw q, X'.here.running, hend, Or.inr ⟨q, rfl, E, ce, locs, hx _ hT (X'.ends _).1.alike, hcell9, hv, hcl, (X'.ends _).1, (X'.ends _).2.mono hc hs, hf⟩⟩
  rw [X.pushThrowing_eq]
  exact st
/-- a thing of a world lies in the heap -/
theorem vx_lt {D : va_G} {cl : List vw_C} {ws : va_W} {H1 : Heap} (h : va_P D cl ws H1) {k : Nat} {q : Nat × va_E} (hk : ws[k]? = some q) : q.1 < H1.size := (h k q hk).lt
end VXS
/-! ===== END ===== -/
/-! ===== BEGIN methods with a table of their own: called by a name, returning or throwing ===== -/
section VXH
/-! vx_backW, vx_callVX, vx_callSX, vx_callVW, vx_runVW, vx_runVX, vx_runSX, vx_ofWH follow the same proofs as their sisters above (Free/Laws.lean, Shelf42/LK1.lean); vx_outP calls Shelf42/NT130.lean (outThrough). -/
section
variable {l : Launch} {R : Room} {p : Program} {e : Env} {below : List Frame} {s : State} {sargs : Array Value} {y : MethodName} {len W9 : Nat}
theorem vx_backW {ws : List Cond} {rm : Room} {Pc : Array Value → State → Prop} {Qc : Array Value → State → Outcome → State → Prop} {XC : String → State → State → Prop} {mc ms : Nat} {free : Addr → Prop} {bytes : ByteArray} {maxL : Nat} {ret : Option FieldType} {hh : List (Nat × Nat × Nat × Nat)}
    (hM : vx_Met l y ws rm Pc Qc XC mc ms free) (hblind : FrameBlind Pc) (hrc : rm.cells = mc) (hrs : rm.slots = ms)
    (hframes : rm.frames + 1 ≤ R.frames) (hlocals : W9 + (maxL + 11) + rm.locals ≤ R.locals)
    (hws : ∀ w ∈ ws, ∀ a' U, s.WarmedH U.vm → w.before a' U = true) (hcode : Cond.codeWith y bytes maxL ret hh ∈ ws) (hinit : ∀ a' U, s.WarmedH U.vm → (Cond.initialized y.cls).before a' U = true) :
    vx_Back l R p e below s sargs y len W9 (PreOf R mc ms Pc) (PostOf Qc mc ms free) (vx_Post XC mc ms free) := by
  intro m meth c A g ig mk a X hg hsize hdg hW hn hp
  have h1 : (headSpec ws rm).pre.before a A.U = true := atoms_intro fun w hw => hws w hw _ _ X.warmed
  have h2 : (Cond.codeWith y bytes maxL ret hh).before a A.U = true := hws _ hcode _ _ X.warmed
  have h3 : (Cond.initialized y.cls).before a A.U = true := hinit _ _ X.warmed
  have h4 : A.cells + (headSpec ws rm).room.cells ≤ R.cells := by rw [show (headSpec ws rm).room.cells = mc from hrc]; exact hp.1
  have h5 : A.slots + (headSpec ws rm).room.slots ≤ R.slots := by rw [show (headSpec ws rm).room.slots = ms from hrs]; exact hp.2.1
  have hPc : Pc a (A.U.calling g mk a) := hblind _ _ _ _ hp.2.2
  obtain ⟨U, Ls, c0, s0⟩ := A
  dsimp only [Pt.U, Pt.locs, Pt.cells, Pt.slots] at h1 h2 h3 h4 h5 X hn hPc ⊢
  obtain ⟨m9, methY, cY, hn9, hmY, hcY, -, hlY, -⟩ := Cond.codeWith_spec h2
  cases Option.some.inj (hn9.symm.trans hn)
  obtain ⟨kY, hkY, -⟩ := className_of_methodNamed hn
  have hinitY : kY.init = .initialized := Cond.initialized_spec (findClass_of_methodNamed hn) hkY h3
  have h : At U g.method c below := by rw [hg]; exact X.here
  have hlocals9 : W9 + (maxL + 11) + (headSpec ws rm).room.locals ≤ R.locals := hlocals
  have happ : (headSpec ws rm).appliesLoose y e.platform (U.calling g mk a) = true :=
    Spec.appliesLoose_calling (g := g) h hdg hn hkY hinitY
      (X.room_calling (g := g) (R' := (headSpec ws rm).room) hsize hmY hcY hframes (by rw [hlY]; omega) h4 h5) h1
  obtain ⟨mid, hmid⟩ := h.above
  have hfr : (U.setTop g).frames = (.java g :: mid) ++ below := by rw [State.frames_setTop' g h.top, hmid]; rfl
  obtain ⟨o, s₂, hsteps, -, hend, hq⟩ := Steps.callFree hM p X.admits X.cas X.clock (acts := []) hfr happ hPc trivial
  have hq' : vx_Q Qc XC mc ms free a (U.calling g mk a) o s₂ := hq
  rw [State.frames_setTop' g h.top] at hend
  obtain ⟨g₀, hg0⟩ := Option.isSome_iff_exists.mp h.top
  obtain ⟨r, hr⟩ := State.topJava?_eq_some.mp hg0
  have hr' : (({ U with heap := s₂.heap, slotsUsed := s₂.slotsUsed } : State).setVm s₂.vm).frames = .java g₀ :: r := hr
  rcases hq' with ⟨hqc, L, hfe, hL⟩ | ⟨q, rfl, E, ce, L, hx, hce, hcv, hcl, hW₂, hsm, hL⟩
  · obtain ⟨⟨v, rfl⟩, hW₂, e2, q2, q3, q4, q5, q6⟩ := id hfe
    have e3 : s₂ = ({ (U.calling g mk a).setFrames s₂.frames with heap := s₂.heap, slotsUsed := s₂.slotsUsed } : State).setVm s₂.vm := by
      have : s₂ = ({ s₂ with vm := (U.calling g mk a).vm } : State).setVm s₂.vm := rfl
      rw [e2] at this
      exact this
    obtain ⟨c₂, i₂, len₂, hc₂, hd₂, hf₂⟩ := hend
    have hW' : U.WarmedH s₂.vm := hW₂
    have hcc : c₂ = c := by
      have h1 : s₂.code? g.method = U.code? g.method := by
        rw [State.code?_eq, State.code?_eq, hW'.alike.method?]
      exact Option.some.inj (hc₂.symm.trans (h1.trans h.code))
    subst hcc
    have hlen : len₂ = len := by rw [hdg] at hd₂; cases hd₂; rfl
    subst hlen
    have hs₂ : s₂ = (({ U with heap := s₂.heap, slotsUsed := s₂.slotsUsed } : State).setVm s₂.vm).setTop { g with pc := g.pc + len₂, stack := v.toList ++ g.stack } := by
      refine e3.trans ?_
      rw [hf₂, State.calling_eq h.top, State.setFrames_setFrames, State.setTop_of_frames _ hr', hr]
      rfl
    have hsame : U.sameButNew ({ U with heap := s₂.heap, slotsUsed := s₂.slotsUsed } : State) L mc ms := by
      refine ⟨?_, q2, q3, q4, q5, q6⟩
      obtain ⟨t, ht, -⟩ := State.frames_cons hr
      show ({ U with heap := s₂.heap, slotsUsed := s₂.slotsUsed } : State) = { U.setFrames U.frames with heap := s₂.heap, slotsUsed := s₂.slotsUsed }
      rw [State.setFrames_self ht]
    subst hg
    refine Or.inl ⟨v, ⟨(({ U with heap := s₂.heap, slotsUsed := s₂.slotsUsed } : State).setVm s₂.vm), Ls ++ L, c0 + mc, s0 + ms⟩,
      ⟨X.admits, X.cas, X.clock, X.frames, X.room, X.hears, X.method, X.code, (X.here.setHeapUsed s₂.heap s₂.slotsUsed).setVm hW'.alike, X.tail, State.WarmedH.trans X.warmed hW', X.limits, X.bytes, X.same.trans (hsame.setVm s.vm)⟩,
      ⟨g, mk, s₂, L, rfl, rfl, hqc, rfl, hL, rfl, rfl⟩, ?_⟩
    show Steps p.tables e below _ ((({ U with heap := s₂.heap, slotsUsed := s₂.slotsUsed } : State).setVm s₂.vm).setTop { g with pc := g.pc + len₂, stack := v.toList ++ g.stack })
    rw [← hs₂]
    exact hsteps
  · obtain ⟨e2, q2, q3, q4, q5, q6⟩ := id hsm
    have e3 : s₂ = ({ (U.calling g mk a).setFrames s₂.frames with heap := s₂.heap, slotsUsed := s₂.slotsUsed } : State).setVm s₂.vm := by
      have : s₂ = ({ s₂ with vm := (U.calling g mk a).vm } : State).setVm s₂.vm := rfl
      rw [e2] at this
      exact this
    have hf₂ : s₂.frames = .throwing q :: .java g :: U.frames.tail := hend
    have hW' : U.WarmedH s₂.vm := hW₂
    have hs₂ : s₂ = ((({ U with heap := s₂.heap, slotsUsed := s₂.slotsUsed } : State).setVm s₂.vm).setTop g).pushFrame (.throwing q) := by
      refine e3.trans ?_
      rw [hf₂, State.calling_eq h.top, State.setFrames_setFrames, State.pushFrame, State.frames_setTop _ hr', State.setTop_of_frames _ hr', State.setFrames_setFrames, hr]
      rfl
    have hsame : U.sameButNew ({ U with heap := s₂.heap, slotsUsed := s₂.slotsUsed } : State) L mc ms := by
      refine ⟨?_, q2, q3, q4, q5, q6⟩
      obtain ⟨t, ht, -⟩ := State.frames_cons hr
      show ({ U with heap := s₂.heap, slotsUsed := s₂.slotsUsed } : State) = { U.setFrames U.frames with heap := s₂.heap, slotsUsed := s₂.slotsUsed }
      rw [State.setFrames_self ht]
    subst hg
    refine Or.inr ⟨q, ⟨(({ U with heap := s₂.heap, slotsUsed := s₂.slotsUsed } : State).setVm s₂.vm), Ls ++ L, c0 + mc, s0 + ms⟩,
      ⟨X.admits, X.cas, X.clock, X.frames, X.room, X.hears, X.method, X.code, (X.here.setHeapUsed s₂.heap s₂.slotsUsed).setVm hW'.alike, X.tail, State.WarmedH.trans X.warmed hW', X.limits, X.bytes, X.same.trans (hsame.setVm s.vm)⟩,
      ⟨g, mk, s₂, L, E, ce, rfl, rfl, hx, hce, hcv, hcl, rfl, hL, rfl, rfl⟩, ?_⟩
    show Steps p.tables e below _ (((({ U with heap := s₂.heap, slotsUsed := s₂.slotsUsed } : State).setVm s₂.vm).setTop g).pushFrame (.throwing q))
    rw [← hs₂]
    exact hsteps
end
variable {p : Program} {l : Launch} {e : Env} {R : Room} {s : State} {m : MethodId} {args : Array Value} {below : List Frame} {meth : Method} {c : Code} {T : State} {H : Heap} {locs : List Loc} {cells slots : Nat}
theorem vx_callVX (X : Stand p l e R s m args below meth c T locs cells slots) (hexec : p.tables.exec = Jvm.exec) {own C : String} {index : Nat} {y : MethodName} {bytes : ByteArray} {maxL : Nat} {ret : Option FieldType} {hh : List (Nat × Nat × Nat × Nat)}
    (hown : s.vm.findClass own = some m.cls) (hlink : (Cond.methodLink own index y).before args s = true) (hinst : (Cond.instanceMethod y).before args s = true) (hsel : (Cond.selects C y y).before args s = true)
    (hcode : (Cond.codeWith y bytes maxL ret hh).before args s = true) (hy : y.cls ≠ "java/lang/invoke/MethodHandle" ∧ y.cls ≠ "java/lang/invoke/VarHandle")
    {W9 : Nat} {Pre : Pt → Array Value → Prop} {Post : Pt → Array Value → Option Value → Pt → Prop} {PostX : Pt → Array Value → Addr → Pt → Prop} (hK : vx_Back l R p e below s args y 3 W9 Pre Post PostX)
    {b : Addr} {cellB : Cell} (hcell : T.heap[b]? = some cellB) (hobj : cellB.vm.isStatics = false) (hcls : s.vm.findClass C = some cellB.cls)
    {g : JFrame} (hg : g.method = m) (hsize : g.locals.size = c.maxLocals) {argsL rest : List Value} (hlen : ∀ sig, parseMethodDescriptor y.desc = some sig → argsL.length = sig.parameters.length)
    (hstack : g.stack = argsL.reverse ++ .ref b :: rest) (hW : 2 * g.monitorRoom + (rest.map fun v => v.category).sum ≤ W9) (hdg : decode c.code g.pc = .ok (.invokevirtual index, 3))
    (hpre : ∀ vm₁, s.WarmedH vm₁ → Pre ⟨T.setVm vm₁, locs, cells, slots⟩ (Value.ref b :: argsL).toArray) :
    (∃ (v : Option Value) (vm₁ : Vm) (B : Pt), s.WarmedH vm₁ ∧ Stand p l e R s m args below meth c B.U B.locs B.cells B.slots ∧ Post ⟨T.setVm vm₁, locs, cells, slots⟩ (Value.ref b :: argsL).toArray v B ∧
      ∀ target, Steps p.tables e below (B.U.setTop { g with pc := g.pc + 3, stack := v.toList ++ rest }) target → Steps p.tables e below (T.setTop g) target) ∨
    (∃ (q : Addr) (vm₁ : Vm) (B : Pt), s.WarmedH vm₁ ∧ Stand p l e R s m args below meth c B.U B.locs B.cells B.slots ∧ PostX ⟨T.setVm vm₁, locs, cells, slots⟩ (Value.ref b :: argsL).toArray q B ∧
      Steps p.tables e below (T.setTop g) ((B.U.setTop { g with stack := rest }).pushFrame (.throwing q))) := by
  obtain ⟨mk, methM, hnamed, hmethM, hstM, habM⟩ := Cond.instanceMethod_spec hinst
  obtain ⟨m8, methM', cM, hn8, hmethM', -, -, -, -, -, -, hsigM⟩ := Cond.codeWith_spec hcode
  cases Option.some.inj (hn8.symm.trans hnamed)
  cases hmethM.symm.trans hmethM'
  obtain ⟨c2, r2, m2, q1, q2, q3, q4, kP, hkP, hkPi⟩ := Cond.selects_spec hsel
  cases hcls.symm.trans q1
  cases (State.methodFound?_of_named hnamed hy).symm.trans q2
  cases hnamed.symm.trans q3
  have hselP : selectMethod e.platform s.vm cellB.cls mk = .method mk := by rw [Launch.admits_selectMethod X.admits]; exact q4
  obtain ⟨vm₁, X₁, hstep₁⟩ := X.invokevirtual hexec hown hlink hnamed hmethM hstM hkP hkPi hy (a := b) (cell := cellB) hcell
    (fun z h => by rw [h] at hobj; cases hobj) hselP hmethM habM hkP hkPi (g := g) hg (argsL := argsL) (rest := rest) (hlen _ hsigM) hstack hdg
  rcases hK m meth c ⟨T.setVm vm₁, locs, cells, slots⟩ { g with stack := rest } (.invokevirtual index) mk (Value.ref b :: argsL).toArray X₁ hg hsize hdg hW (X₁.named hnamed) (hpre vm₁ X₁.warmed) with ⟨v, B, X', hpost, hsteps⟩ | ⟨q, B, X', hpost, hsteps⟩
  · exact Or.inl ⟨v, vm₁, B, X₁.warmed, X', hpost, fun target h => hstep₁ _ fun acts => by rw [doInvoke_state]; exact hsteps.trans h⟩
  · exact Or.inr ⟨q, vm₁, B, X₁.warmed, X', hpost, hstep₁ _ fun acts => by rw [doInvoke_state]; exact hsteps⟩
theorem vx_callSX (X : Stand p l e R s m args below meth c T locs cells slots) (hexec : p.tables.exec = Jvm.exec) {own : String} {index : Nat} {y : MethodName} {bytes : ByteArray} {maxL : Nat} {ret : Option FieldType} {hh : List (Nat × Nat × Nat × Nat)}
    (hown : s.vm.findClass own = some m.cls) (hlink : (Cond.methodLink own index y).before args s = true) (hstat : (Cond.static y).before args s = true) (hinit : (Cond.initialized y.cls).before args s = true)
    (hcode : (Cond.codeWith y bytes maxL ret hh).before args s = true) (hy : y.cls ≠ "java/lang/invoke/MethodHandle" ∧ y.cls ≠ "java/lang/invoke/VarHandle")
    {W9 : Nat} {Pre : Pt → Array Value → Prop} {Post : Pt → Array Value → Option Value → Pt → Prop} {PostX : Pt → Array Value → Addr → Pt → Prop} (hK : vx_Back l R p e below s args y 3 W9 Pre Post PostX)
    {g : JFrame} (hg : g.method = m) (hsize : g.locals.size = c.maxLocals) {argsL rest : List Value} (hlen : ∀ sig, parseMethodDescriptor y.desc = some sig → argsL.length = sig.parameters.length)
    (hstack : g.stack = argsL.reverse ++ rest) (hW : 2 * g.monitorRoom + (rest.map fun v => v.category).sum ≤ W9) (hdg : decode c.code g.pc = .ok (.invokestatic index, 3))
    (hpre : ∀ vm₁, s.WarmedH vm₁ → Pre ⟨T.setVm vm₁, locs, cells, slots⟩ argsL.toArray) :
    (∃ (v : Option Value) (vm₁ : Vm) (B : Pt), s.WarmedH vm₁ ∧ Stand p l e R s m args below meth c B.U B.locs B.cells B.slots ∧ Post ⟨T.setVm vm₁, locs, cells, slots⟩ argsL.toArray v B ∧
      ∀ target, Steps p.tables e below (B.U.setTop { g with pc := g.pc + 3, stack := v.toList ++ rest }) target → Steps p.tables e below (T.setTop g) target) ∨
    (∃ (q : Addr) (vm₁ : Vm) (B : Pt), s.WarmedH vm₁ ∧ Stand p l e R s m args below meth c B.U B.locs B.cells B.slots ∧ PostX ⟨T.setVm vm₁, locs, cells, slots⟩ argsL.toArray q B ∧
      Steps p.tables e below (T.setTop g) ((B.U.setTop { g with stack := rest }).pushFrame (.throwing q))) := by
  obtain ⟨mk, methM, cM, hnamed, hmethM, -, -, -, -, -, -, hsigM⟩ := Cond.codeWith_spec hcode
  have hstatic : methM.isStatic = true := Cond.static_spec hnamed hmethM hstat
  obtain ⟨kP, hkP, -⟩ := className_of_methodNamed hnamed
  have hinitP : kP.init = .initialized := Cond.initialized_spec (findClass_of_methodNamed hnamed) hkP hinit
  obtain ⟨vm₁, X₁, hstep₁⟩ := X.invokestatic hexec hown hlink hnamed hmethM hstatic hkP hinitP hy (g := g) hg (argsL := argsL) (rest := rest) (hlen _ hsigM) hstack hdg
  rcases hK m meth c ⟨T.setVm vm₁, locs, cells, slots⟩ { g with stack := rest } (.invokestatic index) mk argsL.toArray X₁ hg hsize hdg hW (X₁.named hnamed) (hpre vm₁ X₁.warmed) with ⟨v, B, X', hpost, hsteps⟩ | ⟨q, B, X', hpost, hsteps⟩
  · exact Or.inl ⟨v, vm₁, B, X₁.warmed, X', hpost, fun target h => hstep₁ _ fun acts => by rw [doInvoke_state]; exact hsteps.trans h⟩
  · exact Or.inr ⟨q, vm₁, B, X₁.warmed, X', hpost, hstep₁ _ fun acts => by rw [doInvoke_state]; exact hsteps⟩
theorem vx_callVW (X : Stand p l e R s m args below meth c T locs cells slots) (hexec : p.tables.exec = Jvm.exec) {own C : String} {index : Nat} {y : MethodName} {bytes : ByteArray} {maxL : Nat} {ret : Option FieldType} {hh : List (Nat × Nat × Nat × Nat)}
    (hown : s.vm.findClass own = some m.cls) (hlink : (Cond.methodLink own index y).before args s = true) (hinst : (Cond.instanceMethod y).before args s = true) (hsel : (Cond.selects C y y).before args s = true)
    (hcode : (Cond.codeWith y bytes maxL ret hh).before args s = true) (hy : y.cls ≠ "java/lang/invoke/MethodHandle" ∧ y.cls ≠ "java/lang/invoke/VarHandle")
    {W9 : Nat} {Pre : Pt → Array Value → Prop} {Post : Pt → Array Value → Option Value → Pt → Prop} (hK : Back l R p e below s args y 3 W9 Pre Post)
    {b : Addr} {cellB : Cell} (hcell : T.heap[b]? = some cellB) (hobj : cellB.vm.isStatics = false) (hcls : s.vm.findClass C = some cellB.cls)
    {g : JFrame} (hg : g.method = m) (hsize : g.locals.size = c.maxLocals) {argsL rest : List Value} (hlen : ∀ sig, parseMethodDescriptor y.desc = some sig → argsL.length = sig.parameters.length)
    (hstack : g.stack = argsL.reverse ++ .ref b :: rest) (hW : 2 * g.monitorRoom + (rest.map fun v => v.category).sum ≤ W9) (hdg : decode c.code g.pc = .ok (.invokevirtual index, 3))
    (hpre : ∀ vm₁, s.WarmedH vm₁ → Pre ⟨T.setVm vm₁, locs, cells, slots⟩ (Value.ref b :: argsL).toArray) :
    ∃ (v : Option Value) (vm₁ : Vm) (B : Pt), s.WarmedH vm₁ ∧ Stand p l e R s m args below meth c B.U B.locs B.cells B.slots ∧ Post ⟨T.setVm vm₁, locs, cells, slots⟩ (Value.ref b :: argsL).toArray v B ∧
      ∀ target, Steps p.tables e below (B.U.setTop { g with pc := g.pc + 3, stack := v.toList ++ rest }) target → Steps p.tables e below (T.setTop g) target := by
  obtain ⟨mk, methM, hnamed, hmethM, hstM, habM⟩ := Cond.instanceMethod_spec hinst
  obtain ⟨m8, methM', cM, hn8, hmethM', -, -, -, -, -, -, hsigM⟩ := Cond.codeWith_spec hcode
  cases Option.some.inj (hn8.symm.trans hnamed)
  cases hmethM.symm.trans hmethM'
  obtain ⟨c2, r2, m2, q1, q2, q3, q4, kP, hkP, hkPi⟩ := Cond.selects_spec hsel
  cases hcls.symm.trans q1
  cases (State.methodFound?_of_named hnamed hy).symm.trans q2
  cases hnamed.symm.trans q3
  have hselP : selectMethod e.platform s.vm cellB.cls mk = .method mk := by rw [Launch.admits_selectMethod X.admits]; exact q4
  obtain ⟨vm₁, X₁, hstep₁⟩ := X.invokevirtual hexec hown hlink hnamed hmethM hstM hkP hkPi hy (a := b) (cell := cellB) hcell
    (fun z h => by rw [h] at hobj; cases hobj) hselP hmethM habM hkP hkPi (g := g) hg (argsL := argsL) (rest := rest) (hlen _ hsigM) hstack hdg
  obtain ⟨v, B, X', hpost, hsteps⟩ := hK m meth c ⟨T.setVm vm₁, locs, cells, slots⟩ { g with stack := rest } (.invokevirtual index) mk (Value.ref b :: argsL).toArray X₁ hg hsize hdg hW (X₁.named hnamed) (hpre vm₁ X₁.warmed)
  exact ⟨v, vm₁, B, X₁.warmed, X', hpost, fun target h => hstep₁ _ fun acts => by rw [doInvoke_state]; exact hsteps.trans h⟩
abbrev vx_CVW (R : Room) (s : State) (args : Array Value) (own C : String) (index : Nat) (y : MethodName) (bytes : ByteArray) (maxL : Nat) (ret : Option FieldType) (hh : List (Nat × Nat × Nat × Nat)) (ws : List Cond) (rm : Room) (mc ms n : Nat) : Prop :=
  (rm.cells = mc ∧ rm.slots = ms ∧ rm.frames + 1 ≤ R.frames ∧ 8 + (maxL + 11) + rm.locals ≤ R.locals ∧ (∀ w ∈ ws, ∀ (a' : Array Value) (U : State), s.WarmedH U.vm → w.before a' U = true) ∧ Cond.codeWith y bytes maxL ret hh ∈ ws) ∧
  (Cond.codeWith y bytes maxL ret hh).before args s = true ∧ (Cond.initialized y.cls).before args s = true ∧ (y.cls ≠ "java/lang/invoke/MethodHandle" ∧ y.cls ≠ "java/lang/invoke/VarHandle") ∧
  (∀ sig, parseMethodDescriptor y.desc = some sig → n = sig.parameters.length) ∧ (Cond.methodLink own index y).before args s = true ∧ (Cond.instanceMethod y).before args s = true ∧ (Cond.selects C y y).before args s = true
theorem vx_cwVW {own C : String} {index maxL mc ms : Nat} {y : MethodName} {bytes : ByteArray} {ret : Option FieldType} {hh : List (Nat × Nat × Nat × Nat)} {Ts ws ws' : List Cond} {rm : Room} (n : Nat) (ht : ∀ w ∈ Ts, w.before args s = true) (hT : GoodIn Ts (wsV own index C y ws)) (hw : ws = Cond.codeWith y bytes maxL ret hh :: ws') (hrc : rm.cells = mc) (hrs : rm.slots = ms)
    (hd : y.cls = C ∧ y.cls ≠ "java/lang/invoke/MethodHandle" ∧ y.cls ≠ "java/lang/invoke/VarHandle" ∧ (parseMethodDescriptor y.desc).map (fun d => d.parameters.length) = some n) (hR : rm.frames + 1 ≤ R.frames ∧ 8 + (maxL + 11) + rm.locals ≤ R.locals) :
    vx_CVW R s args own C index y bytes maxL ret hh ws rm mc ms n := by
  obtain ⟨hC, hd⟩ := hd
  subst hC
  have ok : ∀ w ∈ wsV own index y.cls y ws, w.before args s = true := fun w h => ht w (hT w h).1
  have hG : GoodIn Ts ws := fun w h => hT w (by unfold wsV; exact List.mem_append_right _ h)
  have hc : Cond.codeWith y bytes maxL ret hh ∈ ws := by rw [hw]; exact List.mem_cons_self
  refine ⟨⟨hrc, hrs, hR.1, hR.2, pay_in ht hG, hc⟩, ht _ (hG _ hc).1, ok _ (by simp [wsV]), ⟨hd.1, hd.2.1⟩, fun sig h => ?_, ok _ (by simp [wsV]), ok _ (by simp [wsV]), ok _ (by simp [wsV])⟩
  have h2 := hd.2.2
  rw [h] at h2
  exact (Option.some.inj h2).symm
theorem vx_runVW {y : MethodName} {bytes cc : ByteArray} {maxL nL mc ms n index : Nat} {ret : Option FieldType} {hh : List (Nat × Nat × Nat × Nat)} {ws : List Cond} {rm : Room} {Pc : Array Value → State → Prop} {Qc : Array Value → State → Outcome → State → Prop} {free : Addr → Prop} {Ts : List Cond} {own C : String} {b : Addr} {As rest : List Value} {g : JFrame}
    (S : CallFix p m c cc nL s args Ts own) (hM : Met l y ws rm Pc Qc mc ms free) (cw : vx_CVW R s args own C index y bytes maxL ret hh ws rm mc ms n) (hp : PreV s H C b Pc As)
    (hg : g.method = m) (hn : As.length = n) (hsize : g.locals.size = nL) (hstack : g.stack = As.reverse ++ .ref b :: rest) (hW : 2 * g.monitorRoom + (rest.map fun v => v.category).sum ≤ 8) (hdg : decode cc g.pc = .ok (.invokevirtual index, 3)) (hf : cells + mc ≤ R.cells ∧ slots + ms ≤ R.slots) :
    va_Run p l e R s m args below meth c H locs cells slots mc ms g rest (Qc (Value.ref b :: As).toArray) free := by
  obtain ⟨⟨hrc, hrs, hfr, hlo, hws, hcw⟩, hcode, hini, hy, hlen, hl, hin, hse⟩ := cw
  have hK : Back l R p e below s args y 3 8 (PreOf R mc ms Pc) (PostOf Qc mc ms free) := va_backW (hh := hh) (bytes := bytes) (maxL := maxL) (ret := ret) hM hp.1 hrc hrs hfr hlo hws hcw (fun a' U hW => word_at hW (Or.inl (by first | rfl | simp [Cond.onTables, Cond.keeps, Cond.steady])) hini)
  obtain ⟨hx, hb, hml, ho, -⟩ := S
  obtain ⟨-, ⟨cellB, hcB, hoB, hclB⟩, hPc⟩ := hp
  intro T hT X
  obtain ⟨v, vm₁, ⟨U', l2, c2, s2⟩, hW₁, X', ⟨g', mk, t, L, e1, e2, hq, h1, hL, h2, h3⟩, st⟩ := vx_callVW X hx (C := C) (hh := hh) (bytes := bytes) (maxL := maxL) (ret := ret) ho hl hin hse hcode hy hK (by rw [hT]; exact hcB) hoB hclB hg (hsize.trans hml.symm) (argsL := As) (rest := rest) (fun sig h => hn.trans (hlen sig h)) hstack hW (by rw [hb]; exact hdg)
    (fun vm₁ hW₁ => ⟨hf.1, hf.2, hPc (T.setVm vm₁) hT hW₁⟩)
  dsimp only [Pt.U, Pt.locs, Pt.cells, Pt.slots] at X' e1 e2 h1 h2 h3 st
  subst h1; subst h2; subst h3
  exact ⟨v, (T.setVm vm₁).calling g' mk (Value.ref b :: As).toArray, t, U', L, hT, X', hL, e1, e2, hq, st⟩
section
variable {y : MethodName} {bytes cc : ByteArray} {maxL nL mc ms n index : Nat} {ret : Option FieldType} {ws : List Cond} {rm : Room} {Pc : Array Value → State → Prop} {Qc : Array Value → State → Outcome → State → Prop} {XC : String → State → State → Prop} {free : Addr → Prop} {Ts : List Cond} {own C : String} {b : Addr} {As rest : List Value} {g : JFrame}
theorem vx_runVX {hh : List (Nat × Nat × Nat × Nat)} (S : CallFix p m c cc nL s args Ts own) (hM : vx_Met l y ws rm Pc Qc XC mc ms free) (cw : vx_CVW R s args own C index y bytes maxL ret hh ws rm mc ms n) (hp : PreV s H C b Pc As)
    (hg : g.method = m) (hn : As.length = n) (hsize : g.locals.size = nL) (hstack : g.stack = As.reverse ++ .ref b :: rest) (hW : 2 * g.monitorRoom + (rest.map fun v => v.category).sum ≤ 8) (hdg : decode cc g.pc = .ok (.invokevirtual index, 3)) (hf : cells + mc ≤ R.cells ∧ slots + ms ≤ R.slots) :
    vx_Run p l e R s m args below meth c H locs cells slots mc ms g rest (Qc (Value.ref b :: As).toArray) XC free := by
  obtain ⟨⟨hrc, hrs, hfr, hlo, hws, hcw⟩, hcode, hini, hy, hlen, hl, hin, hse⟩ := cw
  have hK : vx_Back l R p e below s args y 3 8 (PreOf R mc ms Pc) (PostOf Qc mc ms free) (vx_Post XC mc ms free) := vx_backW (hh := hh) (bytes := bytes) (maxL := maxL) (ret := ret) hM hp.1 hrc hrs hfr hlo hws hcw (fun a' U hW => word_at hW (Or.inl (by first | rfl | simp [Cond.onTables, Cond.keeps, Cond.steady])) hini)
  obtain ⟨hx, hb, hml, ho, -⟩ := S
  obtain ⟨-, ⟨cellB, hcB, hoB, hclB⟩, hPc⟩ := hp
  intro T hT X
  rcases vx_callVX X hx (C := C) (hh := hh) (bytes := bytes) (maxL := maxL) (ret := ret) ho hl hin hse hcode hy hK (by rw [hT]; exact hcB) hoB hclB hg (hsize.trans hml.symm) (argsL := As) (rest := rest) (fun sig h => hn.trans (hlen sig h)) hstack hW (by rw [hb]; exact hdg)
    (fun vm₁ hW₁ => ⟨hf.1, hf.2, hPc (T.setVm vm₁) hT hW₁⟩) with ⟨v, vm₁, ⟨U', l2, c2, s2⟩, hW₁, X', ⟨g', mk, t, L, e1, e2, hq, h1, hL, h2, h3⟩, st⟩ | ⟨q, vm₁, ⟨U', l2, c2, s2⟩, hW₁, X', ⟨g', mk, t, L, E, ce, e1, e2, hq, hce, hcv, hcl, h1, hL, h2, h3⟩, st⟩
  · dsimp only [Pt.U, Pt.locs, Pt.cells, Pt.slots] at X' e1 e2 h1 h2 h3 st
    subst h1; subst h2; subst h3
    exact Or.inl ⟨v, (T.setVm vm₁).calling g' mk (Value.ref b :: As).toArray, t, U', L, hT, X', hL, e1, e2, hq, st⟩
  · dsimp only [Pt.U, Pt.locs, Pt.cells, Pt.slots] at X' e1 e2 h1 h2 h3 st hcl
    subst h1; subst h2; subst h3
    exact Or.inr ⟨q, (T.setVm vm₁).calling g' mk (Value.ref b :: As).toArray, t, U', L, E, ce, hT, X', hL, e1, e2, hq, hce, hcv, vx_cls hW₁ hcl, st⟩
theorem vx_runSX {hh : List (Nat × Nat × Nat × Nat)} (S : CallFix p m c cc nL s args Ts own) (hM : vx_Met l y ws rm Pc Qc XC mc ms free) (cw : vx_CSW R s args own index y bytes maxL ret hh ws rm mc ms n) (hp : PreS s H Pc As)
    (hg : g.method = m) (hn : As.length = n) (hsize : g.locals.size = nL) (hstack : g.stack = As.reverse ++ rest) (hW : 2 * g.monitorRoom + (rest.map fun v => v.category).sum ≤ 8) (hdg : decode cc g.pc = .ok (.invokestatic index, 3)) (hf : cells + mc ≤ R.cells ∧ slots + ms ≤ R.slots) :
    vx_Run p l e R s m args below meth c H locs cells slots mc ms g rest (Qc As.toArray) XC free := by
  obtain ⟨⟨hrc, hrs, hfr, hlo, hws, hcw⟩, hcode, hini, hy, hlen, hl, hstt⟩ := cw
  have hK : vx_Back l R p e below s args y 3 8 (PreOf R mc ms Pc) (PostOf Qc mc ms free) (vx_Post XC mc ms free) := vx_backW (hh := hh) (bytes := bytes) (maxL := maxL) (ret := ret) hM hp.1 hrc hrs hfr hlo hws hcw (fun a' U hW => word_at hW (Or.inl (by first | rfl | simp [Cond.onTables, Cond.keeps, Cond.steady])) hini)
  obtain ⟨hx, hb, hml, ho, -⟩ := S
  intro T hT X
  rcases vx_callSX X hx (hh := hh) (bytes := bytes) (maxL := maxL) (ret := ret) ho hl hstt hini hcode hy hK hg (hsize.trans hml.symm) (argsL := As) (rest := rest) (fun sig h => hn.trans (hlen sig h)) hstack hW (by rw [hb]; exact hdg)
    (fun vm₁ hW₁ => ⟨hf.1, hf.2, hp.2 (T.setVm vm₁) hT hW₁⟩) with ⟨v, vm₁, ⟨U', l2, c2, s2⟩, hW₁, X', ⟨g', mk, t, L, e1, e2, hq, h1, hL, h2, h3⟩, st⟩ | ⟨q, vm₁, ⟨U', l2, c2, s2⟩, hW₁, X', ⟨g', mk, t, L, E, ce, e1, e2, hq, hce, hcv, hcl, h1, hL, h2, h3⟩, st⟩
  · dsimp only [Pt.U, Pt.locs, Pt.cells, Pt.slots] at X' e1 e2 h1 h2 h3 st
    subst h1; subst h2; subst h3
    exact Or.inl ⟨v, (T.setVm vm₁).calling g' mk As.toArray, t, U', L, hT, X', hL, e1, e2, hq, st⟩
  · dsimp only [Pt.U, Pt.locs, Pt.cells, Pt.slots] at X' e1 e2 h1 h2 h3 st hcl
    subst h1; subst h2; subst h3
    exact Or.inr ⟨q, (T.setVm vm₁).calling g' mk As.toArray, t, U', L, E, ce, hT, X', hL, e1, e2, hq, hce, hcv, vx_cls hW₁ hcl, st⟩
end
end VXH
theorem vx_ofWH {l : Launch} {y : MethodName} {ws ws' : List Cond} {rm : Room} {Pc : Array Value → State → Prop} {Qc : Array Value → State → Outcome → State → Prop} {XC : String → State → State → Prop} {mc ms : Nat} {free : Addr → Prop} {cc : ByteArray} {maxL : Nat} {ret : Option FieldType} {hh : List (Nat × Nat × Nat × Nat)}
    (hy : plainName y.cls = true) (hw : ws = Cond.codeWith y cc maxL ret hh :: ws')
    (body : ∀ p e s m args below meth c s₁, BodyLoose p l y (headSpec ws rm) cc maxL ret e s m args below meth c s₁ → c.maxLocals = maxL → Pc args s →
      W p l e (headSpec ws rm).room s m args below meth c s.heap [] 0 0 (vx_MQ below Qc XC args s mc ms free) (entryFrame m args maxL)) : vx_Met l y ws rm Pc Qc XC mc ms free := by
  refine MetFree.of_bodyS (code := cc) (maxLocals := maxL) (ret := ret) hy ?_ ?_
  · intro args s m h hn
    obtain ⟨m9, meth, c, hn9, h1, h2, h3, h4, -, h5, h6, -⟩ := Cond.codeWith_spec (atoms_spec (ws := ws) h _ (by rw [hw]; exact List.mem_cons_self))
    cases hn.symm.trans hn9
    exact ⟨meth, c, h1, h2, h3, h4, h5, h6⟩
  · intro p e s m args below meth c s₁ B hml hP _
    have hh0 : s₁.heap = s.heap := by rw [B.state]; rfl
    obtain ⟨t, a1, o, b1, b2, b3⟩ := body p e s m args below meth c s₁ B hml hP s₁ hh0 (Stand.of_body B)
    exact ⟨t, o, a1, b1, b2, b3⟩
/-! ===== END ===== -/

/-! ===== BEGIN printed: names, fields, word lists, decode rows ===== -/
def RX0 : String := "Groutline$Bars"
def TX0 : u_T := fun k => match k with
  | 0 => ("Groutline$Bars", "pillars", "[Z", true)
  | 1 => ("Groutline$Bars", "barred", "[Z", true)
  | _ => ("Groutline$Bars", "doorColumn", "I", false)
def tyX0 : Nat → FieldType := fun k => match k with
  | 0 => .array .boolean
  | 1 => .array .boolean
  | _ => .int
abbrev wsX00 : List Cond := u_ws RX0 TX0 3
theorem nmX0 : ∀ a, a < 3 → ∀ b, b < 3 → a ≠ b → (TX0 a).2.1 ≠ (TX0 b).2.1 := by decide +kernel
theorem tyX0_ok : ∀ k, k < 3 → parseFieldDescriptor (TX0 k).2.2.1 = some (tyX0 k) := by decide +kernel
abbrev cX0_init : ByteArray := prog_2_method_1_code
def yX0_init : MethodName := ⟨RX0, "<init>", "()V"⟩
abbrev cX0_setPillar : ByteArray := prog_2_method_2_code
def yX0_setPillar : MethodName := ⟨RX0, "setPillar", "(IIZ)Z"⟩
abbrev cX0_areAt : ByteArray := prog_2_method_3_code
def yX0_areAt : MethodName := ⟨RX0, "areAt", "(II)Z"⟩
abbrev cX0_renew : ByteArray := prog_2_method_4_code
def yX0_renew : MethodName := ⟨RX0, "renew", "(LGroutline$Layout;LGroutline$Work;)V"⟩
abbrev cX0_renewRow : ByteArray := prog_2_method_5_code
def yX0_renewRow : MethodName := ⟨RX0, "renewRow", "(I)V"⟩
abbrev cX0_isDoor : ByteArray := prog_2_method_6_code
def yX0_isDoor : MethodName := ⟨RX0, "isDoor", "(II)Z"⟩
def RX1 : String := "Groutline$Cuts"
def TX1 : u_T := fun k => match k with
  | 0 => ("Groutline$Cuts", "newTiles", "I", false)
  | 1 => ("Groutline$Cuts", "sources", "[I", true)
  | 2 => ("Groutline$Cuts", "restCount", "I", false)
  | 3 => ("Groutline$Cuts", "restWides", "[I", true)
  | 4 => ("Groutline$Cuts", "restHighs", "[I", true)
  | _ => ("Groutline$Cuts", "restMakers", "[I", true)
def tyX1 : Nat → FieldType := fun k => match k with
  | 0 => .int
  | 1 => .array .int
  | 2 => .int
  | 3 => .array .int
  | 4 => .array .int
  | _ => .array .int
abbrev wsX10 : List Cond := u_ws RX1 TX1 6
theorem nmX1 : ∀ a, a < 6 → ∀ b, b < 6 → a ≠ b → (TX1 a).2.1 ≠ (TX1 b).2.1 := by decide +kernel
theorem tyX1_ok : ∀ k, k < 6 → parseFieldDescriptor (TX1 k).2.2.1 = some (tyX1 k) := by decide +kernel
abbrev cX1_init : ByteArray := prog_3_method_1_code
def yX1_init : MethodName := ⟨RX1, "<init>", "()V"⟩
abbrev cX1_sizeOfRest : ByteArray := prog_3_method_2_code
def yX1_sizeOfRest : MethodName := ⟨RX1, "sizeOfRest", "(I)I"⟩
abbrev cX1_cutAll : ByteArray := prog_3_method_3_code
def yX1_cutAll : MethodName := ⟨RX1, "cutAll", "(LGroutline$Layout;LGroutline$Pieces;)V"⟩
abbrev cX1_hasRest : ByteArray := prog_3_method_4_code
def yX1_hasRest : MethodName := ⟨RX1, "hasRest", "(I)Z"⟩
abbrev cX1_cut : ByteArray := prog_3_method_5_code
def yX1_cut : MethodName := ⟨RX1, "cut", "(LGroutline$Layout;III)V"⟩
abbrev cX1_bestRestFor : ByteArray := prog_3_method_6_code
def yX1_bestRestFor : MethodName := ⟨RX1, "bestRestFor", "(II)I"⟩
abbrev cX1_removeRest : ByteArray := prog_3_method_7_code
def yX1_removeRest : MethodName := ⟨RX1, "removeRest", "(I)V"⟩
abbrev cX1_leave : ByteArray := prog_3_method_8_code
def yX1_leave : MethodName := ⟨RX1, "leave", "(IIIII)V"⟩
abbrev cX1_addRest : ByteArray := prog_3_method_9_code
def yX1_addRest : MethodName := ⟨RX1, "addRest", "(III)V"⟩
def RX2 : String := "Groutline$Frame"
def TX2 : u_T := fun k => match k with
  | 0 => ("Groutline$Frame", "left", "I", false)
  | 1 => ("Groutline$Frame", "right", "I", false)
  | 2 => ("Groutline$Frame", "top", "I", false)
  | _ => ("Groutline$Frame", "bottom", "I", false)
def tyX2 : Nat → FieldType := fun k => match k with
  | 0 => .int
  | 1 => .int
  | 2 => .int
  | _ => .int
abbrev wsX20 : List Cond := u_ws RX2 TX2 4
theorem nmX2 : ∀ a, a < 4 → ∀ b, b < 4 → a ≠ b → (TX2 a).2.1 ≠ (TX2 b).2.1 := by decide +kernel
theorem tyX2_ok : ∀ k, k < 4 → parseFieldDescriptor (TX2 k).2.2.1 = some (tyX2 k) := by decide +kernel
abbrev cX2_init : ByteArray := prog_4_method_1_code
def yX2_init : MethodName := ⟨RX2, "<init>", "()V"⟩
abbrev cX2_set : ByteArray := prog_4_method_2_code
def yX2_set : MethodName := ⟨RX2, "set", "(IIII)V"⟩
def RX3 : String := "Groutline$Layout"
def TX3 : u_T := fun k => match k with
  | 0 => ("Groutline$Layout", "wide", "I", false)
  | 1 => ("Groutline$Layout", "high", "I", false)
  | 2 => ("Groutline$Layout", "border", "I", false)
  | _ => ("Groutline$Layout", "pattern", "I", false)
def tyX3 : Nat → FieldType := fun k => match k with
  | 0 => .int
  | 1 => .int
  | 2 => .int
  | _ => .int
abbrev wsX30 : List Cond := u_ws RX3 TX3 4
theorem nmX3 : ∀ a, a < 4 → ∀ b, b < 4 → a ≠ b → (TX3 a).2.1 ≠ (TX3 b).2.1 := by decide +kernel
theorem tyX3_ok : ∀ k, k < 4 → parseFieldDescriptor (TX3 k).2.2.1 = some (tyX3 k) := by decide +kernel
abbrev cX3_init : ByteArray := prog_5_method_1_code
def yX3_init : MethodName := ⟨RX3, "<init>", "()V"⟩
abbrev cX3_set : ByteArray := prog_5_method_2_code
def yX3_set : MethodName := ⟨RX3, "set", "(IIII)V"⟩
abbrev cX3_isBorder : ByteArray := prog_5_method_3_code
def yX3_isBorder : MethodName := ⟨RX3, "isBorder", "(II)Z"⟩
abbrev cX3_rightBorder : ByteArray := prog_5_method_4_code
def yX3_rightBorder : MethodName := ⟨RX3, "rightBorder", "()I"⟩
abbrev cX3_lowerBorder : ByteArray := prog_5_method_5_code
def yX3_lowerBorder : MethodName := ⟨RX3, "lowerBorder", "()I"⟩
abbrev cX3_courseOfRow : ByteArray := prog_5_method_6_code
def yX3_courseOfRow : MethodName := ⟨RX3, "courseOfRow", "(I)I"⟩
abbrev cX3_countCourses : ByteArray := prog_5_method_7_code
def yX3_countCourses : MethodName := ⟨RX3, "countCourses", "()I"⟩
abbrev cX3_countStrips : ByteArray := prog_5_method_8_code
def yX3_countStrips : MethodName := ⟨RX3, "countStrips", "()I"⟩
abbrev cX3_hasStrip : ByteArray := prog_5_method_9_code
def yX3_hasStrip : MethodName := ⟨RX3, "hasStrip", "(I)Z"⟩
abbrev cX3_stripOfRow : ByteArray := prog_5_method_10_code
def yX3_stripOfRow : MethodName := ⟨RX3, "stripOfRow", "(I)I"⟩
abbrev cX3_frame : ByteArray := prog_5_method_11_code
def yX3_frame : MethodName := ⟨RX3, "frame", "(IILGroutline$Frame;)V"⟩
def RX4 : String := "Groutline$Pieces"
def TX4 : u_T := fun k => match k with
  | 0 => ("Groutline$Pieces", "count", "I", false)
  | 1 => ("Groutline$Pieces", "ofCells", "[I", true)
  | 2 => ("Groutline$Pieces", "kinds", "[I", true)
  | 3 => ("Groutline$Pieces", "columns", "[I", true)
  | 4 => ("Groutline$Pieces", "rows", "[I", true)
  | 5 => ("Groutline$Pieces", "sizes", "[I", true)
  | 6 => ("Groutline$Pieces", "boxWides", "[I", true)
  | 7 => ("Groutline$Pieces", "boxHighs", "[I", true)
  | _ => ("Groutline$Pieces", "frame", "LGroutline$Frame;", true)
def tyX4 : Nat → FieldType := fun k => match k with
  | 0 => .int
  | 1 => .array .int
  | 2 => .array .int
  | 3 => .array .int
  | 4 => .array .int
  | 5 => .array .int
  | 6 => .array .int
  | 7 => .array .int
  | _ => .object "Groutline$Frame"
abbrev wsX40 : List Cond := u_ws RX4 TX4 9
theorem nmX4 : ∀ a, a < 9 → ∀ b, b < 9 → a ≠ b → (TX4 a).2.1 ≠ (TX4 b).2.1 := by decide +kernel
theorem tyX4_ok : ∀ k, k < 9 → parseFieldDescriptor (TX4 k).2.2.1 = some (tyX4 k) := by decide +kernel
abbrev cX4_init : ByteArray := prog_6_method_1_code
def yX4_init : MethodName := ⟨RX4, "<init>", "()V"⟩
abbrev cX4_has : ByteArray := prog_6_method_2_code
def yX4_has : MethodName := ⟨RX4, "has", "(I)Z"⟩
abbrev cX4_find : ByteArray := prog_6_method_3_code
def yX4_find : MethodName := ⟨RX4, "find", "(LGroutline$Layout;LGroutline$Bars;)V"⟩
abbrev cX4_add : ByteArray := prog_6_method_4_code
def yX4_add : MethodName := ⟨RX4, "add", "(LGroutline$Layout;LGroutline$Bars;II)V"⟩
abbrev cX4_measure : ByteArray := prog_6_method_5_code
def yX4_measure : MethodName := ⟨RX4, "measure", "(LGroutline$Bars;I)V"⟩
def RX5 : String := "Groutline$Stack"
def TX5 : u_T := fun k => match k with
  | 0 => ("Groutline$Stack", "count", "I", false)
  | 1 => ("Groutline$Stack", "moved", "I", false)
  | 2 => ("Groutline$Stack", "crateFloors", "[I", true)
  | _ => ("Groutline$Stack", "crateTiles", "[I", true)
def tyX5 : Nat → FieldType := fun k => match k with
  | 0 => .int
  | 1 => .int
  | 2 => .array .int
  | _ => .array .int
abbrev wsX50 : List Cond := u_ws RX5 TX5 4
theorem nmX5 : ∀ a, a < 4 → ∀ b, b < 4 → a ≠ b → (TX5 a).2.1 ≠ (TX5 b).2.1 := by decide +kernel
theorem tyX5_ok : ∀ k, k < 4 → parseFieldDescriptor (TX5 k).2.2.1 = some (tyX5 k) := by decide +kernel
abbrev cX5_init : ByteArray := prog_7_method_1_code
def yX5_init : MethodName := ⟨RX5, "<init>", "()V"⟩
abbrev cX5_isFull : ByteArray := prog_7_method_2_code
def yX5_isFull : MethodName := ⟨RX5, "isFull", "()Z"⟩
abbrev cX5_put : ByteArray := prog_7_method_3_code
def yX5_put : MethodName := ⟨RX5, "put", "(II)V"⟩
abbrev cX5_takeTopmostFor : ByteArray := prog_7_method_4_code
def yX5_takeTopmostFor : MethodName := ⟨RX5, "takeTopmostFor", "(I)I"⟩
abbrev cX5_has : ByteArray := prog_7_method_5_code
def yX5_has : MethodName := ⟨RX5, "has", "(I)Z"⟩
abbrev cX5_remove : ByteArray := prog_7_method_6_code
def yX5_remove : MethodName := ⟨RX5, "remove", "(I)V"⟩
def RX6 : String := "Groutline$Work"
def TX6 : u_T := fun k => match k with
  | 0 => ("Groutline$Work", "hour", "I", false)
  | 1 => ("Groutline$Work", "groutHours", "I", false)
  | 2 => ("Groutline$Work", "hasBegun", "Z", false)
  | 3 => ("Groutline$Work", "laid", "[Z", true)
  | _ => ("Groutline$Work", "dryHours", "[I", true)
def tyX6 : Nat → FieldType := fun k => match k with
  | 0 => .int
  | 1 => .int
  | 2 => .boolean
  | 3 => .array .boolean
  | _ => .array .int
abbrev wsX60 : List Cond := u_ws RX6 TX6 5
theorem nmX6 : ∀ a, a < 5 → ∀ b, b < 5 → a ≠ b → (TX6 a).2.1 ≠ (TX6 b).2.1 := by decide +kernel
theorem tyX6_ok : ∀ k, k < 5 → parseFieldDescriptor (TX6 k).2.2.1 = some (tyX6 k) := by decide +kernel
abbrev cX6_init : ByteArray := prog_8_method_1_code
def yX6_init : MethodName := ⟨RX6, "<init>", "()V"⟩
abbrev cX6_isLaid : ByteArray := prog_8_method_2_code
def yX6_isLaid : MethodName := ⟨RX6, "isLaid", "(I)Z"⟩
abbrev cX6_dryHourOf : ByteArray := prog_8_method_3_code
def yX6_dryHourOf : MethodName := ⟨RX6, "dryHourOf", "(I)I"⟩
abbrev cX6_canStart : ByteArray := prog_8_method_4_code
def yX6_canStart : MethodName := ⟨RX6, "canStart", "(I)Z"⟩
abbrev cX6_finish : ByteArray := prog_8_method_5_code
def yX6_finish : MethodName := ⟨RX6, "finish", "(II)V"⟩
def RX7 : String := "Groutline"
def TX7 : u_T := fun k => match k with
  | 0 => ("Groutline", "layout", "LGroutline$Layout;", true)
  | 1 => ("Groutline", "bars", "LGroutline$Bars;", true)
  | 2 => ("Groutline", "pieces", "LGroutline$Pieces;", true)
  | 3 => ("Groutline", "cuts", "LGroutline$Cuts;", true)
  | 4 => ("Groutline", "stack", "LGroutline$Stack;", true)
  | 5 => ("Groutline", "work", "LGroutline$Work;", true)
  | _ => ("Groutline", "frame", "LGroutline$Frame;", true)
def tyX7 : Nat → FieldType := fun k => match k with
  | 0 => .object "Groutline$Layout"
  | 1 => .object "Groutline$Bars"
  | 2 => .object "Groutline$Pieces"
  | 3 => .object "Groutline$Cuts"
  | 4 => .object "Groutline$Stack"
  | 5 => .object "Groutline$Work"
  | _ => .object "Groutline$Frame"
abbrev wsX70 : List Cond := u_ws RX7 TX7 7
theorem nmX7 : ∀ a, a < 7 → ∀ b, b < 7 → a ≠ b → (TX7 a).2.1 ≠ (TX7 b).2.1 := by decide +kernel
theorem tyX7_ok : ∀ k, k < 7 → parseFieldDescriptor (TX7 k).2.2.1 = some (tyX7 k) := by decide +kernel
abbrev cX7_init : ByteArray := prog_1_method_1_code
def yX7_init : MethodName := ⟨RX7, "<init>", "()V"⟩
abbrev cX7_plan : ByteArray := prog_1_method_2_code
def yX7_plan : MethodName := ⟨RX7, "plan", "(IIII)I"⟩
abbrev cX7_pillar : ByteArray := prog_1_method_3_code
def yX7_pillar : MethodName := ⟨RX7, "pillar", "(IIZ)Z"⟩
abbrev cX7_door : ByteArray := prog_1_method_4_code
def yX7_door : MethodName := ⟨RX7, "door", "(I)I"⟩
abbrev cX7_ofPiece : ByteArray := prog_1_method_5_code
def yX7_ofPiece : MethodName := ⟨RX7, "ofPiece", "(II)I"⟩
abbrev cX7_pieceAt : ByteArray := prog_1_method_6_code
def yX7_pieceAt : MethodName := ⟨RX7, "pieceAt", "(II)I"⟩
abbrev cX7_piecesAnew : ByteArray := prog_1_method_7_code
def yX7_piecesAnew : MethodName := ⟨RX7, "piecesAnew", "()I"⟩
abbrev cX7_tiles : ByteArray := prog_1_method_8_code
def yX7_tiles : MethodName := ⟨RX7, "tiles", "()I"⟩
abbrev cX7_rest : ByteArray := prog_1_method_9_code
def yX7_rest : MethodName := ⟨RX7, "rest", "(I)I"⟩
abbrev cX7_crate : ByteArray := prog_1_method_10_code
def yX7_crate : MethodName := ⟨RX7, "crate", "(II)I"⟩
abbrev cX7_fetch : ByteArray := prog_1_method_11_code
def yX7_fetch : MethodName := ⟨RX7, "fetch", "(I)I"⟩
abbrev cX7_moves : ByteArray := prog_1_method_12_code
def yX7_moves : MethodName := ⟨RX7, "moves", "()I"⟩
abbrev cX7_grout : ByteArray := prog_1_method_13_code
def yX7_grout : MethodName := ⟨RX7, "grout", "(I)I"⟩
abbrev cX7_lay : ByteArray := prog_1_method_14_code
def yX7_lay : MethodName := ⟨RX7, "lay", "(I)I"⟩
abbrev cX7_dry : ByteArray := prog_1_method_15_code
def yX7_dry : MethodName := ⟨RX7, "dry", "(I)I"⟩
abbrev cX7_strips : ByteArray := prog_1_method_16_code
def yX7_strips : MethodName := ⟨RX7, "strips", "()I"⟩
abbrev cX7_pass : ByteArray := prog_1_method_17_code
def yX7_pass : MethodName := ⟨RX7, "pass", "(I)I"⟩
abbrev cX7_renew : ByteArray := prog_1_method_18_code
def yX7_renew : MethodName := ⟨RX7, "renew", "()V"⟩
abbrev cX7_piecesOfStrip : ByteArray := prog_1_method_19_code
def yX7_piecesOfStrip : MethodName := ⟨RX7, "piecesOfStrip", "(I)I"⟩
abbrev cX7_isFirstOfItsPiece : ByteArray := prog_1_method_20_code
def yX7_isFirstOfItsPiece : MethodName := ⟨RX7, "isFirstOfItsPiece", "(II)Z"⟩
abbrev cX7_isWithin : ByteArray := prog_1_method_21_code
def yX7_isWithin : MethodName := ⟨RX7, "isWithin", "(III)Z"⟩
abbrev cX7_isCell : ByteArray := prog_1_method_22_code
def yX7_isCell : MethodName := ⟨RX7, "isCell", "(II)Z"⟩
abbrev cX7_isFloor : ByteArray := prog_1_method_23_code
def yX7_isFloor : MethodName := ⟨RX7, "isFloor", "(I)Z"⟩
abbrev cX7_cellAt : ByteArray := prog_1_method_24_code
def yX7_cellAt : MethodName := ⟨RX7, "cellAt", "(II)I"⟩
abbrev cX7_timesIn : ByteArray := prog_1_method_25_code
def yX7_timesIn : MethodName := ⟨RX7, "timesIn", "(II)I"⟩
def RX8 : String := "GroutlineModel"
def TX8 : u_T := fun k => match k with
  | 0 => ("GroutlineModel", "wide", "I", false)
  | 1 => ("GroutlineModel", "high", "I", false)
  | 2 => ("GroutlineModel", "border", "I", false)
  | 3 => ("GroutlineModel", "pattern", "I", false)
  | 4 => ("GroutlineModel", "door", "I", false)
  | 5 => ("GroutlineModel", "pillar", "[I", true)
  | 6 => ("GroutlineModel", "shut", "[I", true)
  | 7 => ("GroutlineModel", "pk", "[I", true)
  | 8 => ("GroutlineModel", "pf", "[I", true)
  | 9 => ("GroutlineModel", "pn", "[I", true)
  | 10 => ("GroutlineModel", "pr", "[I", true)
  | 11 => ("GroutlineModel", "left", "[I", true)
  | 12 => ("GroutlineModel", "right", "[I", true)
  | 13 => ("GroutlineModel", "top", "[I", true)
  | 14 => ("GroutlineModel", "bottom", "[I", true)
  | 15 => ("GroutlineModel", "at", "[I", true)
  | 16 => ("GroutlineModel", "pieces", "I", false)
  | 17 => ("GroutlineModel", "tiles", "I", false)
  | 18 => ("GroutlineModel", "rw", "[I", true)
  | 19 => ("GroutlineModel", "rh", "[I", true)
  | 20 => ("GroutlineModel", "rp", "[I", true)
  | 21 => ("GroutlineModel", "rests", "I", false)
  | 22 => ("GroutlineModel", "cf", "[I", true)
  | 23 => ("GroutlineModel", "cn", "[I", true)
  | 24 => ("GroutlineModel", "crates", "I", false)
  | 25 => ("GroutlineModel", "moves", "I", false)
  | 26 => ("GroutlineModel", "dry", "[I", true)
  | 27 => ("GroutlineModel", "anyLaid", "Z", false)
  | 28 => ("GroutlineModel", "grout", "I", false)
  | 29 => ("GroutlineModel", "hour", "I", false)
  | _ => ("GroutlineModel", "thrown", "I", false)
def tyX8 : Nat → FieldType := fun k => match k with
  | 0 => .int
  | 1 => .int
  | 2 => .int
  | 3 => .int
  | 4 => .int
  | 5 => .array .int
  | 6 => .array .int
  | 7 => .array .int
  | 8 => .array .int
  | 9 => .array .int
  | 10 => .array .int
  | 11 => .array .int
  | 12 => .array .int
  | 13 => .array .int
  | 14 => .array .int
  | 15 => .array .int
  | 16 => .int
  | 17 => .int
  | 18 => .array .int
  | 19 => .array .int
  | 20 => .array .int
  | 21 => .int
  | 22 => .array .int
  | 23 => .array .int
  | 24 => .int
  | 25 => .int
  | 26 => .array .int
  | 27 => .boolean
  | 28 => .int
  | 29 => .int
  | _ => .int
abbrev wsX80 : List Cond := u_ws RX8 TX8 31
theorem nmX8 : ∀ a, a < 31 → ∀ b, b < 31 → a ≠ b → (TX8 a).2.1 ≠ (TX8 b).2.1 := by decide +kernel
theorem tyX8_ok : ∀ k, k < 31 → parseFieldDescriptor (TX8 k).2.2.1 = some (tyX8 k) := by decide +kernel
abbrev cX8_init : ByteArray := prog_10_method_1_code
def yX8_init : MethodName := ⟨RX8, "<init>", "()V"⟩
abbrev cX8_thrown : ByteArray := prog_10_method_2_code
def yX8_thrown : MethodName := ⟨RX8, "thrown", "()I"⟩
abbrev cX8_holds : ByteArray := prog_10_method_3_code
def yX8_holds : MethodName := ⟨RX8, "holds", "(I)Z"⟩
abbrev cX8_in : ByteArray := prog_10_method_4_code
def yX8_in : MethodName := ⟨RX8, "in", "(III)Z"⟩
abbrev cX8_unlay : ByteArray := prog_10_method_5_code
def yX8_unlay : MethodName := ⟨RX8, "unlay", "()V"⟩
abbrev cX8_isBarred : ByteArray := prog_10_method_6_code
def yX8_isBarred : MethodName := ⟨RX8, "isBarred", "(I)Z"⟩
abbrev cX8_isEdge : ByteArray := prog_10_method_7_code
def yX8_isEdge : MethodName := ⟨RX8, "isEdge", "(I)Z"⟩
abbrev cX8_tileOf : ByteArray := prog_10_method_8_code
def yX8_tileOf : MethodName := ⟨RX8, "tileOf", "(I)I"⟩
abbrev cX8_isSame : ByteArray := prog_10_method_9_code
def yX8_isSame : MethodName := ⟨RX8, "isSame", "(II)Z"⟩
abbrev cX8_plans : ByteArray := prog_10_method_10_code
def yX8_plans : MethodName := ⟨RX8, "plans", "()V"⟩
abbrev cX8_bestRest : ByteArray := prog_10_method_11_code
def yX8_bestRest : MethodName := ⟨RX8, "bestRest", "(II)I"⟩
abbrev cX8_takeOut : ByteArray := prog_10_method_12_code
def yX8_takeOut : MethodName := ⟨RX8, "takeOut", "(I)V"⟩
abbrev cX8_cuts : ByteArray := prog_10_method_13_code
def yX8_cuts : MethodName := ⟨RX8, "cuts", "()V"⟩
abbrev cX8_courses : ByteArray := prog_10_method_14_code
def yX8_courses : MethodName := ⟨RX8, "courses", "()I"⟩
abbrev cX8_stripOfRow : ByteArray := prog_10_method_15_code
def yX8_stripOfRow : MethodName := ⟨RX8, "stripOfRow", "(I)I"⟩
abbrev cX8_stripCount : ByteArray := prog_10_method_16_code
def yX8_stripCount : MethodName := ⟨RX8, "stripCount", "()I"⟩
abbrev cX8_plan : ByteArray := prog_10_method_17_code
def yX8_plan : MethodName := ⟨RX8, "plan", "(IIII)I"⟩
abbrev cX8_pillar : ByteArray := prog_10_method_18_code
def yX8_pillar : MethodName := ⟨RX8, "pillar", "(IIZ)Z"⟩
abbrev cX8_door : ByteArray := prog_10_method_19_code
def yX8_door : MethodName := ⟨RX8, "door", "(I)I"⟩
abbrev cX8_ofPiece : ByteArray := prog_10_method_20_code
def yX8_ofPiece : MethodName := ⟨RX8, "ofPiece", "(II)I"⟩
abbrev cX8_pieceAt : ByteArray := prog_10_method_21_code
def yX8_pieceAt : MethodName := ⟨RX8, "pieceAt", "(II)I"⟩
abbrev cX8_piecesAnew : ByteArray := prog_10_method_22_code
def yX8_piecesAnew : MethodName := ⟨RX8, "piecesAnew", "()I"⟩
abbrev cX8_tiles : ByteArray := prog_10_method_23_code
def yX8_tiles : MethodName := ⟨RX8, "tiles", "()I"⟩
abbrev cX8_rest : ByteArray := prog_10_method_24_code
def yX8_rest : MethodName := ⟨RX8, "rest", "(I)I"⟩
abbrev cX8_crate : ByteArray := prog_10_method_25_code
def yX8_crate : MethodName := ⟨RX8, "crate", "(II)I"⟩
abbrev cX8_fetch : ByteArray := prog_10_method_26_code
def yX8_fetch : MethodName := ⟨RX8, "fetch", "(I)I"⟩
abbrev cX8_moves : ByteArray := prog_10_method_27_code
def yX8_moves : MethodName := ⟨RX8, "moves", "()I"⟩
abbrev cX8_grout : ByteArray := prog_10_method_28_code
def yX8_grout : MethodName := ⟨RX8, "grout", "(I)I"⟩
abbrev cX8_isWet : ByteArray := prog_10_method_29_code
def yX8_isWet : MethodName := ⟨RX8, "isWet", "(I)Z"⟩
abbrev cX8_piecesOf : ByteArray := prog_10_method_30_code
def yX8_piecesOf : MethodName := ⟨RX8, "piecesOf", "(I)I"⟩
abbrev cX8_isStrip : ByteArray := prog_10_method_31_code
def yX8_isStrip : MethodName := ⟨RX8, "isStrip", "(I)Z"⟩
abbrev cX8_lay : ByteArray := prog_10_method_32_code
def yX8_lay : MethodName := ⟨RX8, "lay", "(I)I"⟩
abbrev cX8_dry : ByteArray := prog_10_method_33_code
def yX8_dry : MethodName := ⟨RX8, "dry", "(I)I"⟩
abbrev cX8_strips : ByteArray := prog_10_method_34_code
def yX8_strips : MethodName := ⟨RX8, "strips", "()I"⟩
abbrev cX8_pass : ByteArray := prog_10_method_35_code
def yX8_pass : MethodName := ⟨RX8, "pass", "(I)I"⟩
def RJx145de : String := "java/io/Serializable"
def TJx145de : u_T := fun k => match k with
  | _ => ("", "", "", false)
def tyJx145de : Nat → FieldType := fun k => match k with
  | _ => .int
abbrev wsJx145de0 : List Cond := u_ws RJx145de TJx145de 0
theorem nmJx145de : ∀ a, a < 0 → ∀ b, b < 0 → a ≠ b → (TJx145de a).2.1 ≠ (TJx145de b).2.1 := by decide +kernel
theorem tyJx145de_ok : ∀ k, k < 0 → parseFieldDescriptor (TJx145de k).2.2.1 = some (tyJx145de k) := by decide +kernel
def RJ9 : String := "java/lang/Math"
def TJ9 : u_T := fun k => match k with
  | _ => ("", "", "", false)
def tyJ9 : Nat → FieldType := fun k => match k with
  | _ => .int
abbrev wsJ90 : List Cond := u_ws RJ9 TJ9 0
theorem nmJ9 : ∀ a, a < 0 → ∀ b, b < 0 → a ≠ b → (TJ9 a).2.1 ≠ (TJ9 b).2.1 := by decide +kernel
theorem tyJ9_ok : ∀ k, k < 0 → parseFieldDescriptor (TJ9 k).2.2.1 = some (tyJ9 k) := by decide +kernel
abbrev cJ9_max_7cf53 : ByteArray := prog_15_method_65_code
def yJ9_max_7cf53 : MethodName := ⟨RJ9, "max", "(II)I"⟩
abbrev cJ9_min_7cf53 : ByteArray := prog_15_method_69_code
def yJ9_min_7cf53 : MethodName := ⟨RJ9, "min", "(II)I"⟩
def RJ0 : String := "java/lang/String"
def TJ0 : u_T := fun k => match k with
  | _ => ("", "", "", false)
def tyJ0 : Nat → FieldType := fun k => match k with
  | _ => .int
abbrev wsJ00 : List Cond := u_ws RJ0 TJ0 0
theorem nmJ0 : ∀ a, a < 0 → ∀ b, b < 0 → a ≠ b → (TJ0 a).2.1 ≠ (TJ0 b).2.1 := by decide +kernel
theorem tyJ0_ok : ∀ k, k < 0 → parseFieldDescriptor (TJ0 k).2.2.1 = some (tyJ0 k) := by decide +kernel
def RJ7 : String := "java/util/Arrays"
def TJ7 : u_T := fun k => match k with
  | _ => ("", "", "", false)
def tyJ7 : Nat → FieldType := fun k => match k with
  | _ => .int
abbrev wsJ70 : List Cond := u_ws RJ7 TJ7 0
theorem nmJ7 : ∀ a, a < 0 → ∀ b, b < 0 → a ≠ b → (TJ7 a).2.1 ≠ (TJ7 b).2.1 := by decide +kernel
theorem tyJ7_ok : ∀ k, k < 0 → parseFieldDescriptor (TJ7 k).2.2.1 = some (tyJ7 k) := by decide +kernel
abbrev cJ7_fill_53178 : ByteArray := prog_19_method_103_code
def yJ7_fill_53178 : MethodName := ⟨RJ7, "fill", "([II)V"⟩
def RL : String := "GroutlineLaw"
abbrev cL_plan : ByteArray := method_3_code
def yL_plan : MethodName := ⟨RL, "plan", "(LGroutline;IIII[J)I"⟩
abbrev cL_pillar : ByteArray := method_4_code
def yL_pillar : MethodName := ⟨RL, "pillar", "(LGroutline;IIZ[J)I"⟩
abbrev cL_door : ByteArray := method_5_code
def yL_door : MethodName := ⟨RL, "door", "(LGroutline;I[J)I"⟩
abbrev cL_ofPiece : ByteArray := method_6_code
def yL_ofPiece : MethodName := ⟨RL, "ofPiece", "(LGroutline;II[J)I"⟩
abbrev cL_pieceAt : ByteArray := method_7_code
def yL_pieceAt : MethodName := ⟨RL, "pieceAt", "(LGroutline;II[J)I"⟩
abbrev cL_rest : ByteArray := method_8_code
def yL_rest : MethodName := ⟨RL, "rest", "(LGroutline;I[J)I"⟩
abbrev cL_crate : ByteArray := method_9_code
def yL_crate : MethodName := ⟨RL, "crate", "(LGroutline;II[J)I"⟩
abbrev cL_fetch : ByteArray := method_10_code
def yL_fetch : MethodName := ⟨RL, "fetch", "(LGroutline;I[J)I"⟩
abbrev cL_grout : ByteArray := method_11_code
def yL_grout : MethodName := ⟨RL, "grout", "(LGroutline;I[J)I"⟩
abbrev cL_lay : ByteArray := method_12_code
def yL_lay : MethodName := ⟨RL, "lay", "(LGroutline;I[J)I"⟩
abbrev cL_dry : ByteArray := method_13_code
def yL_dry : MethodName := ⟨RL, "dry", "(LGroutline;I[J)I"⟩
abbrev cL_pass : ByteArray := method_14_code
def yL_pass : MethodName := ⟨RL, "pass", "(LGroutline;I[J)I"⟩
abbrev cL_law : ByteArray := code
def yL_law : MethodName := ⟨RL, "law", "([I)Z"⟩
def wsX0_init : List Cond := .code yX0_init cX0_init 1 none :: ([.methodLink RX0 3 objectInit, .instanceMethod objectInit, .code objectInit ⟨#[0xb1]⟩ 1 none, .arrayClass .boolean, .fieldLink RX0 9 "Groutline$Bars" "pillars" "[Z", .fieldLink RX0 15 "Groutline$Bars" "barred" "[Z", .fieldLink RX0 18 "Groutline$Bars" "doorColumn" "I"] ++ wsX00)
def wsX7_isCell : List Cond := .code yX7_isCell cX7_isCell 2 (some .boolean) :: ([])
def wsX7_cellAt : List Cond := .code yX7_cellAt cX7_cellAt 2 (some .int) :: ([])
def wsX0_setPillar : List Cond := .code yX0_setPillar cX0_setPillar 5 (some .boolean) :: ([.fieldLink RX0 9 "Groutline$Bars" "pillars" "[Z", .static yX7_isCell, .initialized RX7, .code yX7_isCell cX7_isCell 2 (some .boolean), .static yX7_cellAt, .code yX7_cellAt cX7_cellAt 2 (some .int)] ++ wsX00)
def wsX0_areAt : List Cond := .code yX0_areAt cX0_areAt 3 (some .boolean) :: ([.fieldLink RX0 15 "Groutline$Bars" "barred" "[Z", .static yX7_isCell, .initialized RX7, .code yX7_isCell cX7_isCell 2 (some .boolean), .static yX7_cellAt, .code yX7_cellAt cX7_cellAt 2 (some .int)] ++ wsX00)
def wsX3_lowerBorder : List Cond := .code yX3_lowerBorder cX3_lowerBorder 1 (some .int) :: ([.fieldLink RX3 18 "Groutline$Layout" "border" "I"] ++ wsX30)
def wsX7_timesIn : List Cond := .code yX7_timesIn cX7_timesIn 2 (some .int) :: ([])
def wsX3_courseOfRow : List Cond := .code yX3_courseOfRow cX3_courseOfRow 2 (some .int) :: ([.fieldLink RX3 15 "Groutline$Layout" "high" "I", .fieldLink RX3 18 "Groutline$Layout" "border" "I", .static yX7_timesIn, .initialized RX7, .code yX7_timesIn cX7_timesIn 2 (some .int)] ++ wsX30)
def wsX3_countCourses : List Cond := .code yX3_countCourses cX3_countCourses 1 (some .int) :: ([.methodLink RX3 28 yX3_lowerBorder, .instanceMethod yX3_lowerBorder, .selects RX3 yX3_lowerBorder yX3_lowerBorder, .initialized RX3, .code yX3_lowerBorder cX3_lowerBorder 1 (some .int), .fieldLink RX3 18 "Groutline$Layout" "border" "I", .methodLink RX3 35 yX3_courseOfRow, .instanceMethod yX3_courseOfRow, .selects RX3 yX3_courseOfRow yX3_courseOfRow, .code yX3_courseOfRow cX3_courseOfRow 2 (some .int), .fieldLink RX3 15 "Groutline$Layout" "high" "I", .static yX7_timesIn, .initialized RX7, .code yX7_timesIn cX7_timesIn 2 (some .int)] ++ wsX30)
def wsX3_stripOfRow : List Cond := .code yX3_stripOfRow cX3_stripOfRow 2 (some .int) :: ([.fieldLink RX3 18 "Groutline$Layout" "border" "I", .methodLink RX3 28 yX3_lowerBorder, .instanceMethod yX3_lowerBorder, .selects RX3 yX3_lowerBorder yX3_lowerBorder, .initialized RX3, .code yX3_lowerBorder cX3_lowerBorder 1 (some .int), .methodLink RX3 39 yX3_countCourses, .instanceMethod yX3_countCourses, .selects RX3 yX3_countCourses yX3_countCourses, .code yX3_countCourses cX3_countCourses 1 (some .int), .methodLink RX3 35 yX3_courseOfRow, .instanceMethod yX3_courseOfRow, .selects RX3 yX3_courseOfRow yX3_courseOfRow, .code yX3_courseOfRow cX3_courseOfRow 2 (some .int), .fieldLink RX3 15 "Groutline$Layout" "high" "I", .static yX7_timesIn, .initialized RX7, .code yX7_timesIn cX7_timesIn 2 (some .int)] ++ wsX30)
def wsX6_isLaid : List Cond := .code yX6_isLaid cX6_isLaid 2 (some .boolean) :: ([.fieldLink RX6 22 "Groutline$Work" "laid" "[Z"] ++ wsX60)
def wsX0_isDoor : List Cond := .code yX0_isDoor cX0_isDoor 3 (some .boolean) :: ([.fieldLink RX0 18 "Groutline$Bars" "doorColumn" "I"] ++ wsX00)
def wsX0_renewRow : List Cond := .code yX0_renewRow cX0_renewRow 4 none :: ([.fieldLink RX0 15 "Groutline$Bars" "barred" "[Z", .fieldLink RX0 9 "Groutline$Bars" "pillars" "[Z", .static yX7_isCell, .initialized RX7, .code yX7_isCell cX7_isCell 2 (some .boolean), .static yX7_cellAt, .code yX7_cellAt cX7_cellAt 2 (some .int), .methodLink RX0 46 yX0_isDoor, .instanceMethod yX0_isDoor, .selects RX0 yX0_isDoor yX0_isDoor, .initialized RX0, .code yX0_isDoor cX0_isDoor 3 (some .boolean), .fieldLink RX0 18 "Groutline$Bars" "doorColumn" "I"] ++ wsX00)
def wsX0_renew_r1 : List Cond := [Cond.methodLink RX0 30 yX3_stripOfRow, Cond.instanceMethod yX3_stripOfRow, Cond.selects RX3 yX3_stripOfRow yX3_stripOfRow, Cond.initialized RX3, Cond.code yX3_stripOfRow cX3_stripOfRow 2 (some .int), Cond.fieldLink RX3 18 "Groutline$Layout" "border" "I", Cond.methodLink RX3 28 yX3_lowerBorder, Cond.instanceMethod yX3_lowerBorder, Cond.selects RX3 yX3_lowerBorder yX3_lowerBorder, Cond.code yX3_lowerBorder cX3_lowerBorder 1 (some .int), Cond.methodLink RX3 39 yX3_countCourses, Cond.instanceMethod yX3_countCourses, Cond.selects RX3 yX3_countCourses yX3_countCourses, Cond.code yX3_countCourses cX3_countCourses 1 (some .int), Cond.methodLink RX3 35 yX3_courseOfRow, Cond.instanceMethod yX3_courseOfRow, Cond.selects RX3 yX3_courseOfRow yX3_courseOfRow, Cond.code yX3_courseOfRow cX3_courseOfRow 2 (some .int), Cond.fieldLink RX3 15 "Groutline$Layout" "high" "I", Cond.static yX7_timesIn, Cond.initialized RX7, Cond.code yX7_timesIn cX7_timesIn 2 (some .int), Cond.methodLink RX0 36 yX6_isLaid, Cond.instanceMethod yX6_isLaid]
def wsX0_renew_r2 : List Cond := [Cond.selects RX6 yX6_isLaid yX6_isLaid, Cond.initialized RX6, Cond.code yX6_isLaid cX6_isLaid 2 (some .boolean), Cond.fieldLink RX6 22 "Groutline$Work" "laid" "[Z", Cond.methodLink RX0 42 yX0_renewRow, Cond.instanceMethod yX0_renewRow, Cond.selects RX0 yX0_renewRow yX0_renewRow, Cond.initialized RX0, Cond.code yX0_renewRow cX0_renewRow 4 none, Cond.fieldLink RX0 15 "Groutline$Bars" "barred" "[Z", Cond.fieldLink RX0 9 "Groutline$Bars" "pillars" "[Z", Cond.static yX7_isCell, Cond.code yX7_isCell cX7_isCell 2 (some .boolean), Cond.static yX7_cellAt, Cond.code yX7_cellAt cX7_cellAt 2 (some .int), Cond.methodLink RX0 46 yX0_isDoor, Cond.instanceMethod yX0_isDoor, Cond.selects RX0 yX0_isDoor yX0_isDoor, Cond.code yX0_isDoor cX0_isDoor 3 (some .boolean), Cond.fieldLink RX0 18 "Groutline$Bars" "doorColumn" "I"]
def wsX0_renew : List Cond := .code yX0_renew cX0_renew 4 none :: ((wsX0_renew_r1 ++ wsX0_renew_r2) ++ wsX30 ++ wsX60 ++ wsX00)
def wsX1_init : List Cond := .code yX1_init cX1_init 1 none :: ([.methodLink RX1 3 objectInit, .instanceMethod objectInit, .code objectInit ⟨#[0xb1]⟩ 1 none, .fieldLink RX1 9 "Groutline$Cuts" "newTiles" "I", .arrayClass .int, .fieldLink RX1 15 "Groutline$Cuts" "sources" "[I", .fieldLink RX1 19 "Groutline$Cuts" "restCount" "I", .fieldLink RX1 22 "Groutline$Cuts" "restWides" "[I", .fieldLink RX1 25 "Groutline$Cuts" "restHighs" "[I", .fieldLink RX1 28 "Groutline$Cuts" "restMakers" "[I"] ++ wsX10)
def wsX1_hasRest : List Cond := .code yX1_hasRest cX1_hasRest 2 (some .boolean) :: ([.fieldLink RX1 19 "Groutline$Cuts" "restCount" "I"] ++ wsX10)
def wsX1_sizeOfRest : List Cond := .code yX1_sizeOfRest cX1_sizeOfRest 2 (some .int) :: ([.fieldLink RX1 22 "Groutline$Cuts" "restWides" "[I", .fieldLink RX1 25 "Groutline$Cuts" "restHighs" "[I", .methodLink RX1 31 yX1_hasRest, .instanceMethod yX1_hasRest, .selects RX1 yX1_hasRest yX1_hasRest, .initialized RX1, .code yX1_hasRest cX1_hasRest 2 (some .boolean), .fieldLink RX1 19 "Groutline$Cuts" "restCount" "I"] ++ wsX10)
def wsJ7_fill_53178 : List Cond := .code yJ7_fill_53178 cJ7_fill_53178 4 none :: ([])
def wsX4_has : List Cond := .code yX4_has cX4_has 2 (some .boolean) :: ([.fieldLink RX4 9 "Groutline$Pieces" "count" "I"] ++ wsX40)
def wsX1_bestRestFor : List Cond := .code yX1_bestRestFor cX1_bestRestFor 8 (some .int) :: ([.fieldLink RX1 19 "Groutline$Cuts" "restCount" "I", .fieldLink RX1 22 "Groutline$Cuts" "restWides" "[I", .fieldLink RX1 25 "Groutline$Cuts" "restHighs" "[I"] ++ wsX10)
def wsX1_addRest : List Cond := .code yX1_addRest cX1_addRest 5 none :: ([.fieldLink RX1 19 "Groutline$Cuts" "restCount" "I", .fieldLink RX1 22 "Groutline$Cuts" "restWides" "[I", .fieldLink RX1 25 "Groutline$Cuts" "restHighs" "[I", .fieldLink RX1 28 "Groutline$Cuts" "restMakers" "[I", .methodLink RX1 31 yX1_hasRest, .instanceMethod yX1_hasRest, .selects RX1 yX1_hasRest yX1_hasRest, .initialized RX1, .code yX1_hasRest cX1_hasRest 2 (some .boolean)] ++ wsX10)
def wsX1_leave : List Cond := .code yX1_leave cX1_leave 8 none :: ([.methodLink RX1 79 yX1_addRest, .instanceMethod yX1_addRest, .selects RX1 yX1_addRest yX1_addRest, .initialized RX1, .code yX1_addRest cX1_addRest 5 none, .fieldLink RX1 19 "Groutline$Cuts" "restCount" "I", .fieldLink RX1 22 "Groutline$Cuts" "restWides" "[I", .fieldLink RX1 25 "Groutline$Cuts" "restHighs" "[I", .fieldLink RX1 28 "Groutline$Cuts" "restMakers" "[I", .methodLink RX1 31 yX1_hasRest, .instanceMethod yX1_hasRest, .selects RX1 yX1_hasRest yX1_hasRest, .code yX1_hasRest cX1_hasRest 2 (some .boolean)] ++ wsX10)
def wsX1_removeRest : List Cond := .code yX1_removeRest cX1_removeRest 3 none :: ([.fieldLink RX1 19 "Groutline$Cuts" "restCount" "I", .fieldLink RX1 22 "Groutline$Cuts" "restWides" "[I", .fieldLink RX1 25 "Groutline$Cuts" "restHighs" "[I", .fieldLink RX1 28 "Groutline$Cuts" "restMakers" "[I", .methodLink RX1 31 yX1_hasRest, .instanceMethod yX1_hasRest, .selects RX1 yX1_hasRest yX1_hasRest, .initialized RX1, .code yX1_hasRest cX1_hasRest 2 (some .boolean)] ++ wsX10)
def wsX1_cut_r1 : List Cond := [Cond.fieldLink RX1 9 "Groutline$Cuts" "newTiles" "I", Cond.fieldLink RX1 63 "Groutline$Layout" "wide" "I", Cond.fieldLink RX1 68 "Groutline$Layout" "high" "I", Cond.fieldLink RX1 22 "Groutline$Cuts" "restWides" "[I", Cond.fieldLink RX1 25 "Groutline$Cuts" "restHighs" "[I", Cond.fieldLink RX1 15 "Groutline$Cuts" "sources" "[I", Cond.fieldLink RX1 28 "Groutline$Cuts" "restMakers" "[I", Cond.methodLink RX1 59 yX1_bestRestFor, Cond.instanceMethod yX1_bestRestFor, Cond.selects RX1 yX1_bestRestFor yX1_bestRestFor, Cond.initialized RX1, Cond.code yX1_bestRestFor cX1_bestRestFor 8 (some .int), Cond.fieldLink RX1 19 "Groutline$Cuts" "restCount" "I", Cond.methodLink RX1 31 yX1_hasRest, Cond.instanceMethod yX1_hasRest, Cond.selects RX1 yX1_hasRest yX1_hasRest, Cond.code yX1_hasRest cX1_hasRest 2 (some .boolean), Cond.methodLink RX1 71 yX1_leave, Cond.instanceMethod yX1_leave, Cond.selects RX1 yX1_leave yX1_leave, Cond.code yX1_leave cX1_leave 8 none, Cond.methodLink RX1 79 yX1_addRest, Cond.instanceMethod yX1_addRest, Cond.selects RX1 yX1_addRest yX1_addRest]
def wsX1_cut_r2 : List Cond := [Cond.code yX1_addRest cX1_addRest 5 none, Cond.methodLink RX1 75 yX1_removeRest, Cond.instanceMethod yX1_removeRest, Cond.selects RX1 yX1_removeRest yX1_removeRest, Cond.code yX1_removeRest cX1_removeRest 3 none]
def wsX1_cut : List Cond := .code yX1_cut cX1_cut 8 none :: ((wsX1_cut_r1 ++ wsX1_cut_r2) ++ wsX10 ++ wsX30)
def wsX1_cutAll_r1 : List Cond := [Cond.fieldLink RX1 9 "Groutline$Cuts" "newTiles" "I", Cond.fieldLink RX1 19 "Groutline$Cuts" "restCount" "I", Cond.fieldLink RX1 15 "Groutline$Cuts" "sources" "[I", Cond.fieldLink RX1 46 "Groutline$Pieces" "kinds" "[I", Cond.fieldLink RX1 49 "Groutline$Pieces" "boxWides" "[I", Cond.fieldLink RX1 52 "Groutline$Pieces" "boxHighs" "[I", Cond.methodLink RX1 35 yJ7_fill_53178, Cond.static yJ7_fill_53178, Cond.initialized RJ7, Cond.code yJ7_fill_53178 cJ7_fill_53178 4 none, Cond.methodLink RX1 41 yX4_has, Cond.instanceMethod yX4_has, Cond.selects RX4 yX4_has yX4_has, Cond.initialized RX4, Cond.code yX4_has cX4_has 2 (some .boolean), Cond.fieldLink RX4 9 "Groutline$Pieces" "count" "I", Cond.methodLink RX1 55 yX1_cut, Cond.instanceMethod yX1_cut, Cond.selects RX1 yX1_cut yX1_cut, Cond.initialized RX1, Cond.code yX1_cut cX1_cut 8 none, Cond.fieldLink RX1 63 "Groutline$Layout" "wide" "I", Cond.fieldLink RX1 68 "Groutline$Layout" "high" "I", Cond.fieldLink RX1 22 "Groutline$Cuts" "restWides" "[I"]
def wsX1_cutAll_r2 : List Cond := [Cond.fieldLink RX1 25 "Groutline$Cuts" "restHighs" "[I", Cond.fieldLink RX1 28 "Groutline$Cuts" "restMakers" "[I", Cond.methodLink RX1 59 yX1_bestRestFor, Cond.instanceMethod yX1_bestRestFor, Cond.selects RX1 yX1_bestRestFor yX1_bestRestFor, Cond.code yX1_bestRestFor cX1_bestRestFor 8 (some .int), Cond.methodLink RX1 31 yX1_hasRest, Cond.instanceMethod yX1_hasRest, Cond.selects RX1 yX1_hasRest yX1_hasRest, Cond.code yX1_hasRest cX1_hasRest 2 (some .boolean), Cond.methodLink RX1 71 yX1_leave, Cond.instanceMethod yX1_leave, Cond.selects RX1 yX1_leave yX1_leave, Cond.code yX1_leave cX1_leave 8 none, Cond.methodLink RX1 79 yX1_addRest, Cond.instanceMethod yX1_addRest, Cond.selects RX1 yX1_addRest yX1_addRest, Cond.code yX1_addRest cX1_addRest 5 none, Cond.methodLink RX1 75 yX1_removeRest, Cond.instanceMethod yX1_removeRest, Cond.selects RX1 yX1_removeRest yX1_removeRest, Cond.code yX1_removeRest cX1_removeRest 3 none]
def wsX1_cutAll : List Cond := .code yX1_cutAll cX1_cutAll 4 none :: ((wsX1_cutAll_r1 ++ wsX1_cutAll_r2) ++ wsX10 ++ wsX40 ++ wsX30)
def wsX2_init : List Cond := .code yX2_init cX2_init 1 none :: ([.methodLink RX2 1 objectInit, .instanceMethod objectInit, .code objectInit ⟨#[0xb1]⟩ 1 none, .fieldLink RX2 7 "Groutline$Frame" "left" "I", .fieldLink RX2 13 "Groutline$Frame" "right" "I", .fieldLink RX2 16 "Groutline$Frame" "top" "I", .fieldLink RX2 19 "Groutline$Frame" "bottom" "I"] ++ wsX20)
def wsX2_set : List Cond := .code yX2_set cX2_set 5 none :: ([.fieldLink RX2 7 "Groutline$Frame" "left" "I", .fieldLink RX2 13 "Groutline$Frame" "right" "I", .fieldLink RX2 16 "Groutline$Frame" "top" "I", .fieldLink RX2 19 "Groutline$Frame" "bottom" "I"] ++ wsX20)
def wsX3_init : List Cond := .code yX3_init cX3_init 1 none :: ([.methodLink RX3 3 objectInit, .instanceMethod objectInit, .code objectInit ⟨#[0xb1]⟩ 1 none, .fieldLink RX3 9 "Groutline$Layout" "wide" "I", .fieldLink RX3 15 "Groutline$Layout" "high" "I", .fieldLink RX3 18 "Groutline$Layout" "border" "I", .fieldLink RX3 21 "Groutline$Layout" "pattern" "I"] ++ wsX30)
def wsX3_set : List Cond := .code yX3_set cX3_set 5 none :: ([.fieldLink RX3 9 "Groutline$Layout" "wide" "I", .fieldLink RX3 15 "Groutline$Layout" "high" "I", .fieldLink RX3 18 "Groutline$Layout" "border" "I", .fieldLink RX3 21 "Groutline$Layout" "pattern" "I"] ++ wsX30)
def wsX3_rightBorder : List Cond := .code yX3_rightBorder cX3_rightBorder 1 (some .int) :: ([.fieldLink RX3 18 "Groutline$Layout" "border" "I"] ++ wsX30)
def wsX3_isBorder : List Cond := .code yX3_isBorder cX3_isBorder 3 (some .boolean) :: ([.fieldLink RX3 18 "Groutline$Layout" "border" "I", .methodLink RX3 24 yX3_rightBorder, .instanceMethod yX3_rightBorder, .selects RX3 yX3_rightBorder yX3_rightBorder, .initialized RX3, .code yX3_rightBorder cX3_rightBorder 1 (some .int), .methodLink RX3 28 yX3_lowerBorder, .instanceMethod yX3_lowerBorder, .selects RX3 yX3_lowerBorder yX3_lowerBorder, .code yX3_lowerBorder cX3_lowerBorder 1 (some .int)] ++ wsX30)
def wsX3_countStrips : List Cond := .code yX3_countStrips cX3_countStrips 1 (some .int) :: ([.fieldLink RX3 18 "Groutline$Layout" "border" "I", .methodLink RX3 39 yX3_countCourses, .instanceMethod yX3_countCourses, .selects RX3 yX3_countCourses yX3_countCourses, .initialized RX3, .code yX3_countCourses cX3_countCourses 1 (some .int), .methodLink RX3 28 yX3_lowerBorder, .instanceMethod yX3_lowerBorder, .selects RX3 yX3_lowerBorder yX3_lowerBorder, .code yX3_lowerBorder cX3_lowerBorder 1 (some .int), .methodLink RX3 35 yX3_courseOfRow, .instanceMethod yX3_courseOfRow, .selects RX3 yX3_courseOfRow yX3_courseOfRow, .code yX3_courseOfRow cX3_courseOfRow 2 (some .int), .fieldLink RX3 15 "Groutline$Layout" "high" "I", .static yX7_timesIn, .initialized RX7, .code yX7_timesIn cX7_timesIn 2 (some .int)] ++ wsX30)
def wsX3_hasStrip : List Cond := .code yX3_hasStrip cX3_hasStrip 2 (some .boolean) :: ([.methodLink RX3 42 yX3_countStrips, .instanceMethod yX3_countStrips, .selects RX3 yX3_countStrips yX3_countStrips, .initialized RX3, .code yX3_countStrips cX3_countStrips 1 (some .int), .fieldLink RX3 18 "Groutline$Layout" "border" "I", .methodLink RX3 39 yX3_countCourses, .instanceMethod yX3_countCourses, .selects RX3 yX3_countCourses yX3_countCourses, .code yX3_countCourses cX3_countCourses 1 (some .int), .methodLink RX3 28 yX3_lowerBorder, .instanceMethod yX3_lowerBorder, .selects RX3 yX3_lowerBorder yX3_lowerBorder, .code yX3_lowerBorder cX3_lowerBorder 1 (some .int), .methodLink RX3 35 yX3_courseOfRow, .instanceMethod yX3_courseOfRow, .selects RX3 yX3_courseOfRow yX3_courseOfRow, .code yX3_courseOfRow cX3_courseOfRow 2 (some .int), .fieldLink RX3 15 "Groutline$Layout" "high" "I", .static yX7_timesIn, .initialized RX7, .code yX7_timesIn cX7_timesIn 2 (some .int)] ++ wsX30)
def wsX3_frame_r1 : List Cond := [Cond.fieldLink RX3 21 "Groutline$Layout" "pattern" "I", Cond.fieldLink RX3 18 "Groutline$Layout" "border" "I", Cond.fieldLink RX3 9 "Groutline$Layout" "wide" "I", Cond.fieldLink RX3 15 "Groutline$Layout" "high" "I", Cond.methodLink RX3 55 Lib.Math.max.name, Cond.static Lib.Math.max.name, Cond.initialized "java/lang/Math", Cond.code Lib.Math.max.name Lib.Math.max.code 2 (some .int), Cond.methodLink RX3 60 Lib.Math.min.name, Cond.static Lib.Math.min.name, Cond.code Lib.Math.min.name Lib.Math.min.code 2 (some .int), Cond.methodLink RX3 45 yX3_isBorder, Cond.instanceMethod yX3_isBorder, Cond.selects RX3 yX3_isBorder yX3_isBorder, Cond.initialized RX3, Cond.code yX3_isBorder cX3_isBorder 3 (some .boolean), Cond.methodLink RX3 24 yX3_rightBorder, Cond.instanceMethod yX3_rightBorder, Cond.selects RX3 yX3_rightBorder yX3_rightBorder, Cond.code yX3_rightBorder cX3_rightBorder 1 (some .int), Cond.methodLink RX3 28 yX3_lowerBorder, Cond.instanceMethod yX3_lowerBorder, Cond.selects RX3 yX3_lowerBorder yX3_lowerBorder, Cond.code yX3_lowerBorder cX3_lowerBorder 1 (some .int)]
def wsX3_frame_r2 : List Cond := [Cond.methodLink RX3 49 yX2_set, Cond.instanceMethod yX2_set, Cond.selects RX2 yX2_set yX2_set, Cond.initialized RX2, Cond.code yX2_set cX2_set 5 none, Cond.fieldLink RX2 7 "Groutline$Frame" "left" "I", Cond.fieldLink RX2 13 "Groutline$Frame" "right" "I", Cond.fieldLink RX2 16 "Groutline$Frame" "top" "I", Cond.fieldLink RX2 19 "Groutline$Frame" "bottom" "I", Cond.methodLink RX3 35 yX3_courseOfRow, Cond.instanceMethod yX3_courseOfRow, Cond.selects RX3 yX3_courseOfRow yX3_courseOfRow, Cond.code yX3_courseOfRow cX3_courseOfRow 2 (some .int), Cond.static yX7_timesIn, Cond.initialized RX7, Cond.code yX7_timesIn cX7_timesIn 2 (some .int)]
def wsX3_frame : List Cond := .code yX3_frame cX3_frame 9 none :: ((wsX3_frame_r1 ++ wsX3_frame_r2) ++ wsX30 ++ wsX20)
def wsX4_init : List Cond := .code yX4_init cX4_init 1 none :: ([.methodLink RX4 3 objectInit, .instanceMethod objectInit, .code objectInit ⟨#[0xb1]⟩ 1 none, .fieldLink RX4 9 "Groutline$Pieces" "count" "I", .arrayClass .int, .fieldLink RX4 15 "Groutline$Pieces" "ofCells" "[I", .fieldLink RX4 19 "Groutline$Pieces" "kinds" "[I", .fieldLink RX4 22 "Groutline$Pieces" "columns" "[I", .fieldLink RX4 25 "Groutline$Pieces" "rows" "[I", .fieldLink RX4 28 "Groutline$Pieces" "sizes" "[I", .fieldLink RX4 31 "Groutline$Pieces" "boxWides" "[I", .fieldLink RX4 34 "Groutline$Pieces" "boxHighs" "[I", .classLink RX4 37 RX2, .instantiable RX2 4, .initialized RX2, .fieldLink RX4 40 "Groutline$Pieces" "frame" "LGroutline$Frame;", .instanceMethod yX2_init, .code yX2_init cX2_init 1 none, .methodLink RX2 1 objectInit, .fieldLink RX2 7 "Groutline$Frame" "left" "I", .fieldLink RX2 13 "Groutline$Frame" "right" "I", .fieldLink RX2 16 "Groutline$Frame" "top" "I", .fieldLink RX2 19 "Groutline$Frame" "bottom" "I"] ++ wsX40 ++ wsX20)
def wsX4_measure_r1 : List Cond := [Cond.fieldLink RX4 40 "Groutline$Pieces" "frame" "LGroutline$Frame;", Cond.fieldLink RX4 86 "Groutline$Frame" "right" "I", Cond.fieldLink RX4 89 "Groutline$Frame" "left" "I", Cond.fieldLink RX4 92 "Groutline$Frame" "top" "I", Cond.fieldLink RX4 25 "Groutline$Pieces" "rows" "[I", Cond.fieldLink RX4 95 "Groutline$Frame" "bottom" "I", Cond.fieldLink RX4 15 "Groutline$Pieces" "ofCells" "[I", Cond.methodLink RX4 101 Lib.Math.min.name, Cond.static Lib.Math.min.name, Cond.initialized "java/lang/Math", Cond.code Lib.Math.min.name Lib.Math.min.code 2 (some .int), Cond.methodLink RX4 106 Lib.Math.max.name, Cond.static Lib.Math.max.name, Cond.code Lib.Math.max.name Lib.Math.max.code 2 (some .int), Cond.fieldLink RX4 28 "Groutline$Pieces" "sizes" "[I", Cond.fieldLink RX4 31 "Groutline$Pieces" "boxWides" "[I", Cond.fieldLink RX4 34 "Groutline$Pieces" "boxHighs" "[I", Cond.methodLink RX4 64 yX4_has, Cond.instanceMethod yX4_has, Cond.selects RX4 yX4_has yX4_has, Cond.initialized RX4, Cond.code yX4_has cX4_has 2 (some .boolean), Cond.fieldLink RX4 9 "Groutline$Pieces" "count" "I", Cond.static yX7_isCell]
def wsX4_measure_r2 : List Cond := [Cond.initialized RX7, Cond.code yX7_isCell cX7_isCell 2 (some .boolean), Cond.methodLink RX4 54 yX0_areAt, Cond.instanceMethod yX0_areAt, Cond.selects RX0 yX0_areAt yX0_areAt, Cond.initialized RX0, Cond.code yX0_areAt cX0_areAt 3 (some .boolean), Cond.fieldLink RX0 15 "Groutline$Bars" "barred" "[Z", Cond.static yX7_cellAt, Cond.code yX7_cellAt cX7_cellAt 2 (some .int)]
def wsX4_measure : List Cond := .code yX4_measure cX4_measure 9 none :: ((wsX4_measure_r1 ++ wsX4_measure_r2) ++ wsX40 ++ wsX20 ++ wsX00)
def wsX4_add_r1 : List Cond := [Cond.fieldLink RX4 9 "Groutline$Pieces" "count" "I", Cond.fieldLink RX4 22 "Groutline$Pieces" "columns" "[I", Cond.fieldLink RX4 25 "Groutline$Pieces" "rows" "[I", Cond.fieldLink RX4 40 "Groutline$Pieces" "frame" "LGroutline$Frame;", Cond.fieldLink RX4 19 "Groutline$Pieces" "kinds" "[I", Cond.fieldLink RX4 28 "Groutline$Pieces" "sizes" "[I", Cond.fieldLink RX4 80 "Groutline$Layout" "wide" "I", Cond.fieldLink RX4 83 "Groutline$Layout" "high" "I", Cond.methodLink RX4 64 yX4_has, Cond.instanceMethod yX4_has, Cond.selects RX4 yX4_has yX4_has, Cond.initialized RX4, Cond.code yX4_has cX4_has 2 (some .boolean), Cond.methodLink RX4 68 yX3_frame, Cond.instanceMethod yX3_frame, Cond.selects RX3 yX3_frame yX3_frame, Cond.initialized RX3, Cond.code yX3_frame cX3_frame 9 none, Cond.fieldLink RX3 21 "Groutline$Layout" "pattern" "I", Cond.fieldLink RX3 18 "Groutline$Layout" "border" "I", Cond.fieldLink RX3 9 "Groutline$Layout" "wide" "I", Cond.fieldLink RX3 15 "Groutline$Layout" "high" "I", Cond.methodLink RX3 55 Lib.Math.max.name, Cond.static Lib.Math.max.name]
def wsX4_add_r2 : List Cond := [Cond.initialized "java/lang/Math", Cond.code Lib.Math.max.name Lib.Math.max.code 2 (some .int), Cond.methodLink RX3 60 Lib.Math.min.name, Cond.static Lib.Math.min.name, Cond.code Lib.Math.min.name Lib.Math.min.code 2 (some .int), Cond.methodLink RX3 45 yX3_isBorder, Cond.instanceMethod yX3_isBorder, Cond.selects RX3 yX3_isBorder yX3_isBorder, Cond.code yX3_isBorder cX3_isBorder 3 (some .boolean), Cond.methodLink RX3 24 yX3_rightBorder, Cond.instanceMethod yX3_rightBorder, Cond.selects RX3 yX3_rightBorder yX3_rightBorder, Cond.code yX3_rightBorder cX3_rightBorder 1 (some .int), Cond.methodLink RX3 28 yX3_lowerBorder, Cond.instanceMethod yX3_lowerBorder, Cond.selects RX3 yX3_lowerBorder yX3_lowerBorder, Cond.code yX3_lowerBorder cX3_lowerBorder 1 (some .int), Cond.methodLink RX3 49 yX2_set, Cond.instanceMethod yX2_set, Cond.selects RX2 yX2_set yX2_set, Cond.initialized RX2, Cond.code yX2_set cX2_set 5 none, Cond.fieldLink RX2 7 "Groutline$Frame" "left" "I", Cond.fieldLink RX2 13 "Groutline$Frame" "right" "I"]
def wsX4_add_r3 : List Cond := [Cond.fieldLink RX2 16 "Groutline$Frame" "top" "I", Cond.fieldLink RX2 19 "Groutline$Frame" "bottom" "I", Cond.methodLink RX3 35 yX3_courseOfRow, Cond.instanceMethod yX3_courseOfRow, Cond.selects RX3 yX3_courseOfRow yX3_courseOfRow, Cond.code yX3_courseOfRow cX3_courseOfRow 2 (some .int), Cond.static yX7_timesIn, Cond.initialized RX7, Cond.code yX7_timesIn cX7_timesIn 2 (some .int), Cond.methodLink RX4 73 yX4_measure, Cond.instanceMethod yX4_measure, Cond.selects RX4 yX4_measure yX4_measure, Cond.code yX4_measure cX4_measure 9 none, Cond.fieldLink RX4 86 "Groutline$Frame" "right" "I", Cond.fieldLink RX4 89 "Groutline$Frame" "left" "I", Cond.fieldLink RX4 92 "Groutline$Frame" "top" "I", Cond.fieldLink RX4 95 "Groutline$Frame" "bottom" "I", Cond.fieldLink RX4 15 "Groutline$Pieces" "ofCells" "[I", Cond.methodLink RX4 101 Lib.Math.min.name, Cond.methodLink RX4 106 Lib.Math.max.name, Cond.fieldLink RX4 31 "Groutline$Pieces" "boxWides" "[I", Cond.fieldLink RX4 34 "Groutline$Pieces" "boxHighs" "[I", Cond.static yX7_isCell, Cond.code yX7_isCell cX7_isCell 2 (some .boolean)]
def wsX4_add_r4 : List Cond := [Cond.methodLink RX4 54 yX0_areAt, Cond.instanceMethod yX0_areAt, Cond.selects RX0 yX0_areAt yX0_areAt, Cond.initialized RX0, Cond.code yX0_areAt cX0_areAt 3 (some .boolean), Cond.fieldLink RX0 15 "Groutline$Bars" "barred" "[Z", Cond.static yX7_cellAt, Cond.code yX7_cellAt cX7_cellAt 2 (some .int), Cond.methodLink RX4 77 yX3_isBorder]
def wsX4_add : List Cond := .code yX4_add cX4_add 6 none :: ((wsX4_add_r1 ++ (wsX4_add_r2 ++ (wsX4_add_r3 ++ wsX4_add_r4))) ++ wsX40 ++ wsX30 ++ wsX20 ++ wsX00)
def wsX4_find_r1 : List Cond := [Cond.fieldLink RX4 9 "Groutline$Pieces" "count" "I", Cond.fieldLink RX4 15 "Groutline$Pieces" "ofCells" "[I", Cond.methodLink RX4 44 yJ7_fill_53178, Cond.static yJ7_fill_53178, Cond.initialized RJ7, Cond.code yJ7_fill_53178 cJ7_fill_53178 4 none, Cond.static yX7_cellAt, Cond.initialized RX7, Cond.code yX7_cellAt cX7_cellAt 2 (some .int), Cond.methodLink RX4 54 yX0_areAt, Cond.instanceMethod yX0_areAt, Cond.selects RX0 yX0_areAt yX0_areAt, Cond.initialized RX0, Cond.code yX0_areAt cX0_areAt 3 (some .boolean), Cond.fieldLink RX0 15 "Groutline$Bars" "barred" "[Z", Cond.static yX7_isCell, Cond.code yX7_isCell cX7_isCell 2 (some .boolean), Cond.methodLink RX4 60 yX4_add, Cond.instanceMethod yX4_add, Cond.selects RX4 yX4_add yX4_add, Cond.initialized RX4, Cond.code yX4_add cX4_add 6 none, Cond.fieldLink RX4 22 "Groutline$Pieces" "columns" "[I", Cond.fieldLink RX4 25 "Groutline$Pieces" "rows" "[I"]
def wsX4_find_r2 : List Cond := [Cond.fieldLink RX4 40 "Groutline$Pieces" "frame" "LGroutline$Frame;", Cond.fieldLink RX4 19 "Groutline$Pieces" "kinds" "[I", Cond.fieldLink RX4 28 "Groutline$Pieces" "sizes" "[I", Cond.fieldLink RX4 80 "Groutline$Layout" "wide" "I", Cond.fieldLink RX4 83 "Groutline$Layout" "high" "I", Cond.methodLink RX4 64 yX4_has, Cond.instanceMethod yX4_has, Cond.selects RX4 yX4_has yX4_has, Cond.code yX4_has cX4_has 2 (some .boolean), Cond.methodLink RX4 68 yX3_frame, Cond.instanceMethod yX3_frame, Cond.selects RX3 yX3_frame yX3_frame, Cond.initialized RX3, Cond.code yX3_frame cX3_frame 9 none, Cond.fieldLink RX3 21 "Groutline$Layout" "pattern" "I", Cond.fieldLink RX3 18 "Groutline$Layout" "border" "I", Cond.fieldLink RX3 9 "Groutline$Layout" "wide" "I", Cond.fieldLink RX3 15 "Groutline$Layout" "high" "I", Cond.methodLink RX3 55 Lib.Math.max.name, Cond.static Lib.Math.max.name, Cond.initialized "java/lang/Math", Cond.code Lib.Math.max.name Lib.Math.max.code 2 (some .int), Cond.methodLink RX3 60 Lib.Math.min.name, Cond.static Lib.Math.min.name]
def wsX4_find_r3 : List Cond := [Cond.code Lib.Math.min.name Lib.Math.min.code 2 (some .int), Cond.methodLink RX3 45 yX3_isBorder, Cond.instanceMethod yX3_isBorder, Cond.selects RX3 yX3_isBorder yX3_isBorder, Cond.code yX3_isBorder cX3_isBorder 3 (some .boolean), Cond.methodLink RX3 24 yX3_rightBorder, Cond.instanceMethod yX3_rightBorder, Cond.selects RX3 yX3_rightBorder yX3_rightBorder, Cond.code yX3_rightBorder cX3_rightBorder 1 (some .int), Cond.methodLink RX3 28 yX3_lowerBorder, Cond.instanceMethod yX3_lowerBorder, Cond.selects RX3 yX3_lowerBorder yX3_lowerBorder, Cond.code yX3_lowerBorder cX3_lowerBorder 1 (some .int), Cond.methodLink RX3 49 yX2_set, Cond.instanceMethod yX2_set, Cond.selects RX2 yX2_set yX2_set, Cond.initialized RX2, Cond.code yX2_set cX2_set 5 none, Cond.fieldLink RX2 7 "Groutline$Frame" "left" "I", Cond.fieldLink RX2 13 "Groutline$Frame" "right" "I", Cond.fieldLink RX2 16 "Groutline$Frame" "top" "I", Cond.fieldLink RX2 19 "Groutline$Frame" "bottom" "I", Cond.methodLink RX3 35 yX3_courseOfRow, Cond.instanceMethod yX3_courseOfRow]
def wsX4_find_r4 : List Cond := [Cond.selects RX3 yX3_courseOfRow yX3_courseOfRow, Cond.code yX3_courseOfRow cX3_courseOfRow 2 (some .int), Cond.static yX7_timesIn, Cond.code yX7_timesIn cX7_timesIn 2 (some .int), Cond.methodLink RX4 73 yX4_measure, Cond.instanceMethod yX4_measure, Cond.selects RX4 yX4_measure yX4_measure, Cond.code yX4_measure cX4_measure 9 none, Cond.fieldLink RX4 86 "Groutline$Frame" "right" "I", Cond.fieldLink RX4 89 "Groutline$Frame" "left" "I", Cond.fieldLink RX4 92 "Groutline$Frame" "top" "I", Cond.fieldLink RX4 95 "Groutline$Frame" "bottom" "I", Cond.methodLink RX4 101 Lib.Math.min.name, Cond.methodLink RX4 106 Lib.Math.max.name, Cond.fieldLink RX4 31 "Groutline$Pieces" "boxWides" "[I", Cond.fieldLink RX4 34 "Groutline$Pieces" "boxHighs" "[I", Cond.methodLink RX4 77 yX3_isBorder]
def wsX4_find : List Cond := .code yX4_find cX4_find 6 none :: ((wsX4_find_r1 ++ (wsX4_find_r2 ++ (wsX4_find_r3 ++ wsX4_find_r4))) ++ wsX40 ++ wsX00 ++ wsX30 ++ wsX20)
def wsX5_init : List Cond := .code yX5_init cX5_init 1 none :: ([.methodLink RX5 3 objectInit, .instanceMethod objectInit, .code objectInit ⟨#[0xb1]⟩ 1 none, .fieldLink RX5 9 "Groutline$Stack" "count" "I", .fieldLink RX5 15 "Groutline$Stack" "moved" "I", .arrayClass .int, .fieldLink RX5 18 "Groutline$Stack" "crateFloors" "[I", .fieldLink RX5 22 "Groutline$Stack" "crateTiles" "[I"] ++ wsX50)
def wsX5_isFull : List Cond := .code yX5_isFull cX5_isFull 1 (some .boolean) :: ([.fieldLink RX5 9 "Groutline$Stack" "count" "I"] ++ wsX50)
def wsX5_put : List Cond := .code yX5_put cX5_put 3 none :: ([.fieldLink RX5 9 "Groutline$Stack" "count" "I", .fieldLink RX5 18 "Groutline$Stack" "crateFloors" "[I", .fieldLink RX5 22 "Groutline$Stack" "crateTiles" "[I"] ++ wsX50)
def wsX5_has : List Cond := .code yX5_has cX5_has 2 (some .boolean) :: ([.fieldLink RX5 9 "Groutline$Stack" "count" "I"] ++ wsX50)
def wsX5_remove : List Cond := .code yX5_remove cX5_remove 3 none :: ([.fieldLink RX5 9 "Groutline$Stack" "count" "I", .fieldLink RX5 18 "Groutline$Stack" "crateFloors" "[I", .fieldLink RX5 22 "Groutline$Stack" "crateTiles" "[I", .fieldLink RX5 15 "Groutline$Stack" "moved" "I", .methodLink RX5 25 yX5_has, .instanceMethod yX5_has, .selects RX5 yX5_has yX5_has, .initialized RX5, .code yX5_has cX5_has 2 (some .boolean)] ++ wsX50)
def wsX5_takeTopmostFor : List Cond := .code yX5_takeTopmostFor cX5_takeTopmostFor 4 (some .int) :: ([.fieldLink RX5 9 "Groutline$Stack" "count" "I", .fieldLink RX5 18 "Groutline$Stack" "crateFloors" "[I", .fieldLink RX5 22 "Groutline$Stack" "crateTiles" "[I", .methodLink RX5 25 yX5_has, .instanceMethod yX5_has, .selects RX5 yX5_has yX5_has, .initialized RX5, .code yX5_has cX5_has 2 (some .boolean), .methodLink RX5 29 yX5_remove, .instanceMethod yX5_remove, .selects RX5 yX5_remove yX5_remove, .code yX5_remove cX5_remove 3 none, .fieldLink RX5 15 "Groutline$Stack" "moved" "I"] ++ wsX50)
def wsX6_init : List Cond := .code yX6_init cX6_init 1 none :: ([.methodLink RX6 3 objectInit, .instanceMethod objectInit, .code objectInit ⟨#[0xb1]⟩ 1 none, .fieldLink RX6 9 "Groutline$Work" "hour" "I", .fieldLink RX6 15 "Groutline$Work" "groutHours" "I", .fieldLink RX6 18 "Groutline$Work" "hasBegun" "Z", .arrayClass .boolean, .fieldLink RX6 22 "Groutline$Work" "laid" "[Z", .arrayClass .int, .fieldLink RX6 26 "Groutline$Work" "dryHours" "[I"] ++ wsX60)
def wsX6_dryHourOf : List Cond := .code yX6_dryHourOf cX6_dryHourOf 2 (some .int) :: ([.fieldLink RX6 26 "Groutline$Work" "dryHours" "[I", .methodLink RX6 30 yX6_isLaid, .instanceMethod yX6_isLaid, .selects RX6 yX6_isLaid yX6_isLaid, .initialized RX6, .code yX6_isLaid cX6_isLaid 2 (some .boolean), .fieldLink RX6 22 "Groutline$Work" "laid" "[Z"] ++ wsX60)
def wsX6_canStart : List Cond := .code yX6_canStart cX6_canStart 3 (some .boolean) :: ([.fieldLink RX6 22 "Groutline$Work" "laid" "[Z", .fieldLink RX6 9 "Groutline$Work" "hour" "I", .fieldLink RX6 26 "Groutline$Work" "dryHours" "[I", .methodLink RX6 30 yX6_isLaid, .instanceMethod yX6_isLaid, .selects RX6 yX6_isLaid yX6_isLaid, .initialized RX6, .code yX6_isLaid cX6_isLaid 2 (some .boolean)] ++ wsX60)
def wsX6_finish : List Cond := .code yX6_finish cX6_finish 3 none :: ([.fieldLink RX6 9 "Groutline$Work" "hour" "I", .fieldLink RX6 22 "Groutline$Work" "laid" "[Z", .fieldLink RX6 26 "Groutline$Work" "dryHours" "[I", .fieldLink RX6 15 "Groutline$Work" "groutHours" "I", .fieldLink RX6 18 "Groutline$Work" "hasBegun" "Z", .static yX7_timesIn, .initialized RX7, .code yX7_timesIn cX7_timesIn 2 (some .int)] ++ wsX60)
def wsX7_renew_r1 : List Cond := [Cond.fieldLink RX7 19 "Groutline" "bars" "LGroutline$Bars;", Cond.fieldLink RX7 12 "Groutline" "layout" "LGroutline$Layout;", Cond.fieldLink RX7 47 "Groutline" "work" "LGroutline$Work;", Cond.fieldLink RX7 26 "Groutline" "pieces" "LGroutline$Pieces;", Cond.fieldLink RX7 33 "Groutline" "cuts" "LGroutline$Cuts;", Cond.methodLink RX7 214 yX0_renew, Cond.instanceMethod yX0_renew, Cond.selects RX0 yX0_renew yX0_renew, Cond.initialized RX0, Cond.code yX0_renew cX0_renew 4 none, Cond.methodLink RX0 30 yX3_stripOfRow, Cond.instanceMethod yX3_stripOfRow, Cond.selects RX3 yX3_stripOfRow yX3_stripOfRow, Cond.initialized RX3, Cond.code yX3_stripOfRow cX3_stripOfRow 2 (some .int), Cond.fieldLink RX3 18 "Groutline$Layout" "border" "I", Cond.methodLink RX3 28 yX3_lowerBorder, Cond.instanceMethod yX3_lowerBorder, Cond.selects RX3 yX3_lowerBorder yX3_lowerBorder, Cond.code yX3_lowerBorder cX3_lowerBorder 1 (some .int), Cond.methodLink RX3 39 yX3_countCourses, Cond.instanceMethod yX3_countCourses, Cond.selects RX3 yX3_countCourses yX3_countCourses, Cond.code yX3_countCourses cX3_countCourses 1 (some .int)]
def wsX7_renew_r2 : List Cond := [Cond.methodLink RX3 35 yX3_courseOfRow, Cond.instanceMethod yX3_courseOfRow, Cond.selects RX3 yX3_courseOfRow yX3_courseOfRow, Cond.code yX3_courseOfRow cX3_courseOfRow 2 (some .int), Cond.fieldLink RX3 15 "Groutline$Layout" "high" "I", Cond.static yX7_timesIn, Cond.initialized RX7, Cond.code yX7_timesIn cX7_timesIn 2 (some .int), Cond.methodLink RX0 36 yX6_isLaid, Cond.instanceMethod yX6_isLaid, Cond.selects RX6 yX6_isLaid yX6_isLaid, Cond.initialized RX6, Cond.code yX6_isLaid cX6_isLaid 2 (some .boolean), Cond.fieldLink RX6 22 "Groutline$Work" "laid" "[Z", Cond.methodLink RX0 42 yX0_renewRow, Cond.instanceMethod yX0_renewRow, Cond.selects RX0 yX0_renewRow yX0_renewRow, Cond.code yX0_renewRow cX0_renewRow 4 none, Cond.fieldLink RX0 15 "Groutline$Bars" "barred" "[Z", Cond.fieldLink RX0 9 "Groutline$Bars" "pillars" "[Z", Cond.static yX7_isCell, Cond.code yX7_isCell cX7_isCell 2 (some .boolean), Cond.static yX7_cellAt, Cond.code yX7_cellAt cX7_cellAt 2 (some .int)]
def wsX7_renew_r3 : List Cond := [Cond.methodLink RX0 46 yX0_isDoor, Cond.instanceMethod yX0_isDoor, Cond.selects RX0 yX0_isDoor yX0_isDoor, Cond.code yX0_isDoor cX0_isDoor 3 (some .boolean), Cond.fieldLink RX0 18 "Groutline$Bars" "doorColumn" "I", Cond.methodLink RX7 217 yX4_find, Cond.instanceMethod yX4_find, Cond.selects RX4 yX4_find yX4_find, Cond.initialized RX4, Cond.code yX4_find cX4_find 6 none, Cond.fieldLink RX4 9 "Groutline$Pieces" "count" "I", Cond.fieldLink RX4 15 "Groutline$Pieces" "ofCells" "[I", Cond.methodLink RX4 44 yJ7_fill_53178, Cond.static yJ7_fill_53178, Cond.initialized RJ7, Cond.code yJ7_fill_53178 cJ7_fill_53178 4 none, Cond.methodLink RX4 54 yX0_areAt, Cond.instanceMethod yX0_areAt, Cond.selects RX0 yX0_areAt yX0_areAt, Cond.code yX0_areAt cX0_areAt 3 (some .boolean), Cond.methodLink RX4 60 yX4_add, Cond.instanceMethod yX4_add, Cond.selects RX4 yX4_add yX4_add, Cond.code yX4_add cX4_add 6 none]
def wsX7_renew_r4 : List Cond := [Cond.fieldLink RX4 22 "Groutline$Pieces" "columns" "[I", Cond.fieldLink RX4 25 "Groutline$Pieces" "rows" "[I", Cond.fieldLink RX4 40 "Groutline$Pieces" "frame" "LGroutline$Frame;", Cond.fieldLink RX4 19 "Groutline$Pieces" "kinds" "[I", Cond.fieldLink RX4 28 "Groutline$Pieces" "sizes" "[I", Cond.fieldLink RX4 80 "Groutline$Layout" "wide" "I", Cond.fieldLink RX4 83 "Groutline$Layout" "high" "I", Cond.methodLink RX4 64 yX4_has, Cond.instanceMethod yX4_has, Cond.selects RX4 yX4_has yX4_has, Cond.code yX4_has cX4_has 2 (some .boolean), Cond.methodLink RX4 68 yX3_frame, Cond.instanceMethod yX3_frame, Cond.selects RX3 yX3_frame yX3_frame, Cond.code yX3_frame cX3_frame 9 none, Cond.fieldLink RX3 21 "Groutline$Layout" "pattern" "I", Cond.fieldLink RX3 9 "Groutline$Layout" "wide" "I", Cond.methodLink RX3 55 Lib.Math.max.name, Cond.static Lib.Math.max.name, Cond.initialized "java/lang/Math", Cond.code Lib.Math.max.name Lib.Math.max.code 2 (some .int), Cond.methodLink RX3 60 Lib.Math.min.name, Cond.static Lib.Math.min.name, Cond.code Lib.Math.min.name Lib.Math.min.code 2 (some .int)]
def wsX7_renew_r5 : List Cond := [Cond.methodLink RX3 45 yX3_isBorder, Cond.instanceMethod yX3_isBorder, Cond.selects RX3 yX3_isBorder yX3_isBorder, Cond.code yX3_isBorder cX3_isBorder 3 (some .boolean), Cond.methodLink RX3 24 yX3_rightBorder, Cond.instanceMethod yX3_rightBorder, Cond.selects RX3 yX3_rightBorder yX3_rightBorder, Cond.code yX3_rightBorder cX3_rightBorder 1 (some .int), Cond.methodLink RX3 49 yX2_set, Cond.instanceMethod yX2_set, Cond.selects RX2 yX2_set yX2_set, Cond.initialized RX2, Cond.code yX2_set cX2_set 5 none, Cond.fieldLink RX2 7 "Groutline$Frame" "left" "I", Cond.fieldLink RX2 13 "Groutline$Frame" "right" "I", Cond.fieldLink RX2 16 "Groutline$Frame" "top" "I", Cond.fieldLink RX2 19 "Groutline$Frame" "bottom" "I", Cond.methodLink RX4 73 yX4_measure, Cond.instanceMethod yX4_measure, Cond.selects RX4 yX4_measure yX4_measure, Cond.code yX4_measure cX4_measure 9 none, Cond.fieldLink RX4 86 "Groutline$Frame" "right" "I", Cond.fieldLink RX4 89 "Groutline$Frame" "left" "I", Cond.fieldLink RX4 92 "Groutline$Frame" "top" "I"]
def wsX7_renew_r6 : List Cond := [Cond.fieldLink RX4 95 "Groutline$Frame" "bottom" "I", Cond.methodLink RX4 101 Lib.Math.min.name, Cond.methodLink RX4 106 Lib.Math.max.name, Cond.fieldLink RX4 31 "Groutline$Pieces" "boxWides" "[I", Cond.fieldLink RX4 34 "Groutline$Pieces" "boxHighs" "[I", Cond.methodLink RX4 77 yX3_isBorder, Cond.methodLink RX7 221 yX1_cutAll, Cond.instanceMethod yX1_cutAll, Cond.selects RX1 yX1_cutAll yX1_cutAll, Cond.initialized RX1, Cond.code yX1_cutAll cX1_cutAll 4 none, Cond.fieldLink RX1 9 "Groutline$Cuts" "newTiles" "I", Cond.fieldLink RX1 19 "Groutline$Cuts" "restCount" "I", Cond.fieldLink RX1 15 "Groutline$Cuts" "sources" "[I", Cond.fieldLink RX1 46 "Groutline$Pieces" "kinds" "[I", Cond.fieldLink RX1 49 "Groutline$Pieces" "boxWides" "[I", Cond.fieldLink RX1 52 "Groutline$Pieces" "boxHighs" "[I", Cond.methodLink RX1 35 yJ7_fill_53178, Cond.methodLink RX1 41 yX4_has, Cond.methodLink RX1 55 yX1_cut, Cond.instanceMethod yX1_cut, Cond.selects RX1 yX1_cut yX1_cut, Cond.code yX1_cut cX1_cut 8 none, Cond.fieldLink RX1 63 "Groutline$Layout" "wide" "I"]
def wsX7_renew_r7 : List Cond := [Cond.fieldLink RX1 68 "Groutline$Layout" "high" "I", Cond.fieldLink RX1 22 "Groutline$Cuts" "restWides" "[I", Cond.fieldLink RX1 25 "Groutline$Cuts" "restHighs" "[I", Cond.fieldLink RX1 28 "Groutline$Cuts" "restMakers" "[I", Cond.methodLink RX1 59 yX1_bestRestFor, Cond.instanceMethod yX1_bestRestFor, Cond.selects RX1 yX1_bestRestFor yX1_bestRestFor, Cond.code yX1_bestRestFor cX1_bestRestFor 8 (some .int), Cond.methodLink RX1 31 yX1_hasRest, Cond.instanceMethod yX1_hasRest, Cond.selects RX1 yX1_hasRest yX1_hasRest, Cond.code yX1_hasRest cX1_hasRest 2 (some .boolean), Cond.methodLink RX1 71 yX1_leave, Cond.instanceMethod yX1_leave, Cond.selects RX1 yX1_leave yX1_leave, Cond.code yX1_leave cX1_leave 8 none, Cond.methodLink RX1 79 yX1_addRest, Cond.instanceMethod yX1_addRest, Cond.selects RX1 yX1_addRest yX1_addRest, Cond.code yX1_addRest cX1_addRest 5 none, Cond.methodLink RX1 75 yX1_removeRest, Cond.instanceMethod yX1_removeRest, Cond.selects RX1 yX1_removeRest yX1_removeRest, Cond.code yX1_removeRest cX1_removeRest 3 none]
def wsX7_renew : List Cond := .code yX7_renew cX7_renew 1 none :: ((wsX7_renew_r1 ++ (wsX7_renew_r2 ++ (wsX7_renew_r3 ++ (wsX7_renew_r4 ++ (wsX7_renew_r5 ++ (wsX7_renew_r6 ++ wsX7_renew_r7)))))) ++ wsX70 ++ wsX30 ++ wsX60 ++ wsX00 ++ wsX40 ++ wsX20 ++ wsX10)
def wsX7_init_r1 : List Cond := [Cond.methodLink RX7 3 objectInit, Cond.instanceMethod objectInit, Cond.code objectInit ⟨#[0xb1]⟩ 1 none, Cond.classLink RX7 9 RX3, Cond.instantiable RX3 4, Cond.initialized RX3, Cond.fieldLink RX7 12 "Groutline" "layout" "LGroutline$Layout;", Cond.classLink RX7 16 RX0, Cond.instantiable RX0 3, Cond.initialized RX0, Cond.fieldLink RX7 19 "Groutline" "bars" "LGroutline$Bars;", Cond.classLink RX7 23 RX4, Cond.instantiable RX4 9, Cond.initialized RX4, Cond.fieldLink RX7 26 "Groutline" "pieces" "LGroutline$Pieces;", Cond.classLink RX7 30 RX1, Cond.instantiable RX1 6, Cond.initialized RX1, Cond.fieldLink RX7 33 "Groutline" "cuts" "LGroutline$Cuts;", Cond.classLink RX7 37 RX5, Cond.instantiable RX5 4, Cond.initialized RX5, Cond.fieldLink RX7 40 "Groutline" "stack" "LGroutline$Stack;", Cond.classLink RX7 44 RX6]
def wsX7_init_r2 : List Cond := [Cond.instantiable RX6 5, Cond.initialized RX6, Cond.fieldLink RX7 47 "Groutline" "work" "LGroutline$Work;", Cond.classLink RX7 51 RX2, Cond.instantiable RX2 4, Cond.initialized RX2, Cond.fieldLink RX7 54 "Groutline" "frame" "LGroutline$Frame;", Cond.instanceMethod yX3_init, Cond.code yX3_init cX3_init 1 none, Cond.methodLink RX3 3 objectInit, Cond.fieldLink RX3 9 "Groutline$Layout" "wide" "I", Cond.fieldLink RX3 15 "Groutline$Layout" "high" "I", Cond.fieldLink RX3 18 "Groutline$Layout" "border" "I", Cond.fieldLink RX3 21 "Groutline$Layout" "pattern" "I", Cond.instanceMethod yX0_init, Cond.code yX0_init cX0_init 1 none, Cond.methodLink RX0 3 objectInit, Cond.arrayClass .boolean, Cond.fieldLink RX0 9 "Groutline$Bars" "pillars" "[Z", Cond.fieldLink RX0 15 "Groutline$Bars" "barred" "[Z", Cond.fieldLink RX0 18 "Groutline$Bars" "doorColumn" "I", Cond.instanceMethod yX4_init, Cond.code yX4_init cX4_init 1 none, Cond.methodLink RX4 3 objectInit]
def wsX7_init_r3 : List Cond := [Cond.fieldLink RX4 9 "Groutline$Pieces" "count" "I", Cond.arrayClass .int, Cond.fieldLink RX4 15 "Groutline$Pieces" "ofCells" "[I", Cond.fieldLink RX4 19 "Groutline$Pieces" "kinds" "[I", Cond.fieldLink RX4 22 "Groutline$Pieces" "columns" "[I", Cond.fieldLink RX4 25 "Groutline$Pieces" "rows" "[I", Cond.fieldLink RX4 28 "Groutline$Pieces" "sizes" "[I", Cond.fieldLink RX4 31 "Groutline$Pieces" "boxWides" "[I", Cond.fieldLink RX4 34 "Groutline$Pieces" "boxHighs" "[I", Cond.classLink RX4 37 RX2, Cond.fieldLink RX4 40 "Groutline$Pieces" "frame" "LGroutline$Frame;", Cond.instanceMethod yX2_init, Cond.code yX2_init cX2_init 1 none, Cond.methodLink RX2 1 objectInit, Cond.fieldLink RX2 7 "Groutline$Frame" "left" "I", Cond.fieldLink RX2 13 "Groutline$Frame" "right" "I", Cond.fieldLink RX2 16 "Groutline$Frame" "top" "I", Cond.fieldLink RX2 19 "Groutline$Frame" "bottom" "I", Cond.instanceMethod yX1_init, Cond.code yX1_init cX1_init 1 none, Cond.methodLink RX1 3 objectInit, Cond.fieldLink RX1 9 "Groutline$Cuts" "newTiles" "I", Cond.fieldLink RX1 15 "Groutline$Cuts" "sources" "[I", Cond.fieldLink RX1 19 "Groutline$Cuts" "restCount" "I"]
def wsX7_init_r4 : List Cond := [Cond.fieldLink RX1 22 "Groutline$Cuts" "restWides" "[I", Cond.fieldLink RX1 25 "Groutline$Cuts" "restHighs" "[I", Cond.fieldLink RX1 28 "Groutline$Cuts" "restMakers" "[I", Cond.instanceMethod yX5_init, Cond.code yX5_init cX5_init 1 none, Cond.methodLink RX5 3 objectInit, Cond.fieldLink RX5 9 "Groutline$Stack" "count" "I", Cond.fieldLink RX5 15 "Groutline$Stack" "moved" "I", Cond.fieldLink RX5 18 "Groutline$Stack" "crateFloors" "[I", Cond.fieldLink RX5 22 "Groutline$Stack" "crateTiles" "[I", Cond.instanceMethod yX6_init, Cond.code yX6_init cX6_init 1 none, Cond.methodLink RX6 3 objectInit, Cond.fieldLink RX6 9 "Groutline$Work" "hour" "I", Cond.fieldLink RX6 15 "Groutline$Work" "groutHours" "I", Cond.fieldLink RX6 18 "Groutline$Work" "hasBegun" "Z", Cond.fieldLink RX6 22 "Groutline$Work" "laid" "[Z", Cond.fieldLink RX6 26 "Groutline$Work" "dryHours" "[I", Cond.methodLink RX7 58 yX7_renew, Cond.instanceMethod yX7_renew, Cond.selects RX7 yX7_renew yX7_renew, Cond.initialized RX7, Cond.code yX7_renew cX7_renew 1 none, Cond.methodLink RX7 214 yX0_renew]
def wsX7_init_r5 : List Cond := [Cond.instanceMethod yX0_renew, Cond.selects RX0 yX0_renew yX0_renew, Cond.code yX0_renew cX0_renew 4 none, Cond.methodLink RX0 30 yX3_stripOfRow, Cond.instanceMethod yX3_stripOfRow, Cond.selects RX3 yX3_stripOfRow yX3_stripOfRow, Cond.code yX3_stripOfRow cX3_stripOfRow 2 (some .int), Cond.methodLink RX3 28 yX3_lowerBorder, Cond.instanceMethod yX3_lowerBorder, Cond.selects RX3 yX3_lowerBorder yX3_lowerBorder, Cond.code yX3_lowerBorder cX3_lowerBorder 1 (some .int), Cond.methodLink RX3 39 yX3_countCourses, Cond.instanceMethod yX3_countCourses, Cond.selects RX3 yX3_countCourses yX3_countCourses, Cond.code yX3_countCourses cX3_countCourses 1 (some .int), Cond.methodLink RX3 35 yX3_courseOfRow, Cond.instanceMethod yX3_courseOfRow, Cond.selects RX3 yX3_courseOfRow yX3_courseOfRow, Cond.code yX3_courseOfRow cX3_courseOfRow 2 (some .int), Cond.static yX7_timesIn, Cond.code yX7_timesIn cX7_timesIn 2 (some .int), Cond.methodLink RX0 36 yX6_isLaid, Cond.instanceMethod yX6_isLaid, Cond.selects RX6 yX6_isLaid yX6_isLaid]
def wsX7_init_r6 : List Cond := [Cond.code yX6_isLaid cX6_isLaid 2 (some .boolean), Cond.methodLink RX0 42 yX0_renewRow, Cond.instanceMethod yX0_renewRow, Cond.selects RX0 yX0_renewRow yX0_renewRow, Cond.code yX0_renewRow cX0_renewRow 4 none, Cond.static yX7_isCell, Cond.code yX7_isCell cX7_isCell 2 (some .boolean), Cond.static yX7_cellAt, Cond.code yX7_cellAt cX7_cellAt 2 (some .int), Cond.methodLink RX0 46 yX0_isDoor, Cond.instanceMethod yX0_isDoor, Cond.selects RX0 yX0_isDoor yX0_isDoor, Cond.code yX0_isDoor cX0_isDoor 3 (some .boolean), Cond.methodLink RX7 217 yX4_find, Cond.instanceMethod yX4_find, Cond.selects RX4 yX4_find yX4_find, Cond.code yX4_find cX4_find 6 none, Cond.methodLink RX4 44 yJ7_fill_53178, Cond.static yJ7_fill_53178, Cond.initialized RJ7, Cond.code yJ7_fill_53178 cJ7_fill_53178 4 none, Cond.methodLink RX4 54 yX0_areAt, Cond.instanceMethod yX0_areAt, Cond.selects RX0 yX0_areAt yX0_areAt]
def wsX7_init_r7 : List Cond := [Cond.code yX0_areAt cX0_areAt 3 (some .boolean), Cond.methodLink RX4 60 yX4_add, Cond.instanceMethod yX4_add, Cond.selects RX4 yX4_add yX4_add, Cond.code yX4_add cX4_add 6 none, Cond.fieldLink RX4 80 "Groutline$Layout" "wide" "I", Cond.fieldLink RX4 83 "Groutline$Layout" "high" "I", Cond.methodLink RX4 64 yX4_has, Cond.instanceMethod yX4_has, Cond.selects RX4 yX4_has yX4_has, Cond.code yX4_has cX4_has 2 (some .boolean), Cond.methodLink RX4 68 yX3_frame, Cond.instanceMethod yX3_frame, Cond.selects RX3 yX3_frame yX3_frame, Cond.code yX3_frame cX3_frame 9 none, Cond.methodLink RX3 55 Lib.Math.max.name, Cond.static Lib.Math.max.name, Cond.initialized "java/lang/Math", Cond.code Lib.Math.max.name Lib.Math.max.code 2 (some .int), Cond.methodLink RX3 60 Lib.Math.min.name, Cond.static Lib.Math.min.name, Cond.code Lib.Math.min.name Lib.Math.min.code 2 (some .int), Cond.methodLink RX3 45 yX3_isBorder, Cond.instanceMethod yX3_isBorder]
def wsX7_init_r8 : List Cond := [Cond.selects RX3 yX3_isBorder yX3_isBorder, Cond.code yX3_isBorder cX3_isBorder 3 (some .boolean), Cond.methodLink RX3 24 yX3_rightBorder, Cond.instanceMethod yX3_rightBorder, Cond.selects RX3 yX3_rightBorder yX3_rightBorder, Cond.code yX3_rightBorder cX3_rightBorder 1 (some .int), Cond.methodLink RX3 49 yX2_set, Cond.instanceMethod yX2_set, Cond.selects RX2 yX2_set yX2_set, Cond.code yX2_set cX2_set 5 none, Cond.methodLink RX4 73 yX4_measure, Cond.instanceMethod yX4_measure, Cond.selects RX4 yX4_measure yX4_measure, Cond.code yX4_measure cX4_measure 9 none, Cond.fieldLink RX4 86 "Groutline$Frame" "right" "I", Cond.fieldLink RX4 89 "Groutline$Frame" "left" "I", Cond.fieldLink RX4 92 "Groutline$Frame" "top" "I", Cond.fieldLink RX4 95 "Groutline$Frame" "bottom" "I", Cond.methodLink RX4 101 Lib.Math.min.name, Cond.methodLink RX4 106 Lib.Math.max.name, Cond.methodLink RX4 77 yX3_isBorder, Cond.methodLink RX7 221 yX1_cutAll, Cond.instanceMethod yX1_cutAll, Cond.selects RX1 yX1_cutAll yX1_cutAll]
def wsX7_init_r9 : List Cond := [Cond.code yX1_cutAll cX1_cutAll 4 none, Cond.fieldLink RX1 46 "Groutline$Pieces" "kinds" "[I", Cond.fieldLink RX1 49 "Groutline$Pieces" "boxWides" "[I", Cond.fieldLink RX1 52 "Groutline$Pieces" "boxHighs" "[I", Cond.methodLink RX1 35 yJ7_fill_53178, Cond.methodLink RX1 41 yX4_has, Cond.methodLink RX1 55 yX1_cut, Cond.instanceMethod yX1_cut, Cond.selects RX1 yX1_cut yX1_cut, Cond.code yX1_cut cX1_cut 8 none, Cond.fieldLink RX1 63 "Groutline$Layout" "wide" "I", Cond.fieldLink RX1 68 "Groutline$Layout" "high" "I", Cond.methodLink RX1 59 yX1_bestRestFor, Cond.instanceMethod yX1_bestRestFor, Cond.selects RX1 yX1_bestRestFor yX1_bestRestFor, Cond.code yX1_bestRestFor cX1_bestRestFor 8 (some .int), Cond.methodLink RX1 31 yX1_hasRest, Cond.instanceMethod yX1_hasRest, Cond.selects RX1 yX1_hasRest yX1_hasRest, Cond.code yX1_hasRest cX1_hasRest 2 (some .boolean), Cond.methodLink RX1 71 yX1_leave, Cond.instanceMethod yX1_leave, Cond.selects RX1 yX1_leave yX1_leave, Cond.code yX1_leave cX1_leave 8 none]
def wsX7_init_r10 : List Cond := [Cond.methodLink RX1 79 yX1_addRest, Cond.instanceMethod yX1_addRest, Cond.selects RX1 yX1_addRest yX1_addRest, Cond.code yX1_addRest cX1_addRest 5 none, Cond.methodLink RX1 75 yX1_removeRest, Cond.instanceMethod yX1_removeRest, Cond.selects RX1 yX1_removeRest yX1_removeRest, Cond.code yX1_removeRest cX1_removeRest 3 none]
def wsX7_init : List Cond := .code yX7_init cX7_init 1 none :: ((wsX7_init_r1 ++ (wsX7_init_r2 ++ (wsX7_init_r3 ++ (wsX7_init_r4 ++ (wsX7_init_r5 ++ (wsX7_init_r6 ++ (wsX7_init_r7 ++ (wsX7_init_r8 ++ (wsX7_init_r9 ++ wsX7_init_r10))))))))) ++ wsX30 ++ wsX70 ++ wsX00 ++ wsX40 ++ wsX10 ++ wsX50 ++ wsX60 ++ wsX20)
def wsX7_isWithin : List Cond := .code yX7_isWithin cX7_isWithin 3 (some .boolean) :: ([])
def wsX7_plan_r1 : List Cond := [Cond.classLink RX7 65 "java/lang/IllegalArgumentException", Cond.initialized "java/lang/IllegalArgumentException", Cond.classLink RX7 80 "java/lang/IllegalStateException", Cond.initialized "java/lang/IllegalStateException", Cond.fieldLink RX7 47 "Groutline" "work" "LGroutline$Work;", Cond.fieldLink RX7 76 "Groutline$Work" "hasBegun" "Z", Cond.fieldLink RX7 12 "Groutline" "layout" "LGroutline$Layout;", Cond.fieldLink RX7 26 "Groutline" "pieces" "LGroutline$Pieces;", Cond.fieldLink RX7 89 "Groutline$Pieces" "count" "I", Cond.methodLink RX7 61 yX7_isWithin, Cond.static yX7_isWithin, Cond.initialized RX7, Cond.code yX7_isWithin cX7_isWithin 3 (some .boolean), Cond.methodLink RX7 85 yX3_set, Cond.instanceMethod yX3_set, Cond.selects RX3 yX3_set yX3_set, Cond.initialized RX3, Cond.code yX3_set cX3_set 5 none, Cond.fieldLink RX3 9 "Groutline$Layout" "wide" "I", Cond.fieldLink RX3 15 "Groutline$Layout" "high" "I", Cond.fieldLink RX3 18 "Groutline$Layout" "border" "I", Cond.fieldLink RX3 21 "Groutline$Layout" "pattern" "I", Cond.methodLink RX7 58 yX7_renew, Cond.instanceMethod yX7_renew]
def wsX7_plan_r2 : List Cond := [Cond.selects RX7 yX7_renew yX7_renew, Cond.code yX7_renew cX7_renew 1 none, Cond.fieldLink RX7 19 "Groutline" "bars" "LGroutline$Bars;", Cond.fieldLink RX7 33 "Groutline" "cuts" "LGroutline$Cuts;", Cond.methodLink RX7 214 yX0_renew, Cond.instanceMethod yX0_renew, Cond.selects RX0 yX0_renew yX0_renew, Cond.initialized RX0, Cond.code yX0_renew cX0_renew 4 none, Cond.methodLink RX0 30 yX3_stripOfRow, Cond.instanceMethod yX3_stripOfRow, Cond.selects RX3 yX3_stripOfRow yX3_stripOfRow, Cond.code yX3_stripOfRow cX3_stripOfRow 2 (some .int), Cond.methodLink RX3 28 yX3_lowerBorder, Cond.instanceMethod yX3_lowerBorder, Cond.selects RX3 yX3_lowerBorder yX3_lowerBorder, Cond.code yX3_lowerBorder cX3_lowerBorder 1 (some .int), Cond.methodLink RX3 39 yX3_countCourses, Cond.instanceMethod yX3_countCourses, Cond.selects RX3 yX3_countCourses yX3_countCourses, Cond.code yX3_countCourses cX3_countCourses 1 (some .int), Cond.methodLink RX3 35 yX3_courseOfRow, Cond.instanceMethod yX3_courseOfRow, Cond.selects RX3 yX3_courseOfRow yX3_courseOfRow]
def wsX7_plan_r3 : List Cond := [Cond.code yX3_courseOfRow cX3_courseOfRow 2 (some .int), Cond.static yX7_timesIn, Cond.code yX7_timesIn cX7_timesIn 2 (some .int), Cond.methodLink RX0 36 yX6_isLaid, Cond.instanceMethod yX6_isLaid, Cond.selects RX6 yX6_isLaid yX6_isLaid, Cond.initialized RX6, Cond.code yX6_isLaid cX6_isLaid 2 (some .boolean), Cond.fieldLink RX6 22 "Groutline$Work" "laid" "[Z", Cond.methodLink RX0 42 yX0_renewRow, Cond.instanceMethod yX0_renewRow, Cond.selects RX0 yX0_renewRow yX0_renewRow, Cond.code yX0_renewRow cX0_renewRow 4 none, Cond.fieldLink RX0 15 "Groutline$Bars" "barred" "[Z", Cond.fieldLink RX0 9 "Groutline$Bars" "pillars" "[Z", Cond.static yX7_isCell, Cond.code yX7_isCell cX7_isCell 2 (some .boolean), Cond.static yX7_cellAt, Cond.code yX7_cellAt cX7_cellAt 2 (some .int), Cond.methodLink RX0 46 yX0_isDoor, Cond.instanceMethod yX0_isDoor, Cond.selects RX0 yX0_isDoor yX0_isDoor, Cond.code yX0_isDoor cX0_isDoor 3 (some .boolean), Cond.fieldLink RX0 18 "Groutline$Bars" "doorColumn" "I"]
def wsX7_plan_r4 : List Cond := [Cond.methodLink RX7 217 yX4_find, Cond.instanceMethod yX4_find, Cond.selects RX4 yX4_find yX4_find, Cond.initialized RX4, Cond.code yX4_find cX4_find 6 none, Cond.fieldLink RX4 9 "Groutline$Pieces" "count" "I", Cond.fieldLink RX4 15 "Groutline$Pieces" "ofCells" "[I", Cond.methodLink RX4 44 yJ7_fill_53178, Cond.static yJ7_fill_53178, Cond.initialized RJ7, Cond.code yJ7_fill_53178 cJ7_fill_53178 4 none, Cond.methodLink RX4 54 yX0_areAt, Cond.instanceMethod yX0_areAt, Cond.selects RX0 yX0_areAt yX0_areAt, Cond.code yX0_areAt cX0_areAt 3 (some .boolean), Cond.methodLink RX4 60 yX4_add, Cond.instanceMethod yX4_add, Cond.selects RX4 yX4_add yX4_add, Cond.code yX4_add cX4_add 6 none, Cond.fieldLink RX4 22 "Groutline$Pieces" "columns" "[I", Cond.fieldLink RX4 25 "Groutline$Pieces" "rows" "[I", Cond.fieldLink RX4 40 "Groutline$Pieces" "frame" "LGroutline$Frame;", Cond.fieldLink RX4 19 "Groutline$Pieces" "kinds" "[I", Cond.fieldLink RX4 28 "Groutline$Pieces" "sizes" "[I"]
def wsX7_plan_r5 : List Cond := [Cond.fieldLink RX4 80 "Groutline$Layout" "wide" "I", Cond.fieldLink RX4 83 "Groutline$Layout" "high" "I", Cond.methodLink RX4 64 yX4_has, Cond.instanceMethod yX4_has, Cond.selects RX4 yX4_has yX4_has, Cond.code yX4_has cX4_has 2 (some .boolean), Cond.methodLink RX4 68 yX3_frame, Cond.instanceMethod yX3_frame, Cond.selects RX3 yX3_frame yX3_frame, Cond.code yX3_frame cX3_frame 9 none, Cond.methodLink RX3 55 Lib.Math.max.name, Cond.static Lib.Math.max.name, Cond.initialized "java/lang/Math", Cond.code Lib.Math.max.name Lib.Math.max.code 2 (some .int), Cond.methodLink RX3 60 Lib.Math.min.name, Cond.static Lib.Math.min.name, Cond.code Lib.Math.min.name Lib.Math.min.code 2 (some .int), Cond.methodLink RX3 45 yX3_isBorder, Cond.instanceMethod yX3_isBorder, Cond.selects RX3 yX3_isBorder yX3_isBorder, Cond.code yX3_isBorder cX3_isBorder 3 (some .boolean), Cond.methodLink RX3 24 yX3_rightBorder, Cond.instanceMethod yX3_rightBorder, Cond.selects RX3 yX3_rightBorder yX3_rightBorder]
def wsX7_plan_r6 : List Cond := [Cond.code yX3_rightBorder cX3_rightBorder 1 (some .int), Cond.methodLink RX3 49 yX2_set, Cond.instanceMethod yX2_set, Cond.selects RX2 yX2_set yX2_set, Cond.initialized RX2, Cond.code yX2_set cX2_set 5 none, Cond.fieldLink RX2 7 "Groutline$Frame" "left" "I", Cond.fieldLink RX2 13 "Groutline$Frame" "right" "I", Cond.fieldLink RX2 16 "Groutline$Frame" "top" "I", Cond.fieldLink RX2 19 "Groutline$Frame" "bottom" "I", Cond.methodLink RX4 73 yX4_measure, Cond.instanceMethod yX4_measure, Cond.selects RX4 yX4_measure yX4_measure, Cond.code yX4_measure cX4_measure 9 none, Cond.fieldLink RX4 86 "Groutline$Frame" "right" "I", Cond.fieldLink RX4 89 "Groutline$Frame" "left" "I", Cond.fieldLink RX4 92 "Groutline$Frame" "top" "I", Cond.fieldLink RX4 95 "Groutline$Frame" "bottom" "I", Cond.methodLink RX4 101 Lib.Math.min.name, Cond.methodLink RX4 106 Lib.Math.max.name, Cond.fieldLink RX4 31 "Groutline$Pieces" "boxWides" "[I", Cond.fieldLink RX4 34 "Groutline$Pieces" "boxHighs" "[I", Cond.methodLink RX4 77 yX3_isBorder, Cond.methodLink RX7 221 yX1_cutAll]
def wsX7_plan_r7 : List Cond := [Cond.instanceMethod yX1_cutAll, Cond.selects RX1 yX1_cutAll yX1_cutAll, Cond.initialized RX1, Cond.code yX1_cutAll cX1_cutAll 4 none, Cond.fieldLink RX1 9 "Groutline$Cuts" "newTiles" "I", Cond.fieldLink RX1 19 "Groutline$Cuts" "restCount" "I", Cond.fieldLink RX1 15 "Groutline$Cuts" "sources" "[I", Cond.fieldLink RX1 46 "Groutline$Pieces" "kinds" "[I", Cond.fieldLink RX1 49 "Groutline$Pieces" "boxWides" "[I", Cond.fieldLink RX1 52 "Groutline$Pieces" "boxHighs" "[I", Cond.methodLink RX1 35 yJ7_fill_53178, Cond.methodLink RX1 41 yX4_has, Cond.methodLink RX1 55 yX1_cut, Cond.instanceMethod yX1_cut, Cond.selects RX1 yX1_cut yX1_cut, Cond.code yX1_cut cX1_cut 8 none, Cond.fieldLink RX1 63 "Groutline$Layout" "wide" "I", Cond.fieldLink RX1 68 "Groutline$Layout" "high" "I", Cond.fieldLink RX1 22 "Groutline$Cuts" "restWides" "[I", Cond.fieldLink RX1 25 "Groutline$Cuts" "restHighs" "[I", Cond.fieldLink RX1 28 "Groutline$Cuts" "restMakers" "[I", Cond.methodLink RX1 59 yX1_bestRestFor, Cond.instanceMethod yX1_bestRestFor, Cond.selects RX1 yX1_bestRestFor yX1_bestRestFor]
def wsX7_plan_r8 : List Cond := [Cond.code yX1_bestRestFor cX1_bestRestFor 8 (some .int), Cond.methodLink RX1 31 yX1_hasRest, Cond.instanceMethod yX1_hasRest, Cond.selects RX1 yX1_hasRest yX1_hasRest, Cond.code yX1_hasRest cX1_hasRest 2 (some .boolean), Cond.methodLink RX1 71 yX1_leave, Cond.instanceMethod yX1_leave, Cond.selects RX1 yX1_leave yX1_leave, Cond.code yX1_leave cX1_leave 8 none, Cond.methodLink RX1 79 yX1_addRest, Cond.instanceMethod yX1_addRest, Cond.selects RX1 yX1_addRest yX1_addRest, Cond.code yX1_addRest cX1_addRest 5 none, Cond.methodLink RX1 75 yX1_removeRest, Cond.instanceMethod yX1_removeRest, Cond.selects RX1 yX1_removeRest yX1_removeRest, Cond.code yX1_removeRest cX1_removeRest 3 none]
def wsX7_plan : List Cond := .code yX7_plan cX7_plan 5 (some .int) :: ((wsX7_plan_r1 ++ (wsX7_plan_r2 ++ (wsX7_plan_r3 ++ (wsX7_plan_r4 ++ (wsX7_plan_r5 ++ (wsX7_plan_r6 ++ (wsX7_plan_r7 ++ wsX7_plan_r8))))))) ++ wsX70 ++ wsX60 ++ wsX40 ++ wsX30 ++ wsX00 ++ wsX20 ++ wsX10 ++ (vx_atS RX7 69 "java/lang/IllegalArgumentException" ["java/lang/RuntimeException", "java/lang/Exception"]).filter goodWord ++ (vx_atS RX7 84 "java/lang/IllegalStateException" ["java/lang/RuntimeException", "java/lang/Exception"]).filter goodWord)
def wsX7_pillar_r1 : List Cond := [Cond.classLink RX7 97 "java/lang/IndexOutOfBoundsException", Cond.initialized "java/lang/IndexOutOfBoundsException", Cond.classLink RX7 80 "java/lang/IllegalStateException", Cond.initialized "java/lang/IllegalStateException", Cond.fieldLink RX7 47 "Groutline" "work" "LGroutline$Work;", Cond.fieldLink RX7 76 "Groutline$Work" "hasBegun" "Z", Cond.fieldLink RX7 19 "Groutline" "bars" "LGroutline$Bars;", Cond.methodLink RX7 93 yX7_isCell, Cond.static yX7_isCell, Cond.initialized RX7, Cond.code yX7_isCell cX7_isCell 2 (some .boolean), Cond.methodLink RX7 102 yX0_setPillar, Cond.instanceMethod yX0_setPillar, Cond.selects RX0 yX0_setPillar yX0_setPillar, Cond.initialized RX0, Cond.code yX0_setPillar cX0_setPillar 5 (some .boolean), Cond.fieldLink RX0 9 "Groutline$Bars" "pillars" "[Z", Cond.static yX7_cellAt, Cond.code yX7_cellAt cX7_cellAt 2 (some .int), Cond.methodLink RX7 58 yX7_renew, Cond.instanceMethod yX7_renew, Cond.selects RX7 yX7_renew yX7_renew, Cond.code yX7_renew cX7_renew 1 none, Cond.fieldLink RX7 12 "Groutline" "layout" "LGroutline$Layout;"]
def wsX7_pillar_r2 : List Cond := [Cond.fieldLink RX7 26 "Groutline" "pieces" "LGroutline$Pieces;", Cond.fieldLink RX7 33 "Groutline" "cuts" "LGroutline$Cuts;", Cond.methodLink RX7 214 yX0_renew, Cond.instanceMethod yX0_renew, Cond.selects RX0 yX0_renew yX0_renew, Cond.code yX0_renew cX0_renew 4 none, Cond.methodLink RX0 30 yX3_stripOfRow, Cond.instanceMethod yX3_stripOfRow, Cond.selects RX3 yX3_stripOfRow yX3_stripOfRow, Cond.initialized RX3, Cond.code yX3_stripOfRow cX3_stripOfRow 2 (some .int), Cond.fieldLink RX3 18 "Groutline$Layout" "border" "I", Cond.methodLink RX3 28 yX3_lowerBorder, Cond.instanceMethod yX3_lowerBorder, Cond.selects RX3 yX3_lowerBorder yX3_lowerBorder, Cond.code yX3_lowerBorder cX3_lowerBorder 1 (some .int), Cond.methodLink RX3 39 yX3_countCourses, Cond.instanceMethod yX3_countCourses, Cond.selects RX3 yX3_countCourses yX3_countCourses, Cond.code yX3_countCourses cX3_countCourses 1 (some .int), Cond.methodLink RX3 35 yX3_courseOfRow, Cond.instanceMethod yX3_courseOfRow, Cond.selects RX3 yX3_courseOfRow yX3_courseOfRow, Cond.code yX3_courseOfRow cX3_courseOfRow 2 (some .int)]
def wsX7_pillar_r3 : List Cond := [Cond.fieldLink RX3 15 "Groutline$Layout" "high" "I", Cond.static yX7_timesIn, Cond.code yX7_timesIn cX7_timesIn 2 (some .int), Cond.methodLink RX0 36 yX6_isLaid, Cond.instanceMethod yX6_isLaid, Cond.selects RX6 yX6_isLaid yX6_isLaid, Cond.initialized RX6, Cond.code yX6_isLaid cX6_isLaid 2 (some .boolean), Cond.fieldLink RX6 22 "Groutline$Work" "laid" "[Z", Cond.methodLink RX0 42 yX0_renewRow, Cond.instanceMethod yX0_renewRow, Cond.selects RX0 yX0_renewRow yX0_renewRow, Cond.code yX0_renewRow cX0_renewRow 4 none, Cond.fieldLink RX0 15 "Groutline$Bars" "barred" "[Z", Cond.methodLink RX0 46 yX0_isDoor, Cond.instanceMethod yX0_isDoor, Cond.selects RX0 yX0_isDoor yX0_isDoor, Cond.code yX0_isDoor cX0_isDoor 3 (some .boolean), Cond.fieldLink RX0 18 "Groutline$Bars" "doorColumn" "I", Cond.methodLink RX7 217 yX4_find, Cond.instanceMethod yX4_find, Cond.selects RX4 yX4_find yX4_find, Cond.initialized RX4, Cond.code yX4_find cX4_find 6 none]
def wsX7_pillar_r4 : List Cond := [Cond.fieldLink RX4 9 "Groutline$Pieces" "count" "I", Cond.fieldLink RX4 15 "Groutline$Pieces" "ofCells" "[I", Cond.methodLink RX4 44 yJ7_fill_53178, Cond.static yJ7_fill_53178, Cond.initialized RJ7, Cond.code yJ7_fill_53178 cJ7_fill_53178 4 none, Cond.methodLink RX4 54 yX0_areAt, Cond.instanceMethod yX0_areAt, Cond.selects RX0 yX0_areAt yX0_areAt, Cond.code yX0_areAt cX0_areAt 3 (some .boolean), Cond.methodLink RX4 60 yX4_add, Cond.instanceMethod yX4_add, Cond.selects RX4 yX4_add yX4_add, Cond.code yX4_add cX4_add 6 none, Cond.fieldLink RX4 22 "Groutline$Pieces" "columns" "[I", Cond.fieldLink RX4 25 "Groutline$Pieces" "rows" "[I", Cond.fieldLink RX4 40 "Groutline$Pieces" "frame" "LGroutline$Frame;", Cond.fieldLink RX4 19 "Groutline$Pieces" "kinds" "[I", Cond.fieldLink RX4 28 "Groutline$Pieces" "sizes" "[I", Cond.fieldLink RX4 80 "Groutline$Layout" "wide" "I", Cond.fieldLink RX4 83 "Groutline$Layout" "high" "I", Cond.methodLink RX4 64 yX4_has, Cond.instanceMethod yX4_has, Cond.selects RX4 yX4_has yX4_has]
def wsX7_pillar_r5 : List Cond := [Cond.code yX4_has cX4_has 2 (some .boolean), Cond.methodLink RX4 68 yX3_frame, Cond.instanceMethod yX3_frame, Cond.selects RX3 yX3_frame yX3_frame, Cond.code yX3_frame cX3_frame 9 none, Cond.fieldLink RX3 21 "Groutline$Layout" "pattern" "I", Cond.fieldLink RX3 9 "Groutline$Layout" "wide" "I", Cond.methodLink RX3 55 Lib.Math.max.name, Cond.static Lib.Math.max.name, Cond.initialized "java/lang/Math", Cond.code Lib.Math.max.name Lib.Math.max.code 2 (some .int), Cond.methodLink RX3 60 Lib.Math.min.name, Cond.static Lib.Math.min.name, Cond.code Lib.Math.min.name Lib.Math.min.code 2 (some .int), Cond.methodLink RX3 45 yX3_isBorder, Cond.instanceMethod yX3_isBorder, Cond.selects RX3 yX3_isBorder yX3_isBorder, Cond.code yX3_isBorder cX3_isBorder 3 (some .boolean), Cond.methodLink RX3 24 yX3_rightBorder, Cond.instanceMethod yX3_rightBorder, Cond.selects RX3 yX3_rightBorder yX3_rightBorder, Cond.code yX3_rightBorder cX3_rightBorder 1 (some .int), Cond.methodLink RX3 49 yX2_set, Cond.instanceMethod yX2_set]
def wsX7_pillar_r6 : List Cond := [Cond.selects RX2 yX2_set yX2_set, Cond.initialized RX2, Cond.code yX2_set cX2_set 5 none, Cond.fieldLink RX2 7 "Groutline$Frame" "left" "I", Cond.fieldLink RX2 13 "Groutline$Frame" "right" "I", Cond.fieldLink RX2 16 "Groutline$Frame" "top" "I", Cond.fieldLink RX2 19 "Groutline$Frame" "bottom" "I", Cond.methodLink RX4 73 yX4_measure, Cond.instanceMethod yX4_measure, Cond.selects RX4 yX4_measure yX4_measure, Cond.code yX4_measure cX4_measure 9 none, Cond.fieldLink RX4 86 "Groutline$Frame" "right" "I", Cond.fieldLink RX4 89 "Groutline$Frame" "left" "I", Cond.fieldLink RX4 92 "Groutline$Frame" "top" "I", Cond.fieldLink RX4 95 "Groutline$Frame" "bottom" "I", Cond.methodLink RX4 101 Lib.Math.min.name, Cond.methodLink RX4 106 Lib.Math.max.name, Cond.fieldLink RX4 31 "Groutline$Pieces" "boxWides" "[I", Cond.fieldLink RX4 34 "Groutline$Pieces" "boxHighs" "[I", Cond.methodLink RX4 77 yX3_isBorder, Cond.methodLink RX7 221 yX1_cutAll, Cond.instanceMethod yX1_cutAll, Cond.selects RX1 yX1_cutAll yX1_cutAll, Cond.initialized RX1]
def wsX7_pillar_r7 : List Cond := [Cond.code yX1_cutAll cX1_cutAll 4 none, Cond.fieldLink RX1 9 "Groutline$Cuts" "newTiles" "I", Cond.fieldLink RX1 19 "Groutline$Cuts" "restCount" "I", Cond.fieldLink RX1 15 "Groutline$Cuts" "sources" "[I", Cond.fieldLink RX1 46 "Groutline$Pieces" "kinds" "[I", Cond.fieldLink RX1 49 "Groutline$Pieces" "boxWides" "[I", Cond.fieldLink RX1 52 "Groutline$Pieces" "boxHighs" "[I", Cond.methodLink RX1 35 yJ7_fill_53178, Cond.methodLink RX1 41 yX4_has, Cond.methodLink RX1 55 yX1_cut, Cond.instanceMethod yX1_cut, Cond.selects RX1 yX1_cut yX1_cut, Cond.code yX1_cut cX1_cut 8 none, Cond.fieldLink RX1 63 "Groutline$Layout" "wide" "I", Cond.fieldLink RX1 68 "Groutline$Layout" "high" "I", Cond.fieldLink RX1 22 "Groutline$Cuts" "restWides" "[I", Cond.fieldLink RX1 25 "Groutline$Cuts" "restHighs" "[I", Cond.fieldLink RX1 28 "Groutline$Cuts" "restMakers" "[I", Cond.methodLink RX1 59 yX1_bestRestFor, Cond.instanceMethod yX1_bestRestFor, Cond.selects RX1 yX1_bestRestFor yX1_bestRestFor, Cond.code yX1_bestRestFor cX1_bestRestFor 8 (some .int), Cond.methodLink RX1 31 yX1_hasRest, Cond.instanceMethod yX1_hasRest]
def wsX7_pillar_r8 : List Cond := [Cond.selects RX1 yX1_hasRest yX1_hasRest, Cond.code yX1_hasRest cX1_hasRest 2 (some .boolean), Cond.methodLink RX1 71 yX1_leave, Cond.instanceMethod yX1_leave, Cond.selects RX1 yX1_leave yX1_leave, Cond.code yX1_leave cX1_leave 8 none, Cond.methodLink RX1 79 yX1_addRest, Cond.instanceMethod yX1_addRest, Cond.selects RX1 yX1_addRest yX1_addRest, Cond.code yX1_addRest cX1_addRest 5 none, Cond.methodLink RX1 75 yX1_removeRest, Cond.instanceMethod yX1_removeRest, Cond.selects RX1 yX1_removeRest yX1_removeRest, Cond.code yX1_removeRest cX1_removeRest 3 none]
def wsX7_pillar : List Cond := .code yX7_pillar cX7_pillar 5 (some .boolean) :: ((wsX7_pillar_r1 ++ (wsX7_pillar_r2 ++ (wsX7_pillar_r3 ++ (wsX7_pillar_r4 ++ (wsX7_pillar_r5 ++ (wsX7_pillar_r6 ++ (wsX7_pillar_r7 ++ wsX7_pillar_r8))))))) ++ wsX70 ++ wsX60 ++ wsX00 ++ wsX30 ++ wsX40 ++ wsX20 ++ wsX10 ++ (vx_atS RX7 101 "java/lang/IndexOutOfBoundsException" ["java/lang/RuntimeException", "java/lang/Exception"]).filter goodWord ++ (vx_atS RX7 84 "java/lang/IllegalStateException" ["java/lang/RuntimeException", "java/lang/Exception"]).filter goodWord)
def wsX7_door_r1 : List Cond := [Cond.classLink RX7 97 "java/lang/IndexOutOfBoundsException", Cond.initialized "java/lang/IndexOutOfBoundsException", Cond.fieldLink RX7 19 "Groutline" "bars" "LGroutline$Bars;", Cond.fieldLink RX7 108 "Groutline$Bars" "doorColumn" "I", Cond.fieldLink RX7 26 "Groutline" "pieces" "LGroutline$Pieces;", Cond.fieldLink RX7 89 "Groutline$Pieces" "count" "I", Cond.methodLink RX7 61 yX7_isWithin, Cond.static yX7_isWithin, Cond.initialized RX7, Cond.code yX7_isWithin cX7_isWithin 3 (some .boolean), Cond.methodLink RX7 58 yX7_renew, Cond.instanceMethod yX7_renew, Cond.selects RX7 yX7_renew yX7_renew, Cond.code yX7_renew cX7_renew 1 none, Cond.fieldLink RX7 12 "Groutline" "layout" "LGroutline$Layout;", Cond.fieldLink RX7 47 "Groutline" "work" "LGroutline$Work;", Cond.fieldLink RX7 33 "Groutline" "cuts" "LGroutline$Cuts;", Cond.methodLink RX7 214 yX0_renew, Cond.instanceMethod yX0_renew, Cond.selects RX0 yX0_renew yX0_renew, Cond.initialized RX0, Cond.code yX0_renew cX0_renew 4 none, Cond.methodLink RX0 30 yX3_stripOfRow, Cond.instanceMethod yX3_stripOfRow]
def wsX7_door_r2 : List Cond := [Cond.selects RX3 yX3_stripOfRow yX3_stripOfRow, Cond.initialized RX3, Cond.code yX3_stripOfRow cX3_stripOfRow 2 (some .int), Cond.fieldLink RX3 18 "Groutline$Layout" "border" "I", Cond.methodLink RX3 28 yX3_lowerBorder, Cond.instanceMethod yX3_lowerBorder, Cond.selects RX3 yX3_lowerBorder yX3_lowerBorder, Cond.code yX3_lowerBorder cX3_lowerBorder 1 (some .int), Cond.methodLink RX3 39 yX3_countCourses, Cond.instanceMethod yX3_countCourses, Cond.selects RX3 yX3_countCourses yX3_countCourses, Cond.code yX3_countCourses cX3_countCourses 1 (some .int), Cond.methodLink RX3 35 yX3_courseOfRow, Cond.instanceMethod yX3_courseOfRow, Cond.selects RX3 yX3_courseOfRow yX3_courseOfRow, Cond.code yX3_courseOfRow cX3_courseOfRow 2 (some .int), Cond.fieldLink RX3 15 "Groutline$Layout" "high" "I", Cond.static yX7_timesIn, Cond.code yX7_timesIn cX7_timesIn 2 (some .int), Cond.methodLink RX0 36 yX6_isLaid, Cond.instanceMethod yX6_isLaid, Cond.selects RX6 yX6_isLaid yX6_isLaid, Cond.initialized RX6, Cond.code yX6_isLaid cX6_isLaid 2 (some .boolean)]
def wsX7_door_r3 : List Cond := [Cond.fieldLink RX6 22 "Groutline$Work" "laid" "[Z", Cond.methodLink RX0 42 yX0_renewRow, Cond.instanceMethod yX0_renewRow, Cond.selects RX0 yX0_renewRow yX0_renewRow, Cond.code yX0_renewRow cX0_renewRow 4 none, Cond.fieldLink RX0 15 "Groutline$Bars" "barred" "[Z", Cond.fieldLink RX0 9 "Groutline$Bars" "pillars" "[Z", Cond.static yX7_isCell, Cond.code yX7_isCell cX7_isCell 2 (some .boolean), Cond.static yX7_cellAt, Cond.code yX7_cellAt cX7_cellAt 2 (some .int), Cond.methodLink RX0 46 yX0_isDoor, Cond.instanceMethod yX0_isDoor, Cond.selects RX0 yX0_isDoor yX0_isDoor, Cond.code yX0_isDoor cX0_isDoor 3 (some .boolean), Cond.fieldLink RX0 18 "Groutline$Bars" "doorColumn" "I", Cond.methodLink RX7 217 yX4_find, Cond.instanceMethod yX4_find, Cond.selects RX4 yX4_find yX4_find, Cond.initialized RX4, Cond.code yX4_find cX4_find 6 none, Cond.fieldLink RX4 9 "Groutline$Pieces" "count" "I", Cond.fieldLink RX4 15 "Groutline$Pieces" "ofCells" "[I", Cond.methodLink RX4 44 yJ7_fill_53178]
def wsX7_door_r4 : List Cond := [Cond.static yJ7_fill_53178, Cond.initialized RJ7, Cond.code yJ7_fill_53178 cJ7_fill_53178 4 none, Cond.methodLink RX4 54 yX0_areAt, Cond.instanceMethod yX0_areAt, Cond.selects RX0 yX0_areAt yX0_areAt, Cond.code yX0_areAt cX0_areAt 3 (some .boolean), Cond.methodLink RX4 60 yX4_add, Cond.instanceMethod yX4_add, Cond.selects RX4 yX4_add yX4_add, Cond.code yX4_add cX4_add 6 none, Cond.fieldLink RX4 22 "Groutline$Pieces" "columns" "[I", Cond.fieldLink RX4 25 "Groutline$Pieces" "rows" "[I", Cond.fieldLink RX4 40 "Groutline$Pieces" "frame" "LGroutline$Frame;", Cond.fieldLink RX4 19 "Groutline$Pieces" "kinds" "[I", Cond.fieldLink RX4 28 "Groutline$Pieces" "sizes" "[I", Cond.fieldLink RX4 80 "Groutline$Layout" "wide" "I", Cond.fieldLink RX4 83 "Groutline$Layout" "high" "I", Cond.methodLink RX4 64 yX4_has, Cond.instanceMethod yX4_has, Cond.selects RX4 yX4_has yX4_has, Cond.code yX4_has cX4_has 2 (some .boolean), Cond.methodLink RX4 68 yX3_frame, Cond.instanceMethod yX3_frame]
def wsX7_door_r5 : List Cond := [Cond.selects RX3 yX3_frame yX3_frame, Cond.code yX3_frame cX3_frame 9 none, Cond.fieldLink RX3 21 "Groutline$Layout" "pattern" "I", Cond.fieldLink RX3 9 "Groutline$Layout" "wide" "I", Cond.methodLink RX3 55 Lib.Math.max.name, Cond.static Lib.Math.max.name, Cond.initialized "java/lang/Math", Cond.code Lib.Math.max.name Lib.Math.max.code 2 (some .int), Cond.methodLink RX3 60 Lib.Math.min.name, Cond.static Lib.Math.min.name, Cond.code Lib.Math.min.name Lib.Math.min.code 2 (some .int), Cond.methodLink RX3 45 yX3_isBorder, Cond.instanceMethod yX3_isBorder, Cond.selects RX3 yX3_isBorder yX3_isBorder, Cond.code yX3_isBorder cX3_isBorder 3 (some .boolean), Cond.methodLink RX3 24 yX3_rightBorder, Cond.instanceMethod yX3_rightBorder, Cond.selects RX3 yX3_rightBorder yX3_rightBorder, Cond.code yX3_rightBorder cX3_rightBorder 1 (some .int), Cond.methodLink RX3 49 yX2_set, Cond.instanceMethod yX2_set, Cond.selects RX2 yX2_set yX2_set, Cond.initialized RX2, Cond.code yX2_set cX2_set 5 none]
def wsX7_door_r6 : List Cond := [Cond.fieldLink RX2 7 "Groutline$Frame" "left" "I", Cond.fieldLink RX2 13 "Groutline$Frame" "right" "I", Cond.fieldLink RX2 16 "Groutline$Frame" "top" "I", Cond.fieldLink RX2 19 "Groutline$Frame" "bottom" "I", Cond.methodLink RX4 73 yX4_measure, Cond.instanceMethod yX4_measure, Cond.selects RX4 yX4_measure yX4_measure, Cond.code yX4_measure cX4_measure 9 none, Cond.fieldLink RX4 86 "Groutline$Frame" "right" "I", Cond.fieldLink RX4 89 "Groutline$Frame" "left" "I", Cond.fieldLink RX4 92 "Groutline$Frame" "top" "I", Cond.fieldLink RX4 95 "Groutline$Frame" "bottom" "I", Cond.methodLink RX4 101 Lib.Math.min.name, Cond.methodLink RX4 106 Lib.Math.max.name, Cond.fieldLink RX4 31 "Groutline$Pieces" "boxWides" "[I", Cond.fieldLink RX4 34 "Groutline$Pieces" "boxHighs" "[I", Cond.methodLink RX4 77 yX3_isBorder, Cond.methodLink RX7 221 yX1_cutAll, Cond.instanceMethod yX1_cutAll, Cond.selects RX1 yX1_cutAll yX1_cutAll, Cond.initialized RX1, Cond.code yX1_cutAll cX1_cutAll 4 none, Cond.fieldLink RX1 9 "Groutline$Cuts" "newTiles" "I", Cond.fieldLink RX1 19 "Groutline$Cuts" "restCount" "I"]
def wsX7_door_r7 : List Cond := [Cond.fieldLink RX1 15 "Groutline$Cuts" "sources" "[I", Cond.fieldLink RX1 46 "Groutline$Pieces" "kinds" "[I", Cond.fieldLink RX1 49 "Groutline$Pieces" "boxWides" "[I", Cond.fieldLink RX1 52 "Groutline$Pieces" "boxHighs" "[I", Cond.methodLink RX1 35 yJ7_fill_53178, Cond.methodLink RX1 41 yX4_has, Cond.methodLink RX1 55 yX1_cut, Cond.instanceMethod yX1_cut, Cond.selects RX1 yX1_cut yX1_cut, Cond.code yX1_cut cX1_cut 8 none, Cond.fieldLink RX1 63 "Groutline$Layout" "wide" "I", Cond.fieldLink RX1 68 "Groutline$Layout" "high" "I", Cond.fieldLink RX1 22 "Groutline$Cuts" "restWides" "[I", Cond.fieldLink RX1 25 "Groutline$Cuts" "restHighs" "[I", Cond.fieldLink RX1 28 "Groutline$Cuts" "restMakers" "[I", Cond.methodLink RX1 59 yX1_bestRestFor, Cond.instanceMethod yX1_bestRestFor, Cond.selects RX1 yX1_bestRestFor yX1_bestRestFor, Cond.code yX1_bestRestFor cX1_bestRestFor 8 (some .int), Cond.methodLink RX1 31 yX1_hasRest, Cond.instanceMethod yX1_hasRest, Cond.selects RX1 yX1_hasRest yX1_hasRest, Cond.code yX1_hasRest cX1_hasRest 2 (some .boolean), Cond.methodLink RX1 71 yX1_leave]
def wsX7_door_r8 : List Cond := [Cond.instanceMethod yX1_leave, Cond.selects RX1 yX1_leave yX1_leave, Cond.code yX1_leave cX1_leave 8 none, Cond.methodLink RX1 79 yX1_addRest, Cond.instanceMethod yX1_addRest, Cond.selects RX1 yX1_addRest yX1_addRest, Cond.code yX1_addRest cX1_addRest 5 none, Cond.methodLink RX1 75 yX1_removeRest, Cond.instanceMethod yX1_removeRest, Cond.selects RX1 yX1_removeRest yX1_removeRest, Cond.code yX1_removeRest cX1_removeRest 3 none]
def wsX7_door : List Cond := .code yX7_door cX7_door 2 (some .int) :: ((wsX7_door_r1 ++ (wsX7_door_r2 ++ (wsX7_door_r3 ++ (wsX7_door_r4 ++ (wsX7_door_r5 ++ (wsX7_door_r6 ++ (wsX7_door_r7 ++ wsX7_door_r8))))))) ++ wsX70 ++ wsX00 ++ wsX40 ++ wsX30 ++ wsX60 ++ wsX20 ++ wsX10 ++ (vx_atS RX7 101 "java/lang/IndexOutOfBoundsException" ["java/lang/RuntimeException", "java/lang/Exception"]).filter goodWord)
def wsX7_ofPiece_r1 : List Cond := [Cond.classLink RX7 97 "java/lang/IndexOutOfBoundsException", Cond.initialized "java/lang/IndexOutOfBoundsException", Cond.classLink RX7 65 "java/lang/IllegalArgumentException", Cond.initialized "java/lang/IllegalArgumentException", Cond.fieldLink RX7 26 "Groutline" "pieces" "LGroutline$Pieces;", Cond.fieldLink RX7 119 "Groutline$Pieces" "kinds" "[I", Cond.fieldLink RX7 123 "Groutline$Pieces" "columns" "[I", Cond.fieldLink RX7 126 "Groutline$Pieces" "rows" "[I", Cond.fieldLink RX7 129 "Groutline$Pieces" "sizes" "[I", Cond.fieldLink RX7 12 "Groutline" "layout" "LGroutline$Layout;", Cond.fieldLink RX7 33 "Groutline" "cuts" "LGroutline$Cuts;", Cond.fieldLink RX7 136 "Groutline$Cuts" "sources" "[I", Cond.methodLink RX7 111 yX4_has, Cond.instanceMethod yX4_has, Cond.selects RX4 yX4_has yX4_has, Cond.initialized RX4, Cond.code yX4_has cX4_has 2 (some .boolean), Cond.fieldLink RX4 9 "Groutline$Pieces" "count" "I", Cond.methodLink RX7 61 yX7_isWithin, Cond.static yX7_isWithin, Cond.initialized RX7, Cond.code yX7_isWithin cX7_isWithin 3 (some .boolean), Cond.methodLink RX7 132 yX3_stripOfRow, Cond.instanceMethod yX3_stripOfRow]
def wsX7_ofPiece_r2 : List Cond := [Cond.selects RX3 yX3_stripOfRow yX3_stripOfRow, Cond.initialized RX3, Cond.code yX3_stripOfRow cX3_stripOfRow 2 (some .int), Cond.fieldLink RX3 18 "Groutline$Layout" "border" "I", Cond.methodLink RX3 28 yX3_lowerBorder, Cond.instanceMethod yX3_lowerBorder, Cond.selects RX3 yX3_lowerBorder yX3_lowerBorder, Cond.code yX3_lowerBorder cX3_lowerBorder 1 (some .int), Cond.methodLink RX3 39 yX3_countCourses, Cond.instanceMethod yX3_countCourses, Cond.selects RX3 yX3_countCourses yX3_countCourses, Cond.code yX3_countCourses cX3_countCourses 1 (some .int), Cond.methodLink RX3 35 yX3_courseOfRow, Cond.instanceMethod yX3_courseOfRow, Cond.selects RX3 yX3_courseOfRow yX3_courseOfRow, Cond.code yX3_courseOfRow cX3_courseOfRow 2 (some .int), Cond.fieldLink RX3 15 "Groutline$Layout" "high" "I", Cond.static yX7_timesIn, Cond.code yX7_timesIn cX7_timesIn 2 (some .int)]
def wsX7_ofPiece : List Cond := .code yX7_ofPiece cX7_ofPiece 3 (some .int) :: ((wsX7_ofPiece_r1 ++ wsX7_ofPiece_r2) ++ wsX70 ++ wsX40 ++ wsX10 ++ wsX30 ++ (vx_atS RX7 101 "java/lang/IndexOutOfBoundsException" ["java/lang/RuntimeException", "java/lang/Exception"]).filter goodWord ++ (vx_atS RX7 69 "java/lang/IllegalArgumentException" ["java/lang/RuntimeException", "java/lang/Exception"]).filter goodWord)
def wsX7_pieceAt : List Cond := .code yX7_pieceAt cX7_pieceAt 3 (some .int) :: ([.classLink RX7 97 "java/lang/IndexOutOfBoundsException", .initialized "java/lang/IndexOutOfBoundsException", .fieldLink RX7 26 "Groutline" "pieces" "LGroutline$Pieces;", .fieldLink RX7 139 "Groutline$Pieces" "ofCells" "[I", .methodLink RX7 93 yX7_isCell, .static yX7_isCell, .initialized RX7, .code yX7_isCell cX7_isCell 2 (some .boolean), .methodLink RX7 142 yX7_cellAt, .static yX7_cellAt, .code yX7_cellAt cX7_cellAt 2 (some .int)] ++ wsX70 ++ wsX40 ++ (vx_atS RX7 101 "java/lang/IndexOutOfBoundsException" ["java/lang/RuntimeException", "java/lang/Exception"]).filter goodWord)
def wsX7_isFirstOfItsPiece_r1 : List Cond := [Cond.fieldLink RX7 19 "Groutline" "bars" "LGroutline$Bars;", Cond.fieldLink RX7 12 "Groutline" "layout" "LGroutline$Layout;", Cond.fieldLink RX7 54 "Groutline" "frame" "LGroutline$Frame;", Cond.fieldLink RX7 231 "Groutline$Frame" "top" "I", Cond.fieldLink RX7 234 "Groutline$Frame" "left" "I", Cond.fieldLink RX7 237 "Groutline$Frame" "right" "I", Cond.methodLink RX7 225 yX0_areAt, Cond.instanceMethod yX0_areAt, Cond.selects RX0 yX0_areAt yX0_areAt, Cond.initialized RX0, Cond.code yX0_areAt cX0_areAt 3 (some .boolean), Cond.fieldLink RX0 15 "Groutline$Bars" "barred" "[Z", Cond.static yX7_isCell, Cond.initialized RX7, Cond.code yX7_isCell cX7_isCell 2 (some .boolean), Cond.static yX7_cellAt, Cond.code yX7_cellAt cX7_cellAt 2 (some .int), Cond.methodLink RX7 228 yX3_frame, Cond.instanceMethod yX3_frame, Cond.selects RX3 yX3_frame yX3_frame, Cond.initialized RX3, Cond.code yX3_frame cX3_frame 9 none, Cond.fieldLink RX3 21 "Groutline$Layout" "pattern" "I", Cond.fieldLink RX3 18 "Groutline$Layout" "border" "I"]
def wsX7_isFirstOfItsPiece_r2 : List Cond := [Cond.fieldLink RX3 9 "Groutline$Layout" "wide" "I", Cond.fieldLink RX3 15 "Groutline$Layout" "high" "I", Cond.methodLink RX3 55 Lib.Math.max.name, Cond.static Lib.Math.max.name, Cond.initialized "java/lang/Math", Cond.code Lib.Math.max.name Lib.Math.max.code 2 (some .int), Cond.methodLink RX3 60 Lib.Math.min.name, Cond.static Lib.Math.min.name, Cond.code Lib.Math.min.name Lib.Math.min.code 2 (some .int), Cond.methodLink RX3 45 yX3_isBorder, Cond.instanceMethod yX3_isBorder, Cond.selects RX3 yX3_isBorder yX3_isBorder, Cond.code yX3_isBorder cX3_isBorder 3 (some .boolean), Cond.methodLink RX3 24 yX3_rightBorder, Cond.instanceMethod yX3_rightBorder, Cond.selects RX3 yX3_rightBorder yX3_rightBorder, Cond.code yX3_rightBorder cX3_rightBorder 1 (some .int), Cond.methodLink RX3 28 yX3_lowerBorder, Cond.instanceMethod yX3_lowerBorder, Cond.selects RX3 yX3_lowerBorder yX3_lowerBorder, Cond.code yX3_lowerBorder cX3_lowerBorder 1 (some .int), Cond.methodLink RX3 49 yX2_set, Cond.instanceMethod yX2_set, Cond.selects RX2 yX2_set yX2_set]
def wsX7_isFirstOfItsPiece_r3 : List Cond := [Cond.initialized RX2, Cond.code yX2_set cX2_set 5 none, Cond.fieldLink RX2 7 "Groutline$Frame" "left" "I", Cond.fieldLink RX2 13 "Groutline$Frame" "right" "I", Cond.fieldLink RX2 16 "Groutline$Frame" "top" "I", Cond.fieldLink RX2 19 "Groutline$Frame" "bottom" "I", Cond.methodLink RX3 35 yX3_courseOfRow, Cond.instanceMethod yX3_courseOfRow, Cond.selects RX3 yX3_courseOfRow yX3_courseOfRow, Cond.code yX3_courseOfRow cX3_courseOfRow 2 (some .int), Cond.static yX7_timesIn, Cond.code yX7_timesIn cX7_timesIn 2 (some .int)]
def wsX7_isFirstOfItsPiece : List Cond := .code yX7_isFirstOfItsPiece cX7_isFirstOfItsPiece 6 (some .boolean) :: ((wsX7_isFirstOfItsPiece_r1 ++ (wsX7_isFirstOfItsPiece_r2 ++ wsX7_isFirstOfItsPiece_r3)) ++ wsX70 ++ wsX20 ++ wsX00 ++ wsX30)
def wsX7_piecesAnew_r1 : List Cond := [Cond.methodLink RX7 146 yX7_isFirstOfItsPiece, Cond.instanceMethod yX7_isFirstOfItsPiece, Cond.selects RX7 yX7_isFirstOfItsPiece yX7_isFirstOfItsPiece, Cond.initialized RX7, Cond.code yX7_isFirstOfItsPiece cX7_isFirstOfItsPiece 6 (some .boolean), Cond.fieldLink RX7 19 "Groutline" "bars" "LGroutline$Bars;", Cond.fieldLink RX7 12 "Groutline" "layout" "LGroutline$Layout;", Cond.fieldLink RX7 54 "Groutline" "frame" "LGroutline$Frame;", Cond.fieldLink RX7 231 "Groutline$Frame" "top" "I", Cond.fieldLink RX7 234 "Groutline$Frame" "left" "I", Cond.fieldLink RX7 237 "Groutline$Frame" "right" "I", Cond.methodLink RX7 225 yX0_areAt, Cond.instanceMethod yX0_areAt, Cond.selects RX0 yX0_areAt yX0_areAt, Cond.initialized RX0, Cond.code yX0_areAt cX0_areAt 3 (some .boolean), Cond.fieldLink RX0 15 "Groutline$Bars" "barred" "[Z", Cond.static yX7_isCell, Cond.code yX7_isCell cX7_isCell 2 (some .boolean), Cond.static yX7_cellAt, Cond.code yX7_cellAt cX7_cellAt 2 (some .int), Cond.methodLink RX7 228 yX3_frame, Cond.instanceMethod yX3_frame, Cond.selects RX3 yX3_frame yX3_frame]
def wsX7_piecesAnew_r2 : List Cond := [Cond.initialized RX3, Cond.code yX3_frame cX3_frame 9 none, Cond.fieldLink RX3 21 "Groutline$Layout" "pattern" "I", Cond.fieldLink RX3 18 "Groutline$Layout" "border" "I", Cond.fieldLink RX3 9 "Groutline$Layout" "wide" "I", Cond.fieldLink RX3 15 "Groutline$Layout" "high" "I", Cond.methodLink RX3 55 Lib.Math.max.name, Cond.static Lib.Math.max.name, Cond.initialized "java/lang/Math", Cond.code Lib.Math.max.name Lib.Math.max.code 2 (some .int), Cond.methodLink RX3 60 Lib.Math.min.name, Cond.static Lib.Math.min.name, Cond.code Lib.Math.min.name Lib.Math.min.code 2 (some .int), Cond.methodLink RX3 45 yX3_isBorder, Cond.instanceMethod yX3_isBorder, Cond.selects RX3 yX3_isBorder yX3_isBorder, Cond.code yX3_isBorder cX3_isBorder 3 (some .boolean), Cond.methodLink RX3 24 yX3_rightBorder, Cond.instanceMethod yX3_rightBorder, Cond.selects RX3 yX3_rightBorder yX3_rightBorder, Cond.code yX3_rightBorder cX3_rightBorder 1 (some .int), Cond.methodLink RX3 28 yX3_lowerBorder, Cond.instanceMethod yX3_lowerBorder, Cond.selects RX3 yX3_lowerBorder yX3_lowerBorder]
def wsX7_piecesAnew_r3 : List Cond := [Cond.code yX3_lowerBorder cX3_lowerBorder 1 (some .int), Cond.methodLink RX3 49 yX2_set, Cond.instanceMethod yX2_set, Cond.selects RX2 yX2_set yX2_set, Cond.initialized RX2, Cond.code yX2_set cX2_set 5 none, Cond.fieldLink RX2 7 "Groutline$Frame" "left" "I", Cond.fieldLink RX2 13 "Groutline$Frame" "right" "I", Cond.fieldLink RX2 16 "Groutline$Frame" "top" "I", Cond.fieldLink RX2 19 "Groutline$Frame" "bottom" "I", Cond.methodLink RX3 35 yX3_courseOfRow, Cond.instanceMethod yX3_courseOfRow, Cond.selects RX3 yX3_courseOfRow yX3_courseOfRow, Cond.code yX3_courseOfRow cX3_courseOfRow 2 (some .int), Cond.static yX7_timesIn, Cond.code yX7_timesIn cX7_timesIn 2 (some .int)]
def wsX7_piecesAnew : List Cond := .code yX7_piecesAnew cX7_piecesAnew 4 (some .int) :: ((wsX7_piecesAnew_r1 ++ (wsX7_piecesAnew_r2 ++ wsX7_piecesAnew_r3)) ++ wsX70 ++ wsX20 ++ wsX00 ++ wsX30)
def wsX7_tiles : List Cond := .code yX7_tiles cX7_tiles 1 (some .int) :: ([.fieldLink RX7 33 "Groutline" "cuts" "LGroutline$Cuts;", .fieldLink RX7 149 "Groutline$Cuts" "newTiles" "I"] ++ wsX70 ++ wsX10)
def wsX7_rest : List Cond := .code yX7_rest cX7_rest 2 (some .int) :: ([.classLink RX7 97 "java/lang/IndexOutOfBoundsException", .initialized "java/lang/IndexOutOfBoundsException", .fieldLink RX7 33 "Groutline" "cuts" "LGroutline$Cuts;", .methodLink RX7 154 yX1_sizeOfRest, .instanceMethod yX1_sizeOfRest, .selects RX1 yX1_sizeOfRest yX1_sizeOfRest, .initialized RX1, .code yX1_sizeOfRest cX1_sizeOfRest 2 (some .int), .fieldLink RX1 22 "Groutline$Cuts" "restWides" "[I", .fieldLink RX1 25 "Groutline$Cuts" "restHighs" "[I", .methodLink RX1 31 yX1_hasRest, .instanceMethod yX1_hasRest, .selects RX1 yX1_hasRest yX1_hasRest, .code yX1_hasRest cX1_hasRest 2 (some .boolean), .fieldLink RX1 19 "Groutline$Cuts" "restCount" "I"] ++ wsX70 ++ wsX10 ++ (vx_atS RX7 101 "java/lang/IndexOutOfBoundsException" ["java/lang/RuntimeException", "java/lang/Exception"]).filter goodWord)
def wsX7_isFloor : List Cond := .code yX7_isFloor cX7_isFloor 1 (some .boolean) :: ([.methodLink RX7 61 yX7_isWithin, .static yX7_isWithin, .initialized RX7, .code yX7_isWithin cX7_isWithin 3 (some .boolean)])
def wsX7_crate_r1 : List Cond := [Cond.classLink RX7 65 "java/lang/IllegalArgumentException", Cond.initialized "java/lang/IllegalArgumentException", Cond.classLink RX7 80 "java/lang/IllegalStateException", Cond.initialized "java/lang/IllegalStateException", Cond.fieldLink RX7 40 "Groutline" "stack" "LGroutline$Stack;", Cond.fieldLink RX7 174 "Groutline$Stack" "count" "I", Cond.methodLink RX7 157 yX7_isFloor, Cond.static yX7_isFloor, Cond.initialized RX7, Cond.code yX7_isFloor cX7_isFloor 1 (some .boolean), Cond.methodLink RX7 61 yX7_isWithin, Cond.static yX7_isWithin, Cond.code yX7_isWithin cX7_isWithin 3 (some .boolean), Cond.methodLink RX7 164 yX5_isFull, Cond.instanceMethod yX5_isFull, Cond.selects RX5 yX5_isFull yX5_isFull, Cond.initialized RX5, Cond.code yX5_isFull cX5_isFull 1 (some .boolean), Cond.fieldLink RX5 9 "Groutline$Stack" "count" "I", Cond.methodLink RX7 170 yX5_put, Cond.instanceMethod yX5_put, Cond.selects RX5 yX5_put yX5_put, Cond.code yX5_put cX5_put 3 none, Cond.fieldLink RX5 18 "Groutline$Stack" "crateFloors" "[I"]
def wsX7_crate_r2 : List Cond := [Cond.fieldLink RX5 22 "Groutline$Stack" "crateTiles" "[I"]
def wsX7_crate : List Cond := .code yX7_crate cX7_crate 3 (some .int) :: ((wsX7_crate_r1 ++ wsX7_crate_r2) ++ wsX70 ++ wsX50 ++ (vx_atS RX7 69 "java/lang/IllegalArgumentException" ["java/lang/RuntimeException", "java/lang/Exception"]).filter goodWord ++ (vx_atS RX7 84 "java/lang/IllegalStateException" ["java/lang/RuntimeException", "java/lang/Exception"]).filter goodWord)
def wsX7_fetch_r1 : List Cond := [Cond.classLink RX7 65 "java/lang/IllegalArgumentException", Cond.initialized "java/lang/IllegalArgumentException", Cond.fieldLink RX7 40 "Groutline" "stack" "LGroutline$Stack;", Cond.methodLink RX7 157 yX7_isFloor, Cond.static yX7_isFloor, Cond.initialized RX7, Cond.code yX7_isFloor cX7_isFloor 1 (some .boolean), Cond.methodLink RX7 61 yX7_isWithin, Cond.static yX7_isWithin, Cond.code yX7_isWithin cX7_isWithin 3 (some .boolean), Cond.methodLink RX7 175 yX5_takeTopmostFor, Cond.instanceMethod yX5_takeTopmostFor, Cond.selects RX5 yX5_takeTopmostFor yX5_takeTopmostFor, Cond.initialized RX5, Cond.code yX5_takeTopmostFor cX5_takeTopmostFor 4 (some .int), Cond.fieldLink RX5 9 "Groutline$Stack" "count" "I", Cond.fieldLink RX5 18 "Groutline$Stack" "crateFloors" "[I", Cond.fieldLink RX5 22 "Groutline$Stack" "crateTiles" "[I", Cond.methodLink RX5 25 yX5_has, Cond.instanceMethod yX5_has, Cond.selects RX5 yX5_has yX5_has, Cond.code yX5_has cX5_has 2 (some .boolean), Cond.methodLink RX5 29 yX5_remove, Cond.instanceMethod yX5_remove]
def wsX7_fetch_r2 : List Cond := [Cond.selects RX5 yX5_remove yX5_remove, Cond.code yX5_remove cX5_remove 3 none, Cond.fieldLink RX5 15 "Groutline$Stack" "moved" "I"]
def wsX7_fetch : List Cond := .code yX7_fetch cX7_fetch 2 (some .int) :: ((wsX7_fetch_r1 ++ wsX7_fetch_r2) ++ wsX70 ++ wsX50 ++ (vx_atS RX7 69 "java/lang/IllegalArgumentException" ["java/lang/RuntimeException", "java/lang/Exception"]).filter goodWord)
def wsX7_moves : List Cond := .code yX7_moves cX7_moves 1 (some .int) :: ([.fieldLink RX7 40 "Groutline" "stack" "LGroutline$Stack;", .fieldLink RX7 178 "Groutline$Stack" "moved" "I"] ++ wsX70 ++ wsX50)
def wsX7_grout : List Cond := .code yX7_grout cX7_grout 3 (some .int) :: ([.classLink RX7 65 "java/lang/IllegalArgumentException", .initialized "java/lang/IllegalArgumentException", .fieldLink RX7 47 "Groutline" "work" "LGroutline$Work;", .fieldLink RX7 183 "Groutline$Work" "groutHours" "I", .methodLink RX7 61 yX7_isWithin, .static yX7_isWithin, .initialized RX7, .code yX7_isWithin cX7_isWithin 3 (some .boolean)] ++ wsX70 ++ wsX60 ++ (vx_atS RX7 69 "java/lang/IllegalArgumentException" ["java/lang/RuntimeException", "java/lang/Exception"]).filter goodWord)
def wsX7_piecesOfStrip_r1 : List Cond := [Cond.fieldLink RX7 26 "Groutline" "pieces" "LGroutline$Pieces;", Cond.fieldLink RX7 12 "Groutline" "layout" "LGroutline$Layout;", Cond.fieldLink RX7 126 "Groutline$Pieces" "rows" "[I", Cond.methodLink RX7 111 yX4_has, Cond.instanceMethod yX4_has, Cond.selects RX4 yX4_has yX4_has, Cond.initialized RX4, Cond.code yX4_has cX4_has 2 (some .boolean), Cond.fieldLink RX4 9 "Groutline$Pieces" "count" "I", Cond.methodLink RX7 132 yX3_stripOfRow, Cond.instanceMethod yX3_stripOfRow, Cond.selects RX3 yX3_stripOfRow yX3_stripOfRow, Cond.initialized RX3, Cond.code yX3_stripOfRow cX3_stripOfRow 2 (some .int), Cond.fieldLink RX3 18 "Groutline$Layout" "border" "I", Cond.methodLink RX3 28 yX3_lowerBorder, Cond.instanceMethod yX3_lowerBorder, Cond.selects RX3 yX3_lowerBorder yX3_lowerBorder, Cond.code yX3_lowerBorder cX3_lowerBorder 1 (some .int), Cond.methodLink RX3 39 yX3_countCourses, Cond.instanceMethod yX3_countCourses, Cond.selects RX3 yX3_countCourses yX3_countCourses, Cond.code yX3_countCourses cX3_countCourses 1 (some .int), Cond.methodLink RX3 35 yX3_courseOfRow]
def wsX7_piecesOfStrip_r2 : List Cond := [Cond.instanceMethod yX3_courseOfRow, Cond.selects RX3 yX3_courseOfRow yX3_courseOfRow, Cond.code yX3_courseOfRow cX3_courseOfRow 2 (some .int), Cond.fieldLink RX3 15 "Groutline$Layout" "high" "I", Cond.static yX7_timesIn, Cond.initialized RX7, Cond.code yX7_timesIn cX7_timesIn 2 (some .int)]
def wsX7_piecesOfStrip : List Cond := .code yX7_piecesOfStrip cX7_piecesOfStrip 4 (some .int) :: ((wsX7_piecesOfStrip_r1 ++ wsX7_piecesOfStrip_r2) ++ wsX70 ++ wsX40 ++ wsX30)
def wsX7_lay_r1 : List Cond := [Cond.classLink RX7 97 "java/lang/IndexOutOfBoundsException", Cond.initialized "java/lang/IndexOutOfBoundsException", Cond.classLink RX7 80 "java/lang/IllegalStateException", Cond.initialized "java/lang/IllegalStateException", Cond.fieldLink RX7 12 "Groutline" "layout" "LGroutline$Layout;", Cond.fieldLink RX7 47 "Groutline" "work" "LGroutline$Work;", Cond.fieldLink RX7 202 "Groutline$Work" "hour" "I", Cond.methodLink RX7 186 yX3_hasStrip, Cond.instanceMethod yX3_hasStrip, Cond.selects RX3 yX3_hasStrip yX3_hasStrip, Cond.initialized RX3, Cond.code yX3_hasStrip cX3_hasStrip 2 (some .boolean), Cond.methodLink RX3 42 yX3_countStrips, Cond.instanceMethod yX3_countStrips, Cond.selects RX3 yX3_countStrips yX3_countStrips, Cond.code yX3_countStrips cX3_countStrips 1 (some .int), Cond.fieldLink RX3 18 "Groutline$Layout" "border" "I", Cond.methodLink RX3 39 yX3_countCourses, Cond.instanceMethod yX3_countCourses, Cond.selects RX3 yX3_countCourses yX3_countCourses, Cond.code yX3_countCourses cX3_countCourses 1 (some .int), Cond.methodLink RX3 28 yX3_lowerBorder, Cond.instanceMethod yX3_lowerBorder, Cond.selects RX3 yX3_lowerBorder yX3_lowerBorder]
def wsX7_lay_r2 : List Cond := [Cond.code yX3_lowerBorder cX3_lowerBorder 1 (some .int), Cond.methodLink RX3 35 yX3_courseOfRow, Cond.instanceMethod yX3_courseOfRow, Cond.selects RX3 yX3_courseOfRow yX3_courseOfRow, Cond.code yX3_courseOfRow cX3_courseOfRow 2 (some .int), Cond.fieldLink RX3 15 "Groutline$Layout" "high" "I", Cond.static yX7_timesIn, Cond.initialized RX7, Cond.code yX7_timesIn cX7_timesIn 2 (some .int), Cond.methodLink RX7 191 yX6_canStart, Cond.instanceMethod yX6_canStart, Cond.selects RX6 yX6_canStart yX6_canStart, Cond.initialized RX6, Cond.code yX6_canStart cX6_canStart 3 (some .boolean), Cond.fieldLink RX6 22 "Groutline$Work" "laid" "[Z", Cond.fieldLink RX6 9 "Groutline$Work" "hour" "I", Cond.fieldLink RX6 26 "Groutline$Work" "dryHours" "[I", Cond.methodLink RX6 30 yX6_isLaid, Cond.instanceMethod yX6_isLaid, Cond.selects RX6 yX6_isLaid yX6_isLaid, Cond.code yX6_isLaid cX6_isLaid 2 (some .boolean), Cond.methodLink RX7 196 yX7_piecesOfStrip, Cond.instanceMethod yX7_piecesOfStrip, Cond.selects RX7 yX7_piecesOfStrip yX7_piecesOfStrip]
def wsX7_lay_r3 : List Cond := [Cond.code yX7_piecesOfStrip cX7_piecesOfStrip 4 (some .int), Cond.fieldLink RX7 26 "Groutline" "pieces" "LGroutline$Pieces;", Cond.fieldLink RX7 126 "Groutline$Pieces" "rows" "[I", Cond.methodLink RX7 111 yX4_has, Cond.instanceMethod yX4_has, Cond.selects RX4 yX4_has yX4_has, Cond.initialized RX4, Cond.code yX4_has cX4_has 2 (some .boolean), Cond.fieldLink RX4 9 "Groutline$Pieces" "count" "I", Cond.methodLink RX7 132 yX3_stripOfRow, Cond.instanceMethod yX3_stripOfRow, Cond.selects RX3 yX3_stripOfRow yX3_stripOfRow, Cond.code yX3_stripOfRow cX3_stripOfRow 2 (some .int), Cond.methodLink RX7 199 yX6_finish, Cond.instanceMethod yX6_finish, Cond.selects RX6 yX6_finish yX6_finish, Cond.code yX6_finish cX6_finish 3 none, Cond.fieldLink RX6 15 "Groutline$Work" "groutHours" "I", Cond.fieldLink RX6 18 "Groutline$Work" "hasBegun" "Z"]
def wsX7_lay : List Cond := .code yX7_lay cX7_lay 2 (some .int) :: ((wsX7_lay_r1 ++ (wsX7_lay_r2 ++ wsX7_lay_r3)) ++ wsX70 ++ wsX60 ++ wsX30 ++ wsX40 ++ (vx_atS RX7 101 "java/lang/IndexOutOfBoundsException" ["java/lang/RuntimeException", "java/lang/Exception"]).filter goodWord ++ (vx_atS RX7 84 "java/lang/IllegalStateException" ["java/lang/RuntimeException", "java/lang/Exception"]).filter goodWord)
def wsX7_dry_r1 : List Cond := [Cond.classLink RX7 97 "java/lang/IndexOutOfBoundsException", Cond.initialized "java/lang/IndexOutOfBoundsException", Cond.fieldLink RX7 12 "Groutline" "layout" "LGroutline$Layout;", Cond.fieldLink RX7 47 "Groutline" "work" "LGroutline$Work;", Cond.methodLink RX7 186 yX3_hasStrip, Cond.instanceMethod yX3_hasStrip, Cond.selects RX3 yX3_hasStrip yX3_hasStrip, Cond.initialized RX3, Cond.code yX3_hasStrip cX3_hasStrip 2 (some .boolean), Cond.methodLink RX3 42 yX3_countStrips, Cond.instanceMethod yX3_countStrips, Cond.selects RX3 yX3_countStrips yX3_countStrips, Cond.code yX3_countStrips cX3_countStrips 1 (some .int), Cond.fieldLink RX3 18 "Groutline$Layout" "border" "I", Cond.methodLink RX3 39 yX3_countCourses, Cond.instanceMethod yX3_countCourses, Cond.selects RX3 yX3_countCourses yX3_countCourses, Cond.code yX3_countCourses cX3_countCourses 1 (some .int), Cond.methodLink RX3 28 yX3_lowerBorder, Cond.instanceMethod yX3_lowerBorder, Cond.selects RX3 yX3_lowerBorder yX3_lowerBorder, Cond.code yX3_lowerBorder cX3_lowerBorder 1 (some .int), Cond.methodLink RX3 35 yX3_courseOfRow, Cond.instanceMethod yX3_courseOfRow]
def wsX7_dry_r2 : List Cond := [Cond.selects RX3 yX3_courseOfRow yX3_courseOfRow, Cond.code yX3_courseOfRow cX3_courseOfRow 2 (some .int), Cond.fieldLink RX3 15 "Groutline$Layout" "high" "I", Cond.static yX7_timesIn, Cond.initialized RX7, Cond.code yX7_timesIn cX7_timesIn 2 (some .int), Cond.methodLink RX7 205 yX6_dryHourOf, Cond.instanceMethod yX6_dryHourOf, Cond.selects RX6 yX6_dryHourOf yX6_dryHourOf, Cond.initialized RX6, Cond.code yX6_dryHourOf cX6_dryHourOf 2 (some .int), Cond.fieldLink RX6 26 "Groutline$Work" "dryHours" "[I", Cond.methodLink RX6 30 yX6_isLaid, Cond.instanceMethod yX6_isLaid, Cond.selects RX6 yX6_isLaid yX6_isLaid, Cond.code yX6_isLaid cX6_isLaid 2 (some .boolean), Cond.fieldLink RX6 22 "Groutline$Work" "laid" "[Z"]
def wsX7_dry : List Cond := .code yX7_dry cX7_dry 2 (some .int) :: ((wsX7_dry_r1 ++ wsX7_dry_r2) ++ wsX70 ++ wsX30 ++ wsX60 ++ (vx_atS RX7 101 "java/lang/IndexOutOfBoundsException" ["java/lang/RuntimeException", "java/lang/Exception"]).filter goodWord)
def wsX7_strips : List Cond := .code yX7_strips cX7_strips 1 (some .int) :: ([.fieldLink RX7 12 "Groutline" "layout" "LGroutline$Layout;", .methodLink RX7 208 yX3_countStrips, .instanceMethod yX3_countStrips, .selects RX3 yX3_countStrips yX3_countStrips, .initialized RX3, .code yX3_countStrips cX3_countStrips 1 (some .int), .fieldLink RX3 18 "Groutline$Layout" "border" "I", .methodLink RX3 39 yX3_countCourses, .instanceMethod yX3_countCourses, .selects RX3 yX3_countCourses yX3_countCourses, .code yX3_countCourses cX3_countCourses 1 (some .int), .methodLink RX3 28 yX3_lowerBorder, .instanceMethod yX3_lowerBorder, .selects RX3 yX3_lowerBorder yX3_lowerBorder, .code yX3_lowerBorder cX3_lowerBorder 1 (some .int), .methodLink RX3 35 yX3_courseOfRow, .instanceMethod yX3_courseOfRow, .selects RX3 yX3_courseOfRow yX3_courseOfRow, .code yX3_courseOfRow cX3_courseOfRow 2 (some .int), .fieldLink RX3 15 "Groutline$Layout" "high" "I", .static yX7_timesIn, .initialized RX7, .code yX7_timesIn cX7_timesIn 2 (some .int)] ++ wsX70 ++ wsX30)
def wsX7_pass : List Cond := .code yX7_pass cX7_pass 2 (some .int) :: ([.classLink RX7 65 "java/lang/IllegalArgumentException", .initialized "java/lang/IllegalArgumentException", .fieldLink RX7 47 "Groutline" "work" "LGroutline$Work;", .fieldLink RX7 202 "Groutline$Work" "hour" "I", .methodLink RX7 61 yX7_isWithin, .static yX7_isWithin, .initialized RX7, .code yX7_isWithin cX7_isWithin 3 (some .boolean)] ++ wsX70 ++ wsX60 ++ (vx_atS RX7 69 "java/lang/IllegalArgumentException" ["java/lang/RuntimeException", "java/lang/Exception"]).filter goodWord)
def wsX8_unlay : List Cond := .code yX8_unlay cX8_unlay 2 none :: ([.fieldLink RX8 65 "GroutlineModel" "dry" "[I"] ++ wsX80)
def wsX8_isBarred : List Cond := .code yX8_isBarred cX8_isBarred 2 (some .boolean) :: ([.fieldLink RX8 16 "GroutlineModel" "pillar" "[I", .fieldLink RX8 20 "GroutlineModel" "shut" "[I"] ++ wsX80)
def wsX8_isEdge : List Cond := .code yX8_isEdge cX8_isEdge 4 (some .boolean) :: ([.fieldLink RX8 80 "GroutlineModel" "border" "I"] ++ wsX80)
def wsX8_tileOf : List Cond := .code yX8_tileOf cX8_tileOf 4 (some .int) :: ([.fieldLink RX8 80 "GroutlineModel" "border" "I", .fieldLink RX8 13 "GroutlineModel" "high" "I", .fieldLink RX8 83 "GroutlineModel" "pattern" "I", .fieldLink RX8 7 "GroutlineModel" "wide" "I"] ++ wsX80)
def wsX8_isSame : List Cond := .code yX8_isSame cX8_isSame 3 (some .boolean) :: ([.methodLink RX8 86 yX8_isEdge, .instanceMethod yX8_isEdge, .selects RX8 yX8_isEdge yX8_isEdge, .initialized RX8, .code yX8_isEdge cX8_isEdge 4 (some .boolean), .fieldLink RX8 80 "GroutlineModel" "border" "I", .methodLink RX8 90 yX8_tileOf, .instanceMethod yX8_tileOf, .selects RX8 yX8_tileOf yX8_tileOf, .code yX8_tileOf cX8_tileOf 4 (some .int), .fieldLink RX8 13 "GroutlineModel" "high" "I", .fieldLink RX8 83 "GroutlineModel" "pattern" "I", .fieldLink RX8 7 "GroutlineModel" "wide" "I"] ++ wsX80)
def wsX8_bestRest : List Cond := .code yX8_bestRest cX8_bestRest 6 (some .int) :: ([.fieldLink RX8 107 "GroutlineModel" "rests" "I", .fieldLink RX8 50 "GroutlineModel" "rw" "[I", .fieldLink RX8 53 "GroutlineModel" "rh" "[I"] ++ wsX80)
def wsX8_takeOut : List Cond := .code yX8_takeOut cX8_takeOut 3 none :: ([.fieldLink RX8 107 "GroutlineModel" "rests" "I", .fieldLink RX8 50 "GroutlineModel" "rw" "[I", .fieldLink RX8 53 "GroutlineModel" "rh" "[I", .fieldLink RX8 56 "GroutlineModel" "rp" "[I"] ++ wsX80)
def wsX8_cuts : List Cond := .code yX8_cuts cX8_cuts 9 none :: ([.fieldLink RX8 107 "GroutlineModel" "rests" "I", .fieldLink RX8 110 "GroutlineModel" "tiles" "I", .fieldLink RX8 94 "GroutlineModel" "pieces" "I", .fieldLink RX8 32 "GroutlineModel" "pr" "[I", .fieldLink RX8 23 "GroutlineModel" "pk" "[I", .fieldLink RX8 38 "GroutlineModel" "right" "[I", .fieldLink RX8 35 "GroutlineModel" "left" "[I", .fieldLink RX8 44 "GroutlineModel" "bottom" "[I", .fieldLink RX8 41 "GroutlineModel" "top" "[I", .fieldLink RX8 7 "GroutlineModel" "wide" "I", .fieldLink RX8 13 "GroutlineModel" "high" "I", .fieldLink RX8 56 "GroutlineModel" "rp" "[I", .fieldLink RX8 50 "GroutlineModel" "rw" "[I", .fieldLink RX8 53 "GroutlineModel" "rh" "[I", .methodLink RX8 113 yX8_bestRest, .instanceMethod yX8_bestRest, .selects RX8 yX8_bestRest yX8_bestRest, .initialized RX8, .code yX8_bestRest cX8_bestRest 6 (some .int), .methodLink RX8 117 yX8_takeOut, .instanceMethod yX8_takeOut, .selects RX8 yX8_takeOut yX8_takeOut, .code yX8_takeOut cX8_takeOut 3 none] ++ wsX80)
def wsX8_plans_r1 : List Cond := [Cond.fieldLink RX8 94 "GroutlineModel" "pieces" "I", Cond.fieldLink RX8 47 "GroutlineModel" "at" "[I", Cond.fieldLink RX8 26 "GroutlineModel" "pf" "[I", Cond.fieldLink RX8 29 "GroutlineModel" "pn" "[I", Cond.fieldLink RX8 35 "GroutlineModel" "left" "[I", Cond.fieldLink RX8 38 "GroutlineModel" "right" "[I", Cond.fieldLink RX8 41 "GroutlineModel" "top" "[I", Cond.fieldLink RX8 44 "GroutlineModel" "bottom" "[I", Cond.fieldLink RX8 23 "GroutlineModel" "pk" "[I", Cond.fieldLink RX8 7 "GroutlineModel" "wide" "I", Cond.fieldLink RX8 13 "GroutlineModel" "high" "I", Cond.methodLink RX8 97 yX8_isBarred, Cond.instanceMethod yX8_isBarred, Cond.selects RX8 yX8_isBarred yX8_isBarred, Cond.initialized RX8, Cond.code yX8_isBarred cX8_isBarred 2 (some .boolean), Cond.fieldLink RX8 16 "GroutlineModel" "pillar" "[I", Cond.fieldLink RX8 20 "GroutlineModel" "shut" "[I", Cond.methodLink RX8 100 yX8_isSame, Cond.instanceMethod yX8_isSame, Cond.selects RX8 yX8_isSame yX8_isSame, Cond.code yX8_isSame cX8_isSame 3 (some .boolean), Cond.methodLink RX8 86 yX8_isEdge, Cond.instanceMethod yX8_isEdge]
def wsX8_plans_r2 : List Cond := [Cond.selects RX8 yX8_isEdge yX8_isEdge, Cond.code yX8_isEdge cX8_isEdge 4 (some .boolean), Cond.fieldLink RX8 80 "GroutlineModel" "border" "I", Cond.methodLink RX8 90 yX8_tileOf, Cond.instanceMethod yX8_tileOf, Cond.selects RX8 yX8_tileOf yX8_tileOf, Cond.code yX8_tileOf cX8_tileOf 4 (some .int), Cond.fieldLink RX8 83 "GroutlineModel" "pattern" "I", Cond.methodLink RX8 104 yX8_cuts, Cond.instanceMethod yX8_cuts, Cond.selects RX8 yX8_cuts yX8_cuts, Cond.code yX8_cuts cX8_cuts 9 none, Cond.fieldLink RX8 107 "GroutlineModel" "rests" "I", Cond.fieldLink RX8 110 "GroutlineModel" "tiles" "I", Cond.fieldLink RX8 32 "GroutlineModel" "pr" "[I", Cond.fieldLink RX8 56 "GroutlineModel" "rp" "[I", Cond.fieldLink RX8 50 "GroutlineModel" "rw" "[I", Cond.fieldLink RX8 53 "GroutlineModel" "rh" "[I", Cond.methodLink RX8 113 yX8_bestRest, Cond.instanceMethod yX8_bestRest, Cond.selects RX8 yX8_bestRest yX8_bestRest, Cond.code yX8_bestRest cX8_bestRest 6 (some .int), Cond.methodLink RX8 117 yX8_takeOut, Cond.instanceMethod yX8_takeOut]
def wsX8_plans_r3 : List Cond := [Cond.selects RX8 yX8_takeOut yX8_takeOut, Cond.code yX8_takeOut cX8_takeOut 3 none]
def wsX8_plans : List Cond := .code yX8_plans cX8_plans 4 none :: ((wsX8_plans_r1 ++ (wsX8_plans_r2 ++ wsX8_plans_r3)) ++ wsX80)
def wsX8_init_r1 : List Cond := [Cond.methodLink RX8 1 objectInit, Cond.instanceMethod objectInit, Cond.code objectInit ⟨#[0xb1]⟩ 1 none, Cond.fieldLink RX8 7 "GroutlineModel" "wide" "I", Cond.fieldLink RX8 13 "GroutlineModel" "high" "I", Cond.arrayClass .int, Cond.fieldLink RX8 16 "GroutlineModel" "pillar" "[I", Cond.fieldLink RX8 20 "GroutlineModel" "shut" "[I", Cond.fieldLink RX8 23 "GroutlineModel" "pk" "[I", Cond.fieldLink RX8 26 "GroutlineModel" "pf" "[I", Cond.fieldLink RX8 29 "GroutlineModel" "pn" "[I", Cond.fieldLink RX8 32 "GroutlineModel" "pr" "[I", Cond.fieldLink RX8 35 "GroutlineModel" "left" "[I", Cond.fieldLink RX8 38 "GroutlineModel" "right" "[I", Cond.fieldLink RX8 41 "GroutlineModel" "top" "[I", Cond.fieldLink RX8 44 "GroutlineModel" "bottom" "[I", Cond.fieldLink RX8 47 "GroutlineModel" "at" "[I", Cond.fieldLink RX8 50 "GroutlineModel" "rw" "[I", Cond.fieldLink RX8 53 "GroutlineModel" "rh" "[I", Cond.fieldLink RX8 56 "GroutlineModel" "rp" "[I", Cond.fieldLink RX8 59 "GroutlineModel" "cf" "[I", Cond.fieldLink RX8 62 "GroutlineModel" "cn" "[I", Cond.fieldLink RX8 65 "GroutlineModel" "dry" "[I", Cond.fieldLink RX8 68 "GroutlineModel" "grout" "I"]
def wsX8_init_r2 : List Cond := [Cond.methodLink RX8 71 yX8_unlay, Cond.instanceMethod yX8_unlay, Cond.selects RX8 yX8_unlay yX8_unlay, Cond.initialized RX8, Cond.code yX8_unlay cX8_unlay 2 none, Cond.methodLink RX8 74 yX8_plans, Cond.instanceMethod yX8_plans, Cond.selects RX8 yX8_plans yX8_plans, Cond.code yX8_plans cX8_plans 4 none, Cond.fieldLink RX8 94 "GroutlineModel" "pieces" "I", Cond.methodLink RX8 97 yX8_isBarred, Cond.instanceMethod yX8_isBarred, Cond.selects RX8 yX8_isBarred yX8_isBarred, Cond.code yX8_isBarred cX8_isBarred 2 (some .boolean), Cond.methodLink RX8 100 yX8_isSame, Cond.instanceMethod yX8_isSame, Cond.selects RX8 yX8_isSame yX8_isSame, Cond.code yX8_isSame cX8_isSame 3 (some .boolean), Cond.methodLink RX8 86 yX8_isEdge, Cond.instanceMethod yX8_isEdge, Cond.selects RX8 yX8_isEdge yX8_isEdge, Cond.code yX8_isEdge cX8_isEdge 4 (some .boolean), Cond.fieldLink RX8 80 "GroutlineModel" "border" "I", Cond.methodLink RX8 90 yX8_tileOf]
def wsX8_init_r3 : List Cond := [Cond.instanceMethod yX8_tileOf, Cond.selects RX8 yX8_tileOf yX8_tileOf, Cond.code yX8_tileOf cX8_tileOf 4 (some .int), Cond.fieldLink RX8 83 "GroutlineModel" "pattern" "I", Cond.methodLink RX8 104 yX8_cuts, Cond.instanceMethod yX8_cuts, Cond.selects RX8 yX8_cuts yX8_cuts, Cond.code yX8_cuts cX8_cuts 9 none, Cond.fieldLink RX8 107 "GroutlineModel" "rests" "I", Cond.fieldLink RX8 110 "GroutlineModel" "tiles" "I", Cond.methodLink RX8 113 yX8_bestRest, Cond.instanceMethod yX8_bestRest, Cond.selects RX8 yX8_bestRest yX8_bestRest, Cond.code yX8_bestRest cX8_bestRest 6 (some .int), Cond.methodLink RX8 117 yX8_takeOut, Cond.instanceMethod yX8_takeOut, Cond.selects RX8 yX8_takeOut yX8_takeOut, Cond.code yX8_takeOut cX8_takeOut 3 none]
def wsX8_init : List Cond := .code yX8_init cX8_init 1 none :: ((wsX8_init_r1 ++ (wsX8_init_r2 ++ wsX8_init_r3)) ++ wsX80)
def wsX8_thrown : List Cond := .code yX8_thrown cX8_thrown 1 (some .int) :: ([.fieldLink RX8 77 "GroutlineModel" "thrown" "I"] ++ wsX80)
def wsX8_holds : List Cond := .code yX8_holds cX8_holds 2 (some .boolean) :: ([.fieldLink RX8 77 "GroutlineModel" "thrown" "I"] ++ wsX80)
def wsX8_in : List Cond := .code yX8_in cX8_in 4 (some .boolean) :: ([])
def wsX8_courses : List Cond := .code yX8_courses cX8_courses 1 (some .int) :: ([.fieldLink RX8 80 "GroutlineModel" "border" "I", .fieldLink RX8 13 "GroutlineModel" "high" "I"] ++ wsX80)
def wsX8_stripOfRow : List Cond := .code yX8_stripOfRow cX8_stripOfRow 2 (some .int) :: ([.fieldLink RX8 80 "GroutlineModel" "border" "I", .fieldLink RX8 13 "GroutlineModel" "high" "I", .methodLink RX8 121 yX8_courses, .instanceMethod yX8_courses, .selects RX8 yX8_courses yX8_courses, .initialized RX8, .code yX8_courses cX8_courses 1 (some .int)] ++ wsX80)
def wsX8_stripCount : List Cond := .code yX8_stripCount cX8_stripCount 1 (some .int) :: ([.fieldLink RX8 80 "GroutlineModel" "border" "I", .methodLink RX8 121 yX8_courses, .instanceMethod yX8_courses, .selects RX8 yX8_courses yX8_courses, .initialized RX8, .code yX8_courses cX8_courses 1 (some .int), .fieldLink RX8 13 "GroutlineModel" "high" "I"] ++ wsX80)
def wsX8_plan_r1 : List Cond := [Cond.fieldLink RX8 129 "GroutlineModel" "anyLaid" "Z", Cond.fieldLink RX8 7 "GroutlineModel" "wide" "I", Cond.fieldLink RX8 13 "GroutlineModel" "high" "I", Cond.fieldLink RX8 80 "GroutlineModel" "border" "I", Cond.fieldLink RX8 83 "GroutlineModel" "pattern" "I", Cond.fieldLink RX8 94 "GroutlineModel" "pieces" "I", Cond.methodLink RX8 125 yX8_in, Cond.instanceMethod yX8_in, Cond.selects RX8 yX8_in yX8_in, Cond.initialized RX8, Cond.code yX8_in cX8_in 4 (some .boolean), Cond.methodLink RX8 133 yX8_holds, Cond.instanceMethod yX8_holds, Cond.selects RX8 yX8_holds yX8_holds, Cond.code yX8_holds cX8_holds 2 (some .boolean), Cond.fieldLink RX8 77 "GroutlineModel" "thrown" "I", Cond.methodLink RX8 74 yX8_plans, Cond.instanceMethod yX8_plans, Cond.selects RX8 yX8_plans yX8_plans, Cond.code yX8_plans cX8_plans 4 none, Cond.fieldLink RX8 47 "GroutlineModel" "at" "[I", Cond.fieldLink RX8 26 "GroutlineModel" "pf" "[I", Cond.fieldLink RX8 29 "GroutlineModel" "pn" "[I", Cond.fieldLink RX8 35 "GroutlineModel" "left" "[I"]
def wsX8_plan_r2 : List Cond := [Cond.fieldLink RX8 38 "GroutlineModel" "right" "[I", Cond.fieldLink RX8 41 "GroutlineModel" "top" "[I", Cond.fieldLink RX8 44 "GroutlineModel" "bottom" "[I", Cond.fieldLink RX8 23 "GroutlineModel" "pk" "[I", Cond.methodLink RX8 97 yX8_isBarred, Cond.instanceMethod yX8_isBarred, Cond.selects RX8 yX8_isBarred yX8_isBarred, Cond.code yX8_isBarred cX8_isBarred 2 (some .boolean), Cond.fieldLink RX8 16 "GroutlineModel" "pillar" "[I", Cond.fieldLink RX8 20 "GroutlineModel" "shut" "[I", Cond.methodLink RX8 100 yX8_isSame, Cond.instanceMethod yX8_isSame, Cond.selects RX8 yX8_isSame yX8_isSame, Cond.code yX8_isSame cX8_isSame 3 (some .boolean), Cond.methodLink RX8 86 yX8_isEdge, Cond.instanceMethod yX8_isEdge, Cond.selects RX8 yX8_isEdge yX8_isEdge, Cond.code yX8_isEdge cX8_isEdge 4 (some .boolean), Cond.methodLink RX8 90 yX8_tileOf, Cond.instanceMethod yX8_tileOf, Cond.selects RX8 yX8_tileOf yX8_tileOf, Cond.code yX8_tileOf cX8_tileOf 4 (some .int), Cond.methodLink RX8 104 yX8_cuts, Cond.instanceMethod yX8_cuts]
def wsX8_plan_r3 : List Cond := [Cond.selects RX8 yX8_cuts yX8_cuts, Cond.code yX8_cuts cX8_cuts 9 none, Cond.fieldLink RX8 107 "GroutlineModel" "rests" "I", Cond.fieldLink RX8 110 "GroutlineModel" "tiles" "I", Cond.fieldLink RX8 32 "GroutlineModel" "pr" "[I", Cond.fieldLink RX8 56 "GroutlineModel" "rp" "[I", Cond.fieldLink RX8 50 "GroutlineModel" "rw" "[I", Cond.fieldLink RX8 53 "GroutlineModel" "rh" "[I", Cond.methodLink RX8 113 yX8_bestRest, Cond.instanceMethod yX8_bestRest, Cond.selects RX8 yX8_bestRest yX8_bestRest, Cond.code yX8_bestRest cX8_bestRest 6 (some .int), Cond.methodLink RX8 117 yX8_takeOut, Cond.instanceMethod yX8_takeOut, Cond.selects RX8 yX8_takeOut yX8_takeOut, Cond.code yX8_takeOut cX8_takeOut 3 none]
def wsX8_plan : List Cond := .code yX8_plan cX8_plan 6 (some .int) :: ((wsX8_plan_r1 ++ (wsX8_plan_r2 ++ wsX8_plan_r3)) ++ wsX80)
def wsX8_pillar_r1 : List Cond := [Cond.fieldLink RX8 129 "GroutlineModel" "anyLaid" "Z", Cond.fieldLink RX8 16 "GroutlineModel" "pillar" "[I", Cond.methodLink RX8 125 yX8_in, Cond.instanceMethod yX8_in, Cond.selects RX8 yX8_in yX8_in, Cond.initialized RX8, Cond.code yX8_in cX8_in 4 (some .boolean), Cond.methodLink RX8 133 yX8_holds, Cond.instanceMethod yX8_holds, Cond.selects RX8 yX8_holds yX8_holds, Cond.code yX8_holds cX8_holds 2 (some .boolean), Cond.fieldLink RX8 77 "GroutlineModel" "thrown" "I", Cond.methodLink RX8 74 yX8_plans, Cond.instanceMethod yX8_plans, Cond.selects RX8 yX8_plans yX8_plans, Cond.code yX8_plans cX8_plans 4 none, Cond.fieldLink RX8 94 "GroutlineModel" "pieces" "I", Cond.fieldLink RX8 47 "GroutlineModel" "at" "[I", Cond.fieldLink RX8 26 "GroutlineModel" "pf" "[I", Cond.fieldLink RX8 29 "GroutlineModel" "pn" "[I", Cond.fieldLink RX8 35 "GroutlineModel" "left" "[I", Cond.fieldLink RX8 38 "GroutlineModel" "right" "[I", Cond.fieldLink RX8 41 "GroutlineModel" "top" "[I", Cond.fieldLink RX8 44 "GroutlineModel" "bottom" "[I"]
def wsX8_pillar_r2 : List Cond := [Cond.fieldLink RX8 23 "GroutlineModel" "pk" "[I", Cond.fieldLink RX8 7 "GroutlineModel" "wide" "I", Cond.fieldLink RX8 13 "GroutlineModel" "high" "I", Cond.methodLink RX8 97 yX8_isBarred, Cond.instanceMethod yX8_isBarred, Cond.selects RX8 yX8_isBarred yX8_isBarred, Cond.code yX8_isBarred cX8_isBarred 2 (some .boolean), Cond.fieldLink RX8 20 "GroutlineModel" "shut" "[I", Cond.methodLink RX8 100 yX8_isSame, Cond.instanceMethod yX8_isSame, Cond.selects RX8 yX8_isSame yX8_isSame, Cond.code yX8_isSame cX8_isSame 3 (some .boolean), Cond.methodLink RX8 86 yX8_isEdge, Cond.instanceMethod yX8_isEdge, Cond.selects RX8 yX8_isEdge yX8_isEdge, Cond.code yX8_isEdge cX8_isEdge 4 (some .boolean), Cond.fieldLink RX8 80 "GroutlineModel" "border" "I", Cond.methodLink RX8 90 yX8_tileOf, Cond.instanceMethod yX8_tileOf, Cond.selects RX8 yX8_tileOf yX8_tileOf, Cond.code yX8_tileOf cX8_tileOf 4 (some .int), Cond.fieldLink RX8 83 "GroutlineModel" "pattern" "I", Cond.methodLink RX8 104 yX8_cuts, Cond.instanceMethod yX8_cuts]
def wsX8_pillar_r3 : List Cond := [Cond.selects RX8 yX8_cuts yX8_cuts, Cond.code yX8_cuts cX8_cuts 9 none, Cond.fieldLink RX8 107 "GroutlineModel" "rests" "I", Cond.fieldLink RX8 110 "GroutlineModel" "tiles" "I", Cond.fieldLink RX8 32 "GroutlineModel" "pr" "[I", Cond.fieldLink RX8 56 "GroutlineModel" "rp" "[I", Cond.fieldLink RX8 50 "GroutlineModel" "rw" "[I", Cond.fieldLink RX8 53 "GroutlineModel" "rh" "[I", Cond.methodLink RX8 113 yX8_bestRest, Cond.instanceMethod yX8_bestRest, Cond.selects RX8 yX8_bestRest yX8_bestRest, Cond.code yX8_bestRest cX8_bestRest 6 (some .int), Cond.methodLink RX8 117 yX8_takeOut, Cond.instanceMethod yX8_takeOut, Cond.selects RX8 yX8_takeOut yX8_takeOut, Cond.code yX8_takeOut cX8_takeOut 3 none]
def wsX8_pillar : List Cond := .code yX8_pillar cX8_pillar 6 (some .boolean) :: ((wsX8_pillar_r1 ++ (wsX8_pillar_r2 ++ wsX8_pillar_r3)) ++ wsX80)
def wsX8_door_r1 : List Cond := [Cond.fieldLink RX8 136 "GroutlineModel" "door" "I", Cond.fieldLink RX8 65 "GroutlineModel" "dry" "[I", Cond.fieldLink RX8 20 "GroutlineModel" "shut" "[I", Cond.fieldLink RX8 94 "GroutlineModel" "pieces" "I", Cond.methodLink RX8 125 yX8_in, Cond.instanceMethod yX8_in, Cond.selects RX8 yX8_in yX8_in, Cond.initialized RX8, Cond.code yX8_in cX8_in 4 (some .boolean), Cond.methodLink RX8 133 yX8_holds, Cond.instanceMethod yX8_holds, Cond.selects RX8 yX8_holds yX8_holds, Cond.code yX8_holds cX8_holds 2 (some .boolean), Cond.fieldLink RX8 77 "GroutlineModel" "thrown" "I", Cond.methodLink RX8 74 yX8_plans, Cond.instanceMethod yX8_plans, Cond.selects RX8 yX8_plans yX8_plans, Cond.code yX8_plans cX8_plans 4 none, Cond.fieldLink RX8 47 "GroutlineModel" "at" "[I", Cond.fieldLink RX8 26 "GroutlineModel" "pf" "[I", Cond.fieldLink RX8 29 "GroutlineModel" "pn" "[I", Cond.fieldLink RX8 35 "GroutlineModel" "left" "[I", Cond.fieldLink RX8 38 "GroutlineModel" "right" "[I", Cond.fieldLink RX8 41 "GroutlineModel" "top" "[I"]
def wsX8_door_r2 : List Cond := [Cond.fieldLink RX8 44 "GroutlineModel" "bottom" "[I", Cond.fieldLink RX8 23 "GroutlineModel" "pk" "[I", Cond.fieldLink RX8 7 "GroutlineModel" "wide" "I", Cond.fieldLink RX8 13 "GroutlineModel" "high" "I", Cond.methodLink RX8 97 yX8_isBarred, Cond.instanceMethod yX8_isBarred, Cond.selects RX8 yX8_isBarred yX8_isBarred, Cond.code yX8_isBarred cX8_isBarred 2 (some .boolean), Cond.fieldLink RX8 16 "GroutlineModel" "pillar" "[I", Cond.methodLink RX8 100 yX8_isSame, Cond.instanceMethod yX8_isSame, Cond.selects RX8 yX8_isSame yX8_isSame, Cond.code yX8_isSame cX8_isSame 3 (some .boolean), Cond.methodLink RX8 86 yX8_isEdge, Cond.instanceMethod yX8_isEdge, Cond.selects RX8 yX8_isEdge yX8_isEdge, Cond.code yX8_isEdge cX8_isEdge 4 (some .boolean), Cond.fieldLink RX8 80 "GroutlineModel" "border" "I", Cond.methodLink RX8 90 yX8_tileOf, Cond.instanceMethod yX8_tileOf, Cond.selects RX8 yX8_tileOf yX8_tileOf, Cond.code yX8_tileOf cX8_tileOf 4 (some .int), Cond.fieldLink RX8 83 "GroutlineModel" "pattern" "I", Cond.methodLink RX8 104 yX8_cuts]
def wsX8_door_r3 : List Cond := [Cond.instanceMethod yX8_cuts, Cond.selects RX8 yX8_cuts yX8_cuts, Cond.code yX8_cuts cX8_cuts 9 none, Cond.fieldLink RX8 107 "GroutlineModel" "rests" "I", Cond.fieldLink RX8 110 "GroutlineModel" "tiles" "I", Cond.fieldLink RX8 32 "GroutlineModel" "pr" "[I", Cond.fieldLink RX8 56 "GroutlineModel" "rp" "[I", Cond.fieldLink RX8 50 "GroutlineModel" "rw" "[I", Cond.fieldLink RX8 53 "GroutlineModel" "rh" "[I", Cond.methodLink RX8 113 yX8_bestRest, Cond.instanceMethod yX8_bestRest, Cond.selects RX8 yX8_bestRest yX8_bestRest, Cond.code yX8_bestRest cX8_bestRest 6 (some .int), Cond.methodLink RX8 117 yX8_takeOut, Cond.instanceMethod yX8_takeOut, Cond.selects RX8 yX8_takeOut yX8_takeOut, Cond.code yX8_takeOut cX8_takeOut 3 none]
def wsX8_door : List Cond := .code yX8_door cX8_door 3 (some .int) :: ((wsX8_door_r1 ++ (wsX8_door_r2 ++ wsX8_door_r3)) ++ wsX80)
def wsX8_ofPiece_r1 : List Cond := [Cond.fieldLink RX8 94 "GroutlineModel" "pieces" "I", Cond.fieldLink RX8 23 "GroutlineModel" "pk" "[I", Cond.fieldLink RX8 26 "GroutlineModel" "pf" "[I", Cond.fieldLink RX8 29 "GroutlineModel" "pn" "[I", Cond.fieldLink RX8 32 "GroutlineModel" "pr" "[I", Cond.methodLink RX8 125 yX8_in, Cond.instanceMethod yX8_in, Cond.selects RX8 yX8_in yX8_in, Cond.initialized RX8, Cond.code yX8_in cX8_in 4 (some .boolean), Cond.methodLink RX8 133 yX8_holds, Cond.instanceMethod yX8_holds, Cond.selects RX8 yX8_holds yX8_holds, Cond.code yX8_holds cX8_holds 2 (some .boolean), Cond.fieldLink RX8 77 "GroutlineModel" "thrown" "I", Cond.methodLink RX8 139 yX8_stripOfRow, Cond.instanceMethod yX8_stripOfRow, Cond.selects RX8 yX8_stripOfRow yX8_stripOfRow, Cond.code yX8_stripOfRow cX8_stripOfRow 2 (some .int), Cond.fieldLink RX8 80 "GroutlineModel" "border" "I", Cond.fieldLink RX8 13 "GroutlineModel" "high" "I", Cond.methodLink RX8 121 yX8_courses, Cond.instanceMethod yX8_courses, Cond.selects RX8 yX8_courses yX8_courses]
def wsX8_ofPiece_r2 : List Cond := [Cond.code yX8_courses cX8_courses 1 (some .int)]
def wsX8_ofPiece : List Cond := .code yX8_ofPiece cX8_ofPiece 3 (some .int) :: ((wsX8_ofPiece_r1 ++ wsX8_ofPiece_r2) ++ wsX80)
def wsX8_pieceAt : List Cond := .code yX8_pieceAt cX8_pieceAt 3 (some .int) :: ([.fieldLink RX8 47 "GroutlineModel" "at" "[I", .methodLink RX8 125 yX8_in, .instanceMethod yX8_in, .selects RX8 yX8_in yX8_in, .initialized RX8, .code yX8_in cX8_in 4 (some .boolean), .methodLink RX8 133 yX8_holds, .instanceMethod yX8_holds, .selects RX8 yX8_holds yX8_holds, .code yX8_holds cX8_holds 2 (some .boolean), .fieldLink RX8 77 "GroutlineModel" "thrown" "I"] ++ wsX80)
def wsX8_piecesAnew : List Cond := .code yX8_piecesAnew cX8_piecesAnew 1 (some .int) :: ([.fieldLink RX8 94 "GroutlineModel" "pieces" "I", .methodLink RX8 133 yX8_holds, .instanceMethod yX8_holds, .selects RX8 yX8_holds yX8_holds, .initialized RX8, .code yX8_holds cX8_holds 2 (some .boolean), .fieldLink RX8 77 "GroutlineModel" "thrown" "I"] ++ wsX80)
def wsX8_tiles : List Cond := .code yX8_tiles cX8_tiles 1 (some .int) :: ([.fieldLink RX8 110 "GroutlineModel" "tiles" "I", .methodLink RX8 133 yX8_holds, .instanceMethod yX8_holds, .selects RX8 yX8_holds yX8_holds, .initialized RX8, .code yX8_holds cX8_holds 2 (some .boolean), .fieldLink RX8 77 "GroutlineModel" "thrown" "I"] ++ wsX80)
def wsX8_rest : List Cond := .code yX8_rest cX8_rest 2 (some .int) :: ([.fieldLink RX8 107 "GroutlineModel" "rests" "I", .fieldLink RX8 50 "GroutlineModel" "rw" "[I", .fieldLink RX8 53 "GroutlineModel" "rh" "[I", .methodLink RX8 133 yX8_holds, .instanceMethod yX8_holds, .selects RX8 yX8_holds yX8_holds, .initialized RX8, .code yX8_holds cX8_holds 2 (some .boolean), .fieldLink RX8 77 "GroutlineModel" "thrown" "I"] ++ wsX80)
def wsX8_crate : List Cond := .code yX8_crate cX8_crate 3 (some .int) :: ([.fieldLink RX8 142 "GroutlineModel" "crates" "I", .fieldLink RX8 59 "GroutlineModel" "cf" "[I", .fieldLink RX8 62 "GroutlineModel" "cn" "[I", .methodLink RX8 125 yX8_in, .instanceMethod yX8_in, .selects RX8 yX8_in yX8_in, .initialized RX8, .code yX8_in cX8_in 4 (some .boolean), .methodLink RX8 133 yX8_holds, .instanceMethod yX8_holds, .selects RX8 yX8_holds yX8_holds, .code yX8_holds cX8_holds 2 (some .boolean), .fieldLink RX8 77 "GroutlineModel" "thrown" "I"] ++ wsX80)
def wsX8_fetch : List Cond := .code yX8_fetch cX8_fetch 5 (some .int) :: ([.fieldLink RX8 142 "GroutlineModel" "crates" "I", .fieldLink RX8 59 "GroutlineModel" "cf" "[I", .fieldLink RX8 62 "GroutlineModel" "cn" "[I", .fieldLink RX8 145 "GroutlineModel" "moves" "I", .methodLink RX8 125 yX8_in, .instanceMethod yX8_in, .selects RX8 yX8_in yX8_in, .initialized RX8, .code yX8_in cX8_in 4 (some .boolean), .methodLink RX8 133 yX8_holds, .instanceMethod yX8_holds, .selects RX8 yX8_holds yX8_holds, .code yX8_holds cX8_holds 2 (some .boolean), .fieldLink RX8 77 "GroutlineModel" "thrown" "I"] ++ wsX80)
def wsX8_moves : List Cond := .code yX8_moves cX8_moves 1 (some .int) :: ([.fieldLink RX8 145 "GroutlineModel" "moves" "I", .methodLink RX8 133 yX8_holds, .instanceMethod yX8_holds, .selects RX8 yX8_holds yX8_holds, .initialized RX8, .code yX8_holds cX8_holds 2 (some .boolean), .fieldLink RX8 77 "GroutlineModel" "thrown" "I"] ++ wsX80)
def wsX8_grout : List Cond := .code yX8_grout cX8_grout 3 (some .int) :: ([.fieldLink RX8 68 "GroutlineModel" "grout" "I", .methodLink RX8 125 yX8_in, .instanceMethod yX8_in, .selects RX8 yX8_in yX8_in, .initialized RX8, .code yX8_in cX8_in 4 (some .boolean), .methodLink RX8 133 yX8_holds, .instanceMethod yX8_holds, .selects RX8 yX8_holds yX8_holds, .code yX8_holds cX8_holds 2 (some .boolean), .fieldLink RX8 77 "GroutlineModel" "thrown" "I"] ++ wsX80)
def wsX8_isWet : List Cond := .code yX8_isWet cX8_isWet 4 (some .boolean) :: ([.fieldLink RX8 65 "GroutlineModel" "dry" "[I", .fieldLink RX8 148 "GroutlineModel" "hour" "I"] ++ wsX80)
def wsX8_piecesOf : List Cond := .code yX8_piecesOf cX8_piecesOf 4 (some .int) :: ([.fieldLink RX8 94 "GroutlineModel" "pieces" "I", .fieldLink RX8 26 "GroutlineModel" "pf" "[I", .methodLink RX8 139 yX8_stripOfRow, .instanceMethod yX8_stripOfRow, .selects RX8 yX8_stripOfRow yX8_stripOfRow, .initialized RX8, .code yX8_stripOfRow cX8_stripOfRow 2 (some .int), .fieldLink RX8 80 "GroutlineModel" "border" "I", .fieldLink RX8 13 "GroutlineModel" "high" "I", .methodLink RX8 121 yX8_courses, .instanceMethod yX8_courses, .selects RX8 yX8_courses yX8_courses, .code yX8_courses cX8_courses 1 (some .int)] ++ wsX80)
def wsX8_isStrip : List Cond := .code yX8_isStrip cX8_isStrip 2 (some .boolean) :: ([.methodLink RX8 151 yX8_stripCount, .instanceMethod yX8_stripCount, .selects RX8 yX8_stripCount yX8_stripCount, .initialized RX8, .code yX8_stripCount cX8_stripCount 1 (some .int), .fieldLink RX8 80 "GroutlineModel" "border" "I", .methodLink RX8 121 yX8_courses, .instanceMethod yX8_courses, .selects RX8 yX8_courses yX8_courses, .code yX8_courses cX8_courses 1 (some .int), .fieldLink RX8 13 "GroutlineModel" "high" "I", .methodLink RX8 125 yX8_in, .instanceMethod yX8_in, .selects RX8 yX8_in yX8_in, .code yX8_in cX8_in 4 (some .boolean)] ++ wsX80)
def wsX8_lay_r1 : List Cond := [Cond.fieldLink RX8 65 "GroutlineModel" "dry" "[I", Cond.fieldLink RX8 148 "GroutlineModel" "hour" "I", Cond.fieldLink RX8 68 "GroutlineModel" "grout" "I", Cond.fieldLink RX8 129 "GroutlineModel" "anyLaid" "Z", Cond.methodLink RX8 154 yX8_isStrip, Cond.instanceMethod yX8_isStrip, Cond.selects RX8 yX8_isStrip yX8_isStrip, Cond.initialized RX8, Cond.code yX8_isStrip cX8_isStrip 2 (some .boolean), Cond.methodLink RX8 151 yX8_stripCount, Cond.instanceMethod yX8_stripCount, Cond.selects RX8 yX8_stripCount yX8_stripCount, Cond.code yX8_stripCount cX8_stripCount 1 (some .int), Cond.fieldLink RX8 80 "GroutlineModel" "border" "I", Cond.methodLink RX8 121 yX8_courses, Cond.instanceMethod yX8_courses, Cond.selects RX8 yX8_courses yX8_courses, Cond.code yX8_courses cX8_courses 1 (some .int), Cond.fieldLink RX8 13 "GroutlineModel" "high" "I", Cond.methodLink RX8 125 yX8_in, Cond.instanceMethod yX8_in, Cond.selects RX8 yX8_in yX8_in, Cond.code yX8_in cX8_in 4 (some .boolean), Cond.methodLink RX8 157 yX8_isWet]
def wsX8_lay_r2 : List Cond := [Cond.instanceMethod yX8_isWet, Cond.selects RX8 yX8_isWet yX8_isWet, Cond.code yX8_isWet cX8_isWet 4 (some .boolean), Cond.methodLink RX8 133 yX8_holds, Cond.instanceMethod yX8_holds, Cond.selects RX8 yX8_holds yX8_holds, Cond.code yX8_holds cX8_holds 2 (some .boolean), Cond.fieldLink RX8 77 "GroutlineModel" "thrown" "I", Cond.methodLink RX8 160 yX8_piecesOf, Cond.instanceMethod yX8_piecesOf, Cond.selects RX8 yX8_piecesOf yX8_piecesOf, Cond.code yX8_piecesOf cX8_piecesOf 4 (some .int), Cond.fieldLink RX8 94 "GroutlineModel" "pieces" "I", Cond.fieldLink RX8 26 "GroutlineModel" "pf" "[I", Cond.methodLink RX8 139 yX8_stripOfRow, Cond.instanceMethod yX8_stripOfRow, Cond.selects RX8 yX8_stripOfRow yX8_stripOfRow, Cond.code yX8_stripOfRow cX8_stripOfRow 2 (some .int)]
def wsX8_lay : List Cond := .code yX8_lay cX8_lay 3 (some .int) :: ((wsX8_lay_r1 ++ wsX8_lay_r2) ++ wsX80)
def wsX8_dry_r1 : List Cond := [Cond.fieldLink RX8 65 "GroutlineModel" "dry" "[I", Cond.methodLink RX8 154 yX8_isStrip, Cond.instanceMethod yX8_isStrip, Cond.selects RX8 yX8_isStrip yX8_isStrip, Cond.initialized RX8, Cond.code yX8_isStrip cX8_isStrip 2 (some .boolean), Cond.methodLink RX8 151 yX8_stripCount, Cond.instanceMethod yX8_stripCount, Cond.selects RX8 yX8_stripCount yX8_stripCount, Cond.code yX8_stripCount cX8_stripCount 1 (some .int), Cond.fieldLink RX8 80 "GroutlineModel" "border" "I", Cond.methodLink RX8 121 yX8_courses, Cond.instanceMethod yX8_courses, Cond.selects RX8 yX8_courses yX8_courses, Cond.code yX8_courses cX8_courses 1 (some .int), Cond.fieldLink RX8 13 "GroutlineModel" "high" "I", Cond.methodLink RX8 125 yX8_in, Cond.instanceMethod yX8_in, Cond.selects RX8 yX8_in yX8_in, Cond.code yX8_in cX8_in 4 (some .boolean), Cond.methodLink RX8 133 yX8_holds, Cond.instanceMethod yX8_holds, Cond.selects RX8 yX8_holds yX8_holds, Cond.code yX8_holds cX8_holds 2 (some .boolean)]
def wsX8_dry_r2 : List Cond := [Cond.fieldLink RX8 77 "GroutlineModel" "thrown" "I"]
def wsX8_dry : List Cond := .code yX8_dry cX8_dry 2 (some .int) :: ((wsX8_dry_r1 ++ wsX8_dry_r2) ++ wsX80)
def wsX8_strips : List Cond := .code yX8_strips cX8_strips 1 (some .int) :: ([.methodLink RX8 133 yX8_holds, .instanceMethod yX8_holds, .selects RX8 yX8_holds yX8_holds, .initialized RX8, .code yX8_holds cX8_holds 2 (some .boolean), .fieldLink RX8 77 "GroutlineModel" "thrown" "I", .methodLink RX8 151 yX8_stripCount, .instanceMethod yX8_stripCount, .selects RX8 yX8_stripCount yX8_stripCount, .code yX8_stripCount cX8_stripCount 1 (some .int), .fieldLink RX8 80 "GroutlineModel" "border" "I", .methodLink RX8 121 yX8_courses, .instanceMethod yX8_courses, .selects RX8 yX8_courses yX8_courses, .code yX8_courses cX8_courses 1 (some .int), .fieldLink RX8 13 "GroutlineModel" "high" "I"] ++ wsX80)
def wsX8_pass : List Cond := .code yX8_pass cX8_pass 2 (some .int) :: ([.fieldLink RX8 148 "GroutlineModel" "hour" "I", .methodLink RX8 125 yX8_in, .instanceMethod yX8_in, .selects RX8 yX8_in yX8_in, .initialized RX8, .code yX8_in cX8_in 4 (some .boolean), .methodLink RX8 133 yX8_holds, .instanceMethod yX8_holds, .selects RX8 yX8_holds yX8_holds, .code yX8_holds cX8_holds 2 (some .boolean), .fieldLink RX8 77 "GroutlineModel" "thrown" "I"] ++ wsX80)
def wsJ9_max_7cf53 : List Cond := .code yJ9_max_7cf53 cJ9_max_7cf53 2 (some .int) :: ([])
def wsJ9_min_7cf53 : List Cond := .code yJ9_min_7cf53 cJ9_min_7cf53 2 (some .int) :: ([])
def wsL_plan_r1 : List Cond := [Cond.classLink RL 13 "java/lang/IllegalArgumentException", Cond.classLink RL 15 "java/lang/IllegalStateException", Cond.methodLink RL 7 yX7_plan, Cond.instanceMethod yX7_plan, Cond.selects RX7 yX7_plan yX7_plan, Cond.initialized RX7, Cond.code yX7_plan cX7_plan 5 (some .int), Cond.classLink RX7 65 "java/lang/IllegalArgumentException", Cond.initialized "java/lang/IllegalArgumentException", Cond.classLink RX7 80 "java/lang/IllegalStateException", Cond.initialized "java/lang/IllegalStateException", Cond.fieldLink RX7 47 "Groutline" "work" "LGroutline$Work;", Cond.fieldLink RX7 76 "Groutline$Work" "hasBegun" "Z", Cond.fieldLink RX7 12 "Groutline" "layout" "LGroutline$Layout;", Cond.fieldLink RX7 26 "Groutline" "pieces" "LGroutline$Pieces;", Cond.fieldLink RX7 89 "Groutline$Pieces" "count" "I", Cond.methodLink RX7 61 yX7_isWithin, Cond.static yX7_isWithin, Cond.code yX7_isWithin cX7_isWithin 3 (some .boolean), Cond.methodLink RX7 85 yX3_set, Cond.instanceMethod yX3_set, Cond.selects RX3 yX3_set yX3_set, Cond.initialized RX3, Cond.code yX3_set cX3_set 5 none]
def wsL_plan_r2 : List Cond := [Cond.fieldLink RX3 9 "Groutline$Layout" "wide" "I", Cond.fieldLink RX3 15 "Groutline$Layout" "high" "I", Cond.fieldLink RX3 18 "Groutline$Layout" "border" "I", Cond.fieldLink RX3 21 "Groutline$Layout" "pattern" "I", Cond.methodLink RX7 58 yX7_renew, Cond.instanceMethod yX7_renew, Cond.selects RX7 yX7_renew yX7_renew, Cond.code yX7_renew cX7_renew 1 none, Cond.fieldLink RX7 19 "Groutline" "bars" "LGroutline$Bars;", Cond.fieldLink RX7 33 "Groutline" "cuts" "LGroutline$Cuts;", Cond.methodLink RX7 214 yX0_renew, Cond.instanceMethod yX0_renew, Cond.selects RX0 yX0_renew yX0_renew, Cond.initialized RX0, Cond.code yX0_renew cX0_renew 4 none, Cond.methodLink RX0 30 yX3_stripOfRow, Cond.instanceMethod yX3_stripOfRow, Cond.selects RX3 yX3_stripOfRow yX3_stripOfRow, Cond.code yX3_stripOfRow cX3_stripOfRow 2 (some .int), Cond.methodLink RX3 28 yX3_lowerBorder, Cond.instanceMethod yX3_lowerBorder, Cond.selects RX3 yX3_lowerBorder yX3_lowerBorder, Cond.code yX3_lowerBorder cX3_lowerBorder 1 (some .int), Cond.methodLink RX3 39 yX3_countCourses]
def wsL_plan_r3 : List Cond := [Cond.instanceMethod yX3_countCourses, Cond.selects RX3 yX3_countCourses yX3_countCourses, Cond.code yX3_countCourses cX3_countCourses 1 (some .int), Cond.methodLink RX3 35 yX3_courseOfRow, Cond.instanceMethod yX3_courseOfRow, Cond.selects RX3 yX3_courseOfRow yX3_courseOfRow, Cond.code yX3_courseOfRow cX3_courseOfRow 2 (some .int), Cond.static yX7_timesIn, Cond.code yX7_timesIn cX7_timesIn 2 (some .int), Cond.methodLink RX0 36 yX6_isLaid, Cond.instanceMethod yX6_isLaid, Cond.selects RX6 yX6_isLaid yX6_isLaid, Cond.initialized RX6, Cond.code yX6_isLaid cX6_isLaid 2 (some .boolean), Cond.fieldLink RX6 22 "Groutline$Work" "laid" "[Z", Cond.methodLink RX0 42 yX0_renewRow, Cond.instanceMethod yX0_renewRow, Cond.selects RX0 yX0_renewRow yX0_renewRow, Cond.code yX0_renewRow cX0_renewRow 4 none, Cond.fieldLink RX0 15 "Groutline$Bars" "barred" "[Z", Cond.fieldLink RX0 9 "Groutline$Bars" "pillars" "[Z", Cond.static yX7_isCell, Cond.code yX7_isCell cX7_isCell 2 (some .boolean), Cond.static yX7_cellAt]
def wsL_plan_r4 : List Cond := [Cond.code yX7_cellAt cX7_cellAt 2 (some .int), Cond.methodLink RX0 46 yX0_isDoor, Cond.instanceMethod yX0_isDoor, Cond.selects RX0 yX0_isDoor yX0_isDoor, Cond.code yX0_isDoor cX0_isDoor 3 (some .boolean), Cond.fieldLink RX0 18 "Groutline$Bars" "doorColumn" "I", Cond.methodLink RX7 217 yX4_find, Cond.instanceMethod yX4_find, Cond.selects RX4 yX4_find yX4_find, Cond.initialized RX4, Cond.code yX4_find cX4_find 6 none, Cond.fieldLink RX4 9 "Groutline$Pieces" "count" "I", Cond.fieldLink RX4 15 "Groutline$Pieces" "ofCells" "[I", Cond.methodLink RX4 44 yJ7_fill_53178, Cond.static yJ7_fill_53178, Cond.initialized RJ7, Cond.code yJ7_fill_53178 cJ7_fill_53178 4 none, Cond.methodLink RX4 54 yX0_areAt, Cond.instanceMethod yX0_areAt, Cond.selects RX0 yX0_areAt yX0_areAt, Cond.code yX0_areAt cX0_areAt 3 (some .boolean), Cond.methodLink RX4 60 yX4_add, Cond.instanceMethod yX4_add, Cond.selects RX4 yX4_add yX4_add]
def wsL_plan_r5 : List Cond := [Cond.code yX4_add cX4_add 6 none, Cond.fieldLink RX4 22 "Groutline$Pieces" "columns" "[I", Cond.fieldLink RX4 25 "Groutline$Pieces" "rows" "[I", Cond.fieldLink RX4 40 "Groutline$Pieces" "frame" "LGroutline$Frame;", Cond.fieldLink RX4 19 "Groutline$Pieces" "kinds" "[I", Cond.fieldLink RX4 28 "Groutline$Pieces" "sizes" "[I", Cond.fieldLink RX4 80 "Groutline$Layout" "wide" "I", Cond.fieldLink RX4 83 "Groutline$Layout" "high" "I", Cond.methodLink RX4 64 yX4_has, Cond.instanceMethod yX4_has, Cond.selects RX4 yX4_has yX4_has, Cond.code yX4_has cX4_has 2 (some .boolean), Cond.methodLink RX4 68 yX3_frame, Cond.instanceMethod yX3_frame, Cond.selects RX3 yX3_frame yX3_frame, Cond.code yX3_frame cX3_frame 9 none, Cond.methodLink RX3 55 Lib.Math.max.name, Cond.static Lib.Math.max.name, Cond.initialized "java/lang/Math", Cond.code Lib.Math.max.name Lib.Math.max.code 2 (some .int), Cond.methodLink RX3 60 Lib.Math.min.name, Cond.static Lib.Math.min.name, Cond.code Lib.Math.min.name Lib.Math.min.code 2 (some .int), Cond.methodLink RX3 45 yX3_isBorder]
def wsL_plan_r6 : List Cond := [Cond.instanceMethod yX3_isBorder, Cond.selects RX3 yX3_isBorder yX3_isBorder, Cond.code yX3_isBorder cX3_isBorder 3 (some .boolean), Cond.methodLink RX3 24 yX3_rightBorder, Cond.instanceMethod yX3_rightBorder, Cond.selects RX3 yX3_rightBorder yX3_rightBorder, Cond.code yX3_rightBorder cX3_rightBorder 1 (some .int), Cond.methodLink RX3 49 yX2_set, Cond.instanceMethod yX2_set, Cond.selects RX2 yX2_set yX2_set, Cond.initialized RX2, Cond.code yX2_set cX2_set 5 none, Cond.fieldLink RX2 7 "Groutline$Frame" "left" "I", Cond.fieldLink RX2 13 "Groutline$Frame" "right" "I", Cond.fieldLink RX2 16 "Groutline$Frame" "top" "I", Cond.fieldLink RX2 19 "Groutline$Frame" "bottom" "I", Cond.methodLink RX4 73 yX4_measure, Cond.instanceMethod yX4_measure, Cond.selects RX4 yX4_measure yX4_measure, Cond.code yX4_measure cX4_measure 9 none, Cond.fieldLink RX4 86 "Groutline$Frame" "right" "I", Cond.fieldLink RX4 89 "Groutline$Frame" "left" "I", Cond.fieldLink RX4 92 "Groutline$Frame" "top" "I", Cond.fieldLink RX4 95 "Groutline$Frame" "bottom" "I"]
def wsL_plan_r7 : List Cond := [Cond.methodLink RX4 101 Lib.Math.min.name, Cond.methodLink RX4 106 Lib.Math.max.name, Cond.fieldLink RX4 31 "Groutline$Pieces" "boxWides" "[I", Cond.fieldLink RX4 34 "Groutline$Pieces" "boxHighs" "[I", Cond.methodLink RX4 77 yX3_isBorder, Cond.methodLink RX7 221 yX1_cutAll, Cond.instanceMethod yX1_cutAll, Cond.selects RX1 yX1_cutAll yX1_cutAll, Cond.initialized RX1, Cond.code yX1_cutAll cX1_cutAll 4 none, Cond.fieldLink RX1 9 "Groutline$Cuts" "newTiles" "I", Cond.fieldLink RX1 19 "Groutline$Cuts" "restCount" "I", Cond.fieldLink RX1 15 "Groutline$Cuts" "sources" "[I", Cond.fieldLink RX1 46 "Groutline$Pieces" "kinds" "[I", Cond.fieldLink RX1 49 "Groutline$Pieces" "boxWides" "[I", Cond.fieldLink RX1 52 "Groutline$Pieces" "boxHighs" "[I", Cond.methodLink RX1 35 yJ7_fill_53178, Cond.methodLink RX1 41 yX4_has, Cond.methodLink RX1 55 yX1_cut, Cond.instanceMethod yX1_cut, Cond.selects RX1 yX1_cut yX1_cut, Cond.code yX1_cut cX1_cut 8 none, Cond.fieldLink RX1 63 "Groutline$Layout" "wide" "I", Cond.fieldLink RX1 68 "Groutline$Layout" "high" "I"]
def wsL_plan_r8 : List Cond := [Cond.fieldLink RX1 22 "Groutline$Cuts" "restWides" "[I", Cond.fieldLink RX1 25 "Groutline$Cuts" "restHighs" "[I", Cond.fieldLink RX1 28 "Groutline$Cuts" "restMakers" "[I", Cond.methodLink RX1 59 yX1_bestRestFor, Cond.instanceMethod yX1_bestRestFor, Cond.selects RX1 yX1_bestRestFor yX1_bestRestFor, Cond.code yX1_bestRestFor cX1_bestRestFor 8 (some .int), Cond.methodLink RX1 31 yX1_hasRest, Cond.instanceMethod yX1_hasRest, Cond.selects RX1 yX1_hasRest yX1_hasRest, Cond.code yX1_hasRest cX1_hasRest 2 (some .boolean), Cond.methodLink RX1 71 yX1_leave, Cond.instanceMethod yX1_leave, Cond.selects RX1 yX1_leave yX1_leave, Cond.code yX1_leave cX1_leave 8 none, Cond.methodLink RX1 79 yX1_addRest, Cond.instanceMethod yX1_addRest, Cond.selects RX1 yX1_addRest yX1_addRest, Cond.code yX1_addRest cX1_addRest 5 none, Cond.methodLink RX1 75 yX1_removeRest, Cond.instanceMethod yX1_removeRest, Cond.selects RX1 yX1_removeRest yX1_removeRest, Cond.code yX1_removeRest cX1_removeRest 3 none]
def wsL_plan : List Cond := .codeWith yL_plan cL_plan 7 (some .int) [(0, 14, 17, 13), (0, 14, 21, 15)] :: ((wsL_plan_r1 ++ (wsL_plan_r2 ++ (wsL_plan_r3 ++ (wsL_plan_r4 ++ (wsL_plan_r5 ++ (wsL_plan_r6 ++ (wsL_plan_r7 ++ wsL_plan_r8))))))) ++ wsX70 ++ wsX60 ++ wsX40 ++ wsX30 ++ wsX00 ++ wsX20 ++ wsX10 ++ (vx_atS RX7 69 "java/lang/IllegalArgumentException" ["java/lang/RuntimeException", "java/lang/Exception"]).filter goodWord ++ (vx_atS RX7 84 "java/lang/IllegalStateException" ["java/lang/RuntimeException", "java/lang/Exception"]).filter goodWord)
def wsL_pillar_r1 : List Cond := [Cond.classLink RL 21 "java/lang/IndexOutOfBoundsException", Cond.classLink RL 15 "java/lang/IllegalStateException", Cond.methodLink RL 17 yX7_pillar, Cond.instanceMethod yX7_pillar, Cond.selects RX7 yX7_pillar yX7_pillar, Cond.initialized RX7, Cond.code yX7_pillar cX7_pillar 5 (some .boolean), Cond.classLink RX7 97 "java/lang/IndexOutOfBoundsException", Cond.initialized "java/lang/IndexOutOfBoundsException", Cond.classLink RX7 80 "java/lang/IllegalStateException", Cond.initialized "java/lang/IllegalStateException", Cond.fieldLink RX7 47 "Groutline" "work" "LGroutline$Work;", Cond.fieldLink RX7 76 "Groutline$Work" "hasBegun" "Z", Cond.fieldLink RX7 19 "Groutline" "bars" "LGroutline$Bars;", Cond.methodLink RX7 93 yX7_isCell, Cond.static yX7_isCell, Cond.code yX7_isCell cX7_isCell 2 (some .boolean), Cond.methodLink RX7 102 yX0_setPillar, Cond.instanceMethod yX0_setPillar, Cond.selects RX0 yX0_setPillar yX0_setPillar, Cond.initialized RX0, Cond.code yX0_setPillar cX0_setPillar 5 (some .boolean), Cond.fieldLink RX0 9 "Groutline$Bars" "pillars" "[Z", Cond.static yX7_cellAt]
def wsL_pillar_r2 : List Cond := [Cond.code yX7_cellAt cX7_cellAt 2 (some .int), Cond.methodLink RX7 58 yX7_renew, Cond.instanceMethod yX7_renew, Cond.selects RX7 yX7_renew yX7_renew, Cond.code yX7_renew cX7_renew 1 none, Cond.fieldLink RX7 12 "Groutline" "layout" "LGroutline$Layout;", Cond.fieldLink RX7 26 "Groutline" "pieces" "LGroutline$Pieces;", Cond.fieldLink RX7 33 "Groutline" "cuts" "LGroutline$Cuts;", Cond.methodLink RX7 214 yX0_renew, Cond.instanceMethod yX0_renew, Cond.selects RX0 yX0_renew yX0_renew, Cond.code yX0_renew cX0_renew 4 none, Cond.methodLink RX0 30 yX3_stripOfRow, Cond.instanceMethod yX3_stripOfRow, Cond.selects RX3 yX3_stripOfRow yX3_stripOfRow, Cond.initialized RX3, Cond.code yX3_stripOfRow cX3_stripOfRow 2 (some .int), Cond.fieldLink RX3 18 "Groutline$Layout" "border" "I", Cond.methodLink RX3 28 yX3_lowerBorder, Cond.instanceMethod yX3_lowerBorder, Cond.selects RX3 yX3_lowerBorder yX3_lowerBorder, Cond.code yX3_lowerBorder cX3_lowerBorder 1 (some .int), Cond.methodLink RX3 39 yX3_countCourses, Cond.instanceMethod yX3_countCourses]
def wsL_pillar_r3 : List Cond := [Cond.selects RX3 yX3_countCourses yX3_countCourses, Cond.code yX3_countCourses cX3_countCourses 1 (some .int), Cond.methodLink RX3 35 yX3_courseOfRow, Cond.instanceMethod yX3_courseOfRow, Cond.selects RX3 yX3_courseOfRow yX3_courseOfRow, Cond.code yX3_courseOfRow cX3_courseOfRow 2 (some .int), Cond.fieldLink RX3 15 "Groutline$Layout" "high" "I", Cond.static yX7_timesIn, Cond.code yX7_timesIn cX7_timesIn 2 (some .int), Cond.methodLink RX0 36 yX6_isLaid, Cond.instanceMethod yX6_isLaid, Cond.selects RX6 yX6_isLaid yX6_isLaid, Cond.initialized RX6, Cond.code yX6_isLaid cX6_isLaid 2 (some .boolean), Cond.fieldLink RX6 22 "Groutline$Work" "laid" "[Z", Cond.methodLink RX0 42 yX0_renewRow, Cond.instanceMethod yX0_renewRow, Cond.selects RX0 yX0_renewRow yX0_renewRow, Cond.code yX0_renewRow cX0_renewRow 4 none, Cond.fieldLink RX0 15 "Groutline$Bars" "barred" "[Z", Cond.methodLink RX0 46 yX0_isDoor, Cond.instanceMethod yX0_isDoor, Cond.selects RX0 yX0_isDoor yX0_isDoor, Cond.code yX0_isDoor cX0_isDoor 3 (some .boolean)]
def wsL_pillar_r4 : List Cond := [Cond.fieldLink RX0 18 "Groutline$Bars" "doorColumn" "I", Cond.methodLink RX7 217 yX4_find, Cond.instanceMethod yX4_find, Cond.selects RX4 yX4_find yX4_find, Cond.initialized RX4, Cond.code yX4_find cX4_find 6 none, Cond.fieldLink RX4 9 "Groutline$Pieces" "count" "I", Cond.fieldLink RX4 15 "Groutline$Pieces" "ofCells" "[I", Cond.methodLink RX4 44 yJ7_fill_53178, Cond.static yJ7_fill_53178, Cond.initialized RJ7, Cond.code yJ7_fill_53178 cJ7_fill_53178 4 none, Cond.methodLink RX4 54 yX0_areAt, Cond.instanceMethod yX0_areAt, Cond.selects RX0 yX0_areAt yX0_areAt, Cond.code yX0_areAt cX0_areAt 3 (some .boolean), Cond.methodLink RX4 60 yX4_add, Cond.instanceMethod yX4_add, Cond.selects RX4 yX4_add yX4_add, Cond.code yX4_add cX4_add 6 none, Cond.fieldLink RX4 22 "Groutline$Pieces" "columns" "[I", Cond.fieldLink RX4 25 "Groutline$Pieces" "rows" "[I", Cond.fieldLink RX4 40 "Groutline$Pieces" "frame" "LGroutline$Frame;", Cond.fieldLink RX4 19 "Groutline$Pieces" "kinds" "[I"]
def wsL_pillar_r5 : List Cond := [Cond.fieldLink RX4 28 "Groutline$Pieces" "sizes" "[I", Cond.fieldLink RX4 80 "Groutline$Layout" "wide" "I", Cond.fieldLink RX4 83 "Groutline$Layout" "high" "I", Cond.methodLink RX4 64 yX4_has, Cond.instanceMethod yX4_has, Cond.selects RX4 yX4_has yX4_has, Cond.code yX4_has cX4_has 2 (some .boolean), Cond.methodLink RX4 68 yX3_frame, Cond.instanceMethod yX3_frame, Cond.selects RX3 yX3_frame yX3_frame, Cond.code yX3_frame cX3_frame 9 none, Cond.fieldLink RX3 21 "Groutline$Layout" "pattern" "I", Cond.fieldLink RX3 9 "Groutline$Layout" "wide" "I", Cond.methodLink RX3 55 Lib.Math.max.name, Cond.static Lib.Math.max.name, Cond.initialized "java/lang/Math", Cond.code Lib.Math.max.name Lib.Math.max.code 2 (some .int), Cond.methodLink RX3 60 Lib.Math.min.name, Cond.static Lib.Math.min.name, Cond.code Lib.Math.min.name Lib.Math.min.code 2 (some .int), Cond.methodLink RX3 45 yX3_isBorder, Cond.instanceMethod yX3_isBorder, Cond.selects RX3 yX3_isBorder yX3_isBorder, Cond.code yX3_isBorder cX3_isBorder 3 (some .boolean)]
def wsL_pillar_r6 : List Cond := [Cond.methodLink RX3 24 yX3_rightBorder, Cond.instanceMethod yX3_rightBorder, Cond.selects RX3 yX3_rightBorder yX3_rightBorder, Cond.code yX3_rightBorder cX3_rightBorder 1 (some .int), Cond.methodLink RX3 49 yX2_set, Cond.instanceMethod yX2_set, Cond.selects RX2 yX2_set yX2_set, Cond.initialized RX2, Cond.code yX2_set cX2_set 5 none, Cond.fieldLink RX2 7 "Groutline$Frame" "left" "I", Cond.fieldLink RX2 13 "Groutline$Frame" "right" "I", Cond.fieldLink RX2 16 "Groutline$Frame" "top" "I", Cond.fieldLink RX2 19 "Groutline$Frame" "bottom" "I", Cond.methodLink RX4 73 yX4_measure, Cond.instanceMethod yX4_measure, Cond.selects RX4 yX4_measure yX4_measure, Cond.code yX4_measure cX4_measure 9 none, Cond.fieldLink RX4 86 "Groutline$Frame" "right" "I", Cond.fieldLink RX4 89 "Groutline$Frame" "left" "I", Cond.fieldLink RX4 92 "Groutline$Frame" "top" "I", Cond.fieldLink RX4 95 "Groutline$Frame" "bottom" "I", Cond.methodLink RX4 101 Lib.Math.min.name, Cond.methodLink RX4 106 Lib.Math.max.name, Cond.fieldLink RX4 31 "Groutline$Pieces" "boxWides" "[I"]
def wsL_pillar_r7 : List Cond := [Cond.fieldLink RX4 34 "Groutline$Pieces" "boxHighs" "[I", Cond.methodLink RX4 77 yX3_isBorder, Cond.methodLink RX7 221 yX1_cutAll, Cond.instanceMethod yX1_cutAll, Cond.selects RX1 yX1_cutAll yX1_cutAll, Cond.initialized RX1, Cond.code yX1_cutAll cX1_cutAll 4 none, Cond.fieldLink RX1 9 "Groutline$Cuts" "newTiles" "I", Cond.fieldLink RX1 19 "Groutline$Cuts" "restCount" "I", Cond.fieldLink RX1 15 "Groutline$Cuts" "sources" "[I", Cond.fieldLink RX1 46 "Groutline$Pieces" "kinds" "[I", Cond.fieldLink RX1 49 "Groutline$Pieces" "boxWides" "[I", Cond.fieldLink RX1 52 "Groutline$Pieces" "boxHighs" "[I", Cond.methodLink RX1 35 yJ7_fill_53178, Cond.methodLink RX1 41 yX4_has, Cond.methodLink RX1 55 yX1_cut, Cond.instanceMethod yX1_cut, Cond.selects RX1 yX1_cut yX1_cut, Cond.code yX1_cut cX1_cut 8 none, Cond.fieldLink RX1 63 "Groutline$Layout" "wide" "I", Cond.fieldLink RX1 68 "Groutline$Layout" "high" "I", Cond.fieldLink RX1 22 "Groutline$Cuts" "restWides" "[I", Cond.fieldLink RX1 25 "Groutline$Cuts" "restHighs" "[I", Cond.fieldLink RX1 28 "Groutline$Cuts" "restMakers" "[I"]
def wsL_pillar_r8 : List Cond := [Cond.methodLink RX1 59 yX1_bestRestFor, Cond.instanceMethod yX1_bestRestFor, Cond.selects RX1 yX1_bestRestFor yX1_bestRestFor, Cond.code yX1_bestRestFor cX1_bestRestFor 8 (some .int), Cond.methodLink RX1 31 yX1_hasRest, Cond.instanceMethod yX1_hasRest, Cond.selects RX1 yX1_hasRest yX1_hasRest, Cond.code yX1_hasRest cX1_hasRest 2 (some .boolean), Cond.methodLink RX1 71 yX1_leave, Cond.instanceMethod yX1_leave, Cond.selects RX1 yX1_leave yX1_leave, Cond.code yX1_leave cX1_leave 8 none, Cond.methodLink RX1 79 yX1_addRest, Cond.instanceMethod yX1_addRest, Cond.selects RX1 yX1_addRest yX1_addRest, Cond.code yX1_addRest cX1_addRest 5 none, Cond.methodLink RX1 75 yX1_removeRest, Cond.instanceMethod yX1_removeRest, Cond.selects RX1 yX1_removeRest yX1_removeRest, Cond.code yX1_removeRest cX1_removeRest 3 none]
def wsL_pillar : List Cond := .codeWith yL_pillar cL_pillar 6 (some .int) [(0, 19, 22, 21), (0, 19, 26, 15)] :: ((wsL_pillar_r1 ++ (wsL_pillar_r2 ++ (wsL_pillar_r3 ++ (wsL_pillar_r4 ++ (wsL_pillar_r5 ++ (wsL_pillar_r6 ++ (wsL_pillar_r7 ++ wsL_pillar_r8))))))) ++ wsX70 ++ wsX60 ++ wsX00 ++ wsX30 ++ wsX40 ++ wsX20 ++ wsX10 ++ (vx_atS RX7 101 "java/lang/IndexOutOfBoundsException" ["java/lang/RuntimeException", "java/lang/Exception"]).filter goodWord ++ (vx_atS RX7 84 "java/lang/IllegalStateException" ["java/lang/RuntimeException", "java/lang/Exception"]).filter goodWord)
def wsL_door_r1 : List Cond := [Cond.classLink RL 21 "java/lang/IndexOutOfBoundsException", Cond.methodLink RL 23 yX7_door, Cond.instanceMethod yX7_door, Cond.selects RX7 yX7_door yX7_door, Cond.initialized RX7, Cond.code yX7_door cX7_door 2 (some .int), Cond.classLink RX7 97 "java/lang/IndexOutOfBoundsException", Cond.initialized "java/lang/IndexOutOfBoundsException", Cond.fieldLink RX7 19 "Groutline" "bars" "LGroutline$Bars;", Cond.fieldLink RX7 108 "Groutline$Bars" "doorColumn" "I", Cond.fieldLink RX7 26 "Groutline" "pieces" "LGroutline$Pieces;", Cond.fieldLink RX7 89 "Groutline$Pieces" "count" "I", Cond.methodLink RX7 61 yX7_isWithin, Cond.static yX7_isWithin, Cond.code yX7_isWithin cX7_isWithin 3 (some .boolean), Cond.methodLink RX7 58 yX7_renew, Cond.instanceMethod yX7_renew, Cond.selects RX7 yX7_renew yX7_renew, Cond.code yX7_renew cX7_renew 1 none, Cond.fieldLink RX7 12 "Groutline" "layout" "LGroutline$Layout;", Cond.fieldLink RX7 47 "Groutline" "work" "LGroutline$Work;", Cond.fieldLink RX7 33 "Groutline" "cuts" "LGroutline$Cuts;", Cond.methodLink RX7 214 yX0_renew, Cond.instanceMethod yX0_renew]
def wsL_door_r2 : List Cond := [Cond.selects RX0 yX0_renew yX0_renew, Cond.initialized RX0, Cond.code yX0_renew cX0_renew 4 none, Cond.methodLink RX0 30 yX3_stripOfRow, Cond.instanceMethod yX3_stripOfRow, Cond.selects RX3 yX3_stripOfRow yX3_stripOfRow, Cond.initialized RX3, Cond.code yX3_stripOfRow cX3_stripOfRow 2 (some .int), Cond.fieldLink RX3 18 "Groutline$Layout" "border" "I", Cond.methodLink RX3 28 yX3_lowerBorder, Cond.instanceMethod yX3_lowerBorder, Cond.selects RX3 yX3_lowerBorder yX3_lowerBorder, Cond.code yX3_lowerBorder cX3_lowerBorder 1 (some .int), Cond.methodLink RX3 39 yX3_countCourses, Cond.instanceMethod yX3_countCourses, Cond.selects RX3 yX3_countCourses yX3_countCourses, Cond.code yX3_countCourses cX3_countCourses 1 (some .int), Cond.methodLink RX3 35 yX3_courseOfRow, Cond.instanceMethod yX3_courseOfRow, Cond.selects RX3 yX3_courseOfRow yX3_courseOfRow, Cond.code yX3_courseOfRow cX3_courseOfRow 2 (some .int), Cond.fieldLink RX3 15 "Groutline$Layout" "high" "I", Cond.static yX7_timesIn, Cond.code yX7_timesIn cX7_timesIn 2 (some .int)]
def wsL_door_r3 : List Cond := [Cond.methodLink RX0 36 yX6_isLaid, Cond.instanceMethod yX6_isLaid, Cond.selects RX6 yX6_isLaid yX6_isLaid, Cond.initialized RX6, Cond.code yX6_isLaid cX6_isLaid 2 (some .boolean), Cond.fieldLink RX6 22 "Groutline$Work" "laid" "[Z", Cond.methodLink RX0 42 yX0_renewRow, Cond.instanceMethod yX0_renewRow, Cond.selects RX0 yX0_renewRow yX0_renewRow, Cond.code yX0_renewRow cX0_renewRow 4 none, Cond.fieldLink RX0 15 "Groutline$Bars" "barred" "[Z", Cond.fieldLink RX0 9 "Groutline$Bars" "pillars" "[Z", Cond.static yX7_isCell, Cond.code yX7_isCell cX7_isCell 2 (some .boolean), Cond.static yX7_cellAt, Cond.code yX7_cellAt cX7_cellAt 2 (some .int), Cond.methodLink RX0 46 yX0_isDoor, Cond.instanceMethod yX0_isDoor, Cond.selects RX0 yX0_isDoor yX0_isDoor, Cond.code yX0_isDoor cX0_isDoor 3 (some .boolean), Cond.fieldLink RX0 18 "Groutline$Bars" "doorColumn" "I", Cond.methodLink RX7 217 yX4_find, Cond.instanceMethod yX4_find, Cond.selects RX4 yX4_find yX4_find]
def wsL_door_r4 : List Cond := [Cond.initialized RX4, Cond.code yX4_find cX4_find 6 none, Cond.fieldLink RX4 9 "Groutline$Pieces" "count" "I", Cond.fieldLink RX4 15 "Groutline$Pieces" "ofCells" "[I", Cond.methodLink RX4 44 yJ7_fill_53178, Cond.static yJ7_fill_53178, Cond.initialized RJ7, Cond.code yJ7_fill_53178 cJ7_fill_53178 4 none, Cond.methodLink RX4 54 yX0_areAt, Cond.instanceMethod yX0_areAt, Cond.selects RX0 yX0_areAt yX0_areAt, Cond.code yX0_areAt cX0_areAt 3 (some .boolean), Cond.methodLink RX4 60 yX4_add, Cond.instanceMethod yX4_add, Cond.selects RX4 yX4_add yX4_add, Cond.code yX4_add cX4_add 6 none, Cond.fieldLink RX4 22 "Groutline$Pieces" "columns" "[I", Cond.fieldLink RX4 25 "Groutline$Pieces" "rows" "[I", Cond.fieldLink RX4 40 "Groutline$Pieces" "frame" "LGroutline$Frame;", Cond.fieldLink RX4 19 "Groutline$Pieces" "kinds" "[I", Cond.fieldLink RX4 28 "Groutline$Pieces" "sizes" "[I", Cond.fieldLink RX4 80 "Groutline$Layout" "wide" "I", Cond.fieldLink RX4 83 "Groutline$Layout" "high" "I", Cond.methodLink RX4 64 yX4_has]
def wsL_door_r5 : List Cond := [Cond.instanceMethod yX4_has, Cond.selects RX4 yX4_has yX4_has, Cond.code yX4_has cX4_has 2 (some .boolean), Cond.methodLink RX4 68 yX3_frame, Cond.instanceMethod yX3_frame, Cond.selects RX3 yX3_frame yX3_frame, Cond.code yX3_frame cX3_frame 9 none, Cond.fieldLink RX3 21 "Groutline$Layout" "pattern" "I", Cond.fieldLink RX3 9 "Groutline$Layout" "wide" "I", Cond.methodLink RX3 55 Lib.Math.max.name, Cond.static Lib.Math.max.name, Cond.initialized "java/lang/Math", Cond.code Lib.Math.max.name Lib.Math.max.code 2 (some .int), Cond.methodLink RX3 60 Lib.Math.min.name, Cond.static Lib.Math.min.name, Cond.code Lib.Math.min.name Lib.Math.min.code 2 (some .int), Cond.methodLink RX3 45 yX3_isBorder, Cond.instanceMethod yX3_isBorder, Cond.selects RX3 yX3_isBorder yX3_isBorder, Cond.code yX3_isBorder cX3_isBorder 3 (some .boolean), Cond.methodLink RX3 24 yX3_rightBorder, Cond.instanceMethod yX3_rightBorder, Cond.selects RX3 yX3_rightBorder yX3_rightBorder, Cond.code yX3_rightBorder cX3_rightBorder 1 (some .int)]
def wsL_door_r6 : List Cond := [Cond.methodLink RX3 49 yX2_set, Cond.instanceMethod yX2_set, Cond.selects RX2 yX2_set yX2_set, Cond.initialized RX2, Cond.code yX2_set cX2_set 5 none, Cond.fieldLink RX2 7 "Groutline$Frame" "left" "I", Cond.fieldLink RX2 13 "Groutline$Frame" "right" "I", Cond.fieldLink RX2 16 "Groutline$Frame" "top" "I", Cond.fieldLink RX2 19 "Groutline$Frame" "bottom" "I", Cond.methodLink RX4 73 yX4_measure, Cond.instanceMethod yX4_measure, Cond.selects RX4 yX4_measure yX4_measure, Cond.code yX4_measure cX4_measure 9 none, Cond.fieldLink RX4 86 "Groutline$Frame" "right" "I", Cond.fieldLink RX4 89 "Groutline$Frame" "left" "I", Cond.fieldLink RX4 92 "Groutline$Frame" "top" "I", Cond.fieldLink RX4 95 "Groutline$Frame" "bottom" "I", Cond.methodLink RX4 101 Lib.Math.min.name, Cond.methodLink RX4 106 Lib.Math.max.name, Cond.fieldLink RX4 31 "Groutline$Pieces" "boxWides" "[I", Cond.fieldLink RX4 34 "Groutline$Pieces" "boxHighs" "[I", Cond.methodLink RX4 77 yX3_isBorder, Cond.methodLink RX7 221 yX1_cutAll, Cond.instanceMethod yX1_cutAll]
def wsL_door_r7 : List Cond := [Cond.selects RX1 yX1_cutAll yX1_cutAll, Cond.initialized RX1, Cond.code yX1_cutAll cX1_cutAll 4 none, Cond.fieldLink RX1 9 "Groutline$Cuts" "newTiles" "I", Cond.fieldLink RX1 19 "Groutline$Cuts" "restCount" "I", Cond.fieldLink RX1 15 "Groutline$Cuts" "sources" "[I", Cond.fieldLink RX1 46 "Groutline$Pieces" "kinds" "[I", Cond.fieldLink RX1 49 "Groutline$Pieces" "boxWides" "[I", Cond.fieldLink RX1 52 "Groutline$Pieces" "boxHighs" "[I", Cond.methodLink RX1 35 yJ7_fill_53178, Cond.methodLink RX1 41 yX4_has, Cond.methodLink RX1 55 yX1_cut, Cond.instanceMethod yX1_cut, Cond.selects RX1 yX1_cut yX1_cut, Cond.code yX1_cut cX1_cut 8 none, Cond.fieldLink RX1 63 "Groutline$Layout" "wide" "I", Cond.fieldLink RX1 68 "Groutline$Layout" "high" "I", Cond.fieldLink RX1 22 "Groutline$Cuts" "restWides" "[I", Cond.fieldLink RX1 25 "Groutline$Cuts" "restHighs" "[I", Cond.fieldLink RX1 28 "Groutline$Cuts" "restMakers" "[I", Cond.methodLink RX1 59 yX1_bestRestFor, Cond.instanceMethod yX1_bestRestFor, Cond.selects RX1 yX1_bestRestFor yX1_bestRestFor, Cond.code yX1_bestRestFor cX1_bestRestFor 8 (some .int)]
def wsL_door_r8 : List Cond := [Cond.methodLink RX1 31 yX1_hasRest, Cond.instanceMethod yX1_hasRest, Cond.selects RX1 yX1_hasRest yX1_hasRest, Cond.code yX1_hasRest cX1_hasRest 2 (some .boolean), Cond.methodLink RX1 71 yX1_leave, Cond.instanceMethod yX1_leave, Cond.selects RX1 yX1_leave yX1_leave, Cond.code yX1_leave cX1_leave 8 none, Cond.methodLink RX1 79 yX1_addRest, Cond.instanceMethod yX1_addRest, Cond.selects RX1 yX1_addRest yX1_addRest, Cond.code yX1_addRest cX1_addRest 5 none, Cond.methodLink RX1 75 yX1_removeRest, Cond.instanceMethod yX1_removeRest, Cond.selects RX1 yX1_removeRest yX1_removeRest, Cond.code yX1_removeRest cX1_removeRest 3 none]
def wsL_door : List Cond := .codeWith yL_door cL_door 4 (some .int) [(0, 9, 12, 21)] :: ((wsL_door_r1 ++ (wsL_door_r2 ++ (wsL_door_r3 ++ (wsL_door_r4 ++ (wsL_door_r5 ++ (wsL_door_r6 ++ (wsL_door_r7 ++ wsL_door_r8))))))) ++ wsX70 ++ wsX00 ++ wsX40 ++ wsX30 ++ wsX60 ++ wsX20 ++ wsX10 ++ (vx_atS RX7 101 "java/lang/IndexOutOfBoundsException" ["java/lang/RuntimeException", "java/lang/Exception"]).filter goodWord)
def wsL_ofPiece_r1 : List Cond := [Cond.classLink RL 21 "java/lang/IndexOutOfBoundsException", Cond.classLink RL 13 "java/lang/IllegalArgumentException", Cond.methodLink RL 27 yX7_ofPiece, Cond.instanceMethod yX7_ofPiece, Cond.selects RX7 yX7_ofPiece yX7_ofPiece, Cond.initialized RX7, Cond.code yX7_ofPiece cX7_ofPiece 3 (some .int), Cond.classLink RX7 97 "java/lang/IndexOutOfBoundsException", Cond.initialized "java/lang/IndexOutOfBoundsException", Cond.classLink RX7 65 "java/lang/IllegalArgumentException", Cond.initialized "java/lang/IllegalArgumentException", Cond.fieldLink RX7 26 "Groutline" "pieces" "LGroutline$Pieces;", Cond.fieldLink RX7 119 "Groutline$Pieces" "kinds" "[I", Cond.fieldLink RX7 123 "Groutline$Pieces" "columns" "[I", Cond.fieldLink RX7 126 "Groutline$Pieces" "rows" "[I", Cond.fieldLink RX7 129 "Groutline$Pieces" "sizes" "[I", Cond.fieldLink RX7 12 "Groutline" "layout" "LGroutline$Layout;", Cond.fieldLink RX7 33 "Groutline" "cuts" "LGroutline$Cuts;", Cond.fieldLink RX7 136 "Groutline$Cuts" "sources" "[I", Cond.methodLink RX7 111 yX4_has, Cond.instanceMethod yX4_has, Cond.selects RX4 yX4_has yX4_has, Cond.initialized RX4, Cond.code yX4_has cX4_has 2 (some .boolean)]
def wsL_ofPiece_r2 : List Cond := [Cond.fieldLink RX4 9 "Groutline$Pieces" "count" "I", Cond.methodLink RX7 61 yX7_isWithin, Cond.static yX7_isWithin, Cond.code yX7_isWithin cX7_isWithin 3 (some .boolean), Cond.methodLink RX7 132 yX3_stripOfRow, Cond.instanceMethod yX3_stripOfRow, Cond.selects RX3 yX3_stripOfRow yX3_stripOfRow, Cond.initialized RX3, Cond.code yX3_stripOfRow cX3_stripOfRow 2 (some .int), Cond.fieldLink RX3 18 "Groutline$Layout" "border" "I", Cond.methodLink RX3 28 yX3_lowerBorder, Cond.instanceMethod yX3_lowerBorder, Cond.selects RX3 yX3_lowerBorder yX3_lowerBorder, Cond.code yX3_lowerBorder cX3_lowerBorder 1 (some .int), Cond.methodLink RX3 39 yX3_countCourses, Cond.instanceMethod yX3_countCourses, Cond.selects RX3 yX3_countCourses yX3_countCourses, Cond.code yX3_countCourses cX3_countCourses 1 (some .int), Cond.methodLink RX3 35 yX3_courseOfRow, Cond.instanceMethod yX3_courseOfRow, Cond.selects RX3 yX3_courseOfRow yX3_courseOfRow, Cond.code yX3_courseOfRow cX3_courseOfRow 2 (some .int), Cond.fieldLink RX3 15 "Groutline$Layout" "high" "I", Cond.static yX7_timesIn]
def wsL_ofPiece_r3 : List Cond := [Cond.code yX7_timesIn cX7_timesIn 2 (some .int)]
def wsL_ofPiece : List Cond := .codeWith yL_ofPiece cL_ofPiece 5 (some .int) [(0, 10, 13, 21), (0, 10, 17, 13)] :: ((wsL_ofPiece_r1 ++ (wsL_ofPiece_r2 ++ wsL_ofPiece_r3)) ++ wsX70 ++ wsX40 ++ wsX10 ++ wsX30 ++ (vx_atS RX7 101 "java/lang/IndexOutOfBoundsException" ["java/lang/RuntimeException", "java/lang/Exception"]).filter goodWord ++ (vx_atS RX7 69 "java/lang/IllegalArgumentException" ["java/lang/RuntimeException", "java/lang/Exception"]).filter goodWord)
def wsL_pieceAt : List Cond := .codeWith yL_pieceAt cL_pieceAt 5 (some .int) [(0, 10, 13, 21)] :: ([.classLink RL 21 "java/lang/IndexOutOfBoundsException", .methodLink RL 31 yX7_pieceAt, .instanceMethod yX7_pieceAt, .selects RX7 yX7_pieceAt yX7_pieceAt, .initialized RX7, .code yX7_pieceAt cX7_pieceAt 3 (some .int), .classLink RX7 97 "java/lang/IndexOutOfBoundsException", .initialized "java/lang/IndexOutOfBoundsException", .fieldLink RX7 26 "Groutline" "pieces" "LGroutline$Pieces;", .fieldLink RX7 139 "Groutline$Pieces" "ofCells" "[I", .methodLink RX7 93 yX7_isCell, .static yX7_isCell, .code yX7_isCell cX7_isCell 2 (some .boolean), .methodLink RX7 142 yX7_cellAt, .static yX7_cellAt, .code yX7_cellAt cX7_cellAt 2 (some .int)] ++ wsX70 ++ wsX40 ++ (vx_atS RX7 101 "java/lang/IndexOutOfBoundsException" ["java/lang/RuntimeException", "java/lang/Exception"]).filter goodWord)
def wsL_rest : List Cond := .codeWith yL_rest cL_rest 4 (some .int) [(0, 9, 12, 21)] :: ([.classLink RL 21 "java/lang/IndexOutOfBoundsException", .methodLink RL 34 yX7_rest, .instanceMethod yX7_rest, .selects RX7 yX7_rest yX7_rest, .initialized RX7, .code yX7_rest cX7_rest 2 (some .int), .classLink RX7 97 "java/lang/IndexOutOfBoundsException", .initialized "java/lang/IndexOutOfBoundsException", .fieldLink RX7 33 "Groutline" "cuts" "LGroutline$Cuts;", .methodLink RX7 154 yX1_sizeOfRest, .instanceMethod yX1_sizeOfRest, .selects RX1 yX1_sizeOfRest yX1_sizeOfRest, .initialized RX1, .code yX1_sizeOfRest cX1_sizeOfRest 2 (some .int), .fieldLink RX1 22 "Groutline$Cuts" "restWides" "[I", .fieldLink RX1 25 "Groutline$Cuts" "restHighs" "[I", .methodLink RX1 31 yX1_hasRest, .instanceMethod yX1_hasRest, .selects RX1 yX1_hasRest yX1_hasRest, .code yX1_hasRest cX1_hasRest 2 (some .boolean), .fieldLink RX1 19 "Groutline$Cuts" "restCount" "I"] ++ wsX70 ++ wsX10 ++ (vx_atS RX7 101 "java/lang/IndexOutOfBoundsException" ["java/lang/RuntimeException", "java/lang/Exception"]).filter goodWord)
def wsL_crate_r1 : List Cond := [Cond.classLink RL 13 "java/lang/IllegalArgumentException", Cond.classLink RL 15 "java/lang/IllegalStateException", Cond.methodLink RL 37 yX7_crate, Cond.instanceMethod yX7_crate, Cond.selects RX7 yX7_crate yX7_crate, Cond.initialized RX7, Cond.code yX7_crate cX7_crate 3 (some .int), Cond.classLink RX7 65 "java/lang/IllegalArgumentException", Cond.initialized "java/lang/IllegalArgumentException", Cond.classLink RX7 80 "java/lang/IllegalStateException", Cond.initialized "java/lang/IllegalStateException", Cond.fieldLink RX7 40 "Groutline" "stack" "LGroutline$Stack;", Cond.fieldLink RX7 174 "Groutline$Stack" "count" "I", Cond.methodLink RX7 157 yX7_isFloor, Cond.static yX7_isFloor, Cond.code yX7_isFloor cX7_isFloor 1 (some .boolean), Cond.methodLink RX7 61 yX7_isWithin, Cond.static yX7_isWithin, Cond.code yX7_isWithin cX7_isWithin 3 (some .boolean), Cond.methodLink RX7 164 yX5_isFull, Cond.instanceMethod yX5_isFull, Cond.selects RX5 yX5_isFull yX5_isFull, Cond.initialized RX5, Cond.code yX5_isFull cX5_isFull 1 (some .boolean)]
def wsL_crate_r2 : List Cond := [Cond.fieldLink RX5 9 "Groutline$Stack" "count" "I", Cond.methodLink RX7 170 yX5_put, Cond.instanceMethod yX5_put, Cond.selects RX5 yX5_put yX5_put, Cond.code yX5_put cX5_put 3 none, Cond.fieldLink RX5 18 "Groutline$Stack" "crateFloors" "[I", Cond.fieldLink RX5 22 "Groutline$Stack" "crateTiles" "[I"]
def wsL_crate : List Cond := .codeWith yL_crate cL_crate 5 (some .int) [(0, 10, 13, 13), (0, 10, 17, 15)] :: ((wsL_crate_r1 ++ wsL_crate_r2) ++ wsX70 ++ wsX50 ++ (vx_atS RX7 69 "java/lang/IllegalArgumentException" ["java/lang/RuntimeException", "java/lang/Exception"]).filter goodWord ++ (vx_atS RX7 84 "java/lang/IllegalStateException" ["java/lang/RuntimeException", "java/lang/Exception"]).filter goodWord)
def wsL_fetch_r1 : List Cond := [Cond.classLink RL 13 "java/lang/IllegalArgumentException", Cond.methodLink RL 40 yX7_fetch, Cond.instanceMethod yX7_fetch, Cond.selects RX7 yX7_fetch yX7_fetch, Cond.initialized RX7, Cond.code yX7_fetch cX7_fetch 2 (some .int), Cond.classLink RX7 65 "java/lang/IllegalArgumentException", Cond.initialized "java/lang/IllegalArgumentException", Cond.fieldLink RX7 40 "Groutline" "stack" "LGroutline$Stack;", Cond.methodLink RX7 157 yX7_isFloor, Cond.static yX7_isFloor, Cond.code yX7_isFloor cX7_isFloor 1 (some .boolean), Cond.methodLink RX7 61 yX7_isWithin, Cond.static yX7_isWithin, Cond.code yX7_isWithin cX7_isWithin 3 (some .boolean), Cond.methodLink RX7 175 yX5_takeTopmostFor, Cond.instanceMethod yX5_takeTopmostFor, Cond.selects RX5 yX5_takeTopmostFor yX5_takeTopmostFor, Cond.initialized RX5, Cond.code yX5_takeTopmostFor cX5_takeTopmostFor 4 (some .int), Cond.fieldLink RX5 9 "Groutline$Stack" "count" "I", Cond.fieldLink RX5 18 "Groutline$Stack" "crateFloors" "[I", Cond.fieldLink RX5 22 "Groutline$Stack" "crateTiles" "[I", Cond.methodLink RX5 25 yX5_has]
def wsL_fetch_r2 : List Cond := [Cond.instanceMethod yX5_has, Cond.selects RX5 yX5_has yX5_has, Cond.code yX5_has cX5_has 2 (some .boolean), Cond.methodLink RX5 29 yX5_remove, Cond.instanceMethod yX5_remove, Cond.selects RX5 yX5_remove yX5_remove, Cond.code yX5_remove cX5_remove 3 none, Cond.fieldLink RX5 15 "Groutline$Stack" "moved" "I"]
def wsL_fetch : List Cond := .codeWith yL_fetch cL_fetch 4 (some .int) [(0, 9, 12, 13)] :: ((wsL_fetch_r1 ++ wsL_fetch_r2) ++ wsX70 ++ wsX50 ++ (vx_atS RX7 69 "java/lang/IllegalArgumentException" ["java/lang/RuntimeException", "java/lang/Exception"]).filter goodWord)
def wsL_grout : List Cond := .codeWith yL_grout cL_grout 4 (some .int) [(0, 9, 12, 13)] :: ([.classLink RL 13 "java/lang/IllegalArgumentException", .methodLink RL 43 yX7_grout, .instanceMethod yX7_grout, .selects RX7 yX7_grout yX7_grout, .initialized RX7, .code yX7_grout cX7_grout 3 (some .int), .classLink RX7 65 "java/lang/IllegalArgumentException", .initialized "java/lang/IllegalArgumentException", .fieldLink RX7 47 "Groutline" "work" "LGroutline$Work;", .fieldLink RX7 183 "Groutline$Work" "groutHours" "I", .methodLink RX7 61 yX7_isWithin, .static yX7_isWithin, .code yX7_isWithin cX7_isWithin 3 (some .boolean)] ++ wsX70 ++ wsX60 ++ (vx_atS RX7 69 "java/lang/IllegalArgumentException" ["java/lang/RuntimeException", "java/lang/Exception"]).filter goodWord)
def wsL_lay_r1 : List Cond := [Cond.classLink RL 21 "java/lang/IndexOutOfBoundsException", Cond.classLink RL 15 "java/lang/IllegalStateException", Cond.methodLink RL 46 yX7_lay, Cond.instanceMethod yX7_lay, Cond.selects RX7 yX7_lay yX7_lay, Cond.initialized RX7, Cond.code yX7_lay cX7_lay 2 (some .int), Cond.classLink RX7 97 "java/lang/IndexOutOfBoundsException", Cond.initialized "java/lang/IndexOutOfBoundsException", Cond.classLink RX7 80 "java/lang/IllegalStateException", Cond.initialized "java/lang/IllegalStateException", Cond.fieldLink RX7 12 "Groutline" "layout" "LGroutline$Layout;", Cond.fieldLink RX7 47 "Groutline" "work" "LGroutline$Work;", Cond.fieldLink RX7 202 "Groutline$Work" "hour" "I", Cond.methodLink RX7 186 yX3_hasStrip, Cond.instanceMethod yX3_hasStrip, Cond.selects RX3 yX3_hasStrip yX3_hasStrip, Cond.initialized RX3, Cond.code yX3_hasStrip cX3_hasStrip 2 (some .boolean), Cond.methodLink RX3 42 yX3_countStrips, Cond.instanceMethod yX3_countStrips, Cond.selects RX3 yX3_countStrips yX3_countStrips, Cond.code yX3_countStrips cX3_countStrips 1 (some .int), Cond.fieldLink RX3 18 "Groutline$Layout" "border" "I"]
def wsL_lay_r2 : List Cond := [Cond.methodLink RX3 39 yX3_countCourses, Cond.instanceMethod yX3_countCourses, Cond.selects RX3 yX3_countCourses yX3_countCourses, Cond.code yX3_countCourses cX3_countCourses 1 (some .int), Cond.methodLink RX3 28 yX3_lowerBorder, Cond.instanceMethod yX3_lowerBorder, Cond.selects RX3 yX3_lowerBorder yX3_lowerBorder, Cond.code yX3_lowerBorder cX3_lowerBorder 1 (some .int), Cond.methodLink RX3 35 yX3_courseOfRow, Cond.instanceMethod yX3_courseOfRow, Cond.selects RX3 yX3_courseOfRow yX3_courseOfRow, Cond.code yX3_courseOfRow cX3_courseOfRow 2 (some .int), Cond.fieldLink RX3 15 "Groutline$Layout" "high" "I", Cond.static yX7_timesIn, Cond.code yX7_timesIn cX7_timesIn 2 (some .int), Cond.methodLink RX7 191 yX6_canStart, Cond.instanceMethod yX6_canStart, Cond.selects RX6 yX6_canStart yX6_canStart, Cond.initialized RX6, Cond.code yX6_canStart cX6_canStart 3 (some .boolean), Cond.fieldLink RX6 22 "Groutline$Work" "laid" "[Z", Cond.fieldLink RX6 9 "Groutline$Work" "hour" "I", Cond.fieldLink RX6 26 "Groutline$Work" "dryHours" "[I", Cond.methodLink RX6 30 yX6_isLaid]
def wsL_lay_r3 : List Cond := [Cond.instanceMethod yX6_isLaid, Cond.selects RX6 yX6_isLaid yX6_isLaid, Cond.code yX6_isLaid cX6_isLaid 2 (some .boolean), Cond.methodLink RX7 196 yX7_piecesOfStrip, Cond.instanceMethod yX7_piecesOfStrip, Cond.selects RX7 yX7_piecesOfStrip yX7_piecesOfStrip, Cond.code yX7_piecesOfStrip cX7_piecesOfStrip 4 (some .int), Cond.fieldLink RX7 26 "Groutline" "pieces" "LGroutline$Pieces;", Cond.fieldLink RX7 126 "Groutline$Pieces" "rows" "[I", Cond.methodLink RX7 111 yX4_has, Cond.instanceMethod yX4_has, Cond.selects RX4 yX4_has yX4_has, Cond.initialized RX4, Cond.code yX4_has cX4_has 2 (some .boolean), Cond.fieldLink RX4 9 "Groutline$Pieces" "count" "I", Cond.methodLink RX7 132 yX3_stripOfRow, Cond.instanceMethod yX3_stripOfRow, Cond.selects RX3 yX3_stripOfRow yX3_stripOfRow, Cond.code yX3_stripOfRow cX3_stripOfRow 2 (some .int), Cond.methodLink RX7 199 yX6_finish, Cond.instanceMethod yX6_finish, Cond.selects RX6 yX6_finish yX6_finish, Cond.code yX6_finish cX6_finish 3 none, Cond.fieldLink RX6 15 "Groutline$Work" "groutHours" "I"]
def wsL_lay_r4 : List Cond := [Cond.fieldLink RX6 18 "Groutline$Work" "hasBegun" "Z"]
def wsL_lay : List Cond := .codeWith yL_lay cL_lay 4 (some .int) [(0, 9, 12, 21), (0, 9, 15, 15)] :: ((wsL_lay_r1 ++ (wsL_lay_r2 ++ (wsL_lay_r3 ++ wsL_lay_r4))) ++ wsX70 ++ wsX60 ++ wsX30 ++ wsX40 ++ (vx_atS RX7 101 "java/lang/IndexOutOfBoundsException" ["java/lang/RuntimeException", "java/lang/Exception"]).filter goodWord ++ (vx_atS RX7 84 "java/lang/IllegalStateException" ["java/lang/RuntimeException", "java/lang/Exception"]).filter goodWord)
def wsL_dry_r1 : List Cond := [Cond.classLink RL 21 "java/lang/IndexOutOfBoundsException", Cond.methodLink RL 49 yX7_dry, Cond.instanceMethod yX7_dry, Cond.selects RX7 yX7_dry yX7_dry, Cond.initialized RX7, Cond.code yX7_dry cX7_dry 2 (some .int), Cond.classLink RX7 97 "java/lang/IndexOutOfBoundsException", Cond.initialized "java/lang/IndexOutOfBoundsException", Cond.fieldLink RX7 12 "Groutline" "layout" "LGroutline$Layout;", Cond.fieldLink RX7 47 "Groutline" "work" "LGroutline$Work;", Cond.methodLink RX7 186 yX3_hasStrip, Cond.instanceMethod yX3_hasStrip, Cond.selects RX3 yX3_hasStrip yX3_hasStrip, Cond.initialized RX3, Cond.code yX3_hasStrip cX3_hasStrip 2 (some .boolean), Cond.methodLink RX3 42 yX3_countStrips, Cond.instanceMethod yX3_countStrips, Cond.selects RX3 yX3_countStrips yX3_countStrips, Cond.code yX3_countStrips cX3_countStrips 1 (some .int), Cond.fieldLink RX3 18 "Groutline$Layout" "border" "I", Cond.methodLink RX3 39 yX3_countCourses, Cond.instanceMethod yX3_countCourses, Cond.selects RX3 yX3_countCourses yX3_countCourses, Cond.code yX3_countCourses cX3_countCourses 1 (some .int)]
def wsL_dry_r2 : List Cond := [Cond.methodLink RX3 28 yX3_lowerBorder, Cond.instanceMethod yX3_lowerBorder, Cond.selects RX3 yX3_lowerBorder yX3_lowerBorder, Cond.code yX3_lowerBorder cX3_lowerBorder 1 (some .int), Cond.methodLink RX3 35 yX3_courseOfRow, Cond.instanceMethod yX3_courseOfRow, Cond.selects RX3 yX3_courseOfRow yX3_courseOfRow, Cond.code yX3_courseOfRow cX3_courseOfRow 2 (some .int), Cond.fieldLink RX3 15 "Groutline$Layout" "high" "I", Cond.static yX7_timesIn, Cond.code yX7_timesIn cX7_timesIn 2 (some .int), Cond.methodLink RX7 205 yX6_dryHourOf, Cond.instanceMethod yX6_dryHourOf, Cond.selects RX6 yX6_dryHourOf yX6_dryHourOf, Cond.initialized RX6, Cond.code yX6_dryHourOf cX6_dryHourOf 2 (some .int), Cond.fieldLink RX6 26 "Groutline$Work" "dryHours" "[I", Cond.methodLink RX6 30 yX6_isLaid, Cond.instanceMethod yX6_isLaid, Cond.selects RX6 yX6_isLaid yX6_isLaid, Cond.code yX6_isLaid cX6_isLaid 2 (some .boolean), Cond.fieldLink RX6 22 "Groutline$Work" "laid" "[Z"]
def wsL_dry : List Cond := .codeWith yL_dry cL_dry 4 (some .int) [(0, 9, 12, 21)] :: ((wsL_dry_r1 ++ wsL_dry_r2) ++ wsX70 ++ wsX30 ++ wsX60 ++ (vx_atS RX7 101 "java/lang/IndexOutOfBoundsException" ["java/lang/RuntimeException", "java/lang/Exception"]).filter goodWord)
def wsL_pass : List Cond := .codeWith yL_pass cL_pass 4 (some .int) [(0, 9, 12, 13)] :: ([.classLink RL 13 "java/lang/IllegalArgumentException", .methodLink RL 52 yX7_pass, .instanceMethod yX7_pass, .selects RX7 yX7_pass yX7_pass, .initialized RX7, .code yX7_pass cX7_pass 2 (some .int), .classLink RX7 65 "java/lang/IllegalArgumentException", .initialized "java/lang/IllegalArgumentException", .fieldLink RX7 47 "Groutline" "work" "LGroutline$Work;", .fieldLink RX7 202 "Groutline$Work" "hour" "I", .methodLink RX7 61 yX7_isWithin, .static yX7_isWithin, .code yX7_isWithin cX7_isWithin 3 (some .boolean)] ++ wsX70 ++ wsX60 ++ (vx_atS RX7 69 "java/lang/IllegalArgumentException" ["java/lang/RuntimeException", "java/lang/Exception"]).filter goodWord)
def wsL_law0_r1 : List Cond := [Cond.classLink RL 8 RX7, Cond.instantiable RX7 7, Cond.initialized RX7, Cond.classLink RL 56 RX8, Cond.instantiable RX8 31, Cond.initialized RX8, Cond.arrayClass .long, Cond.methodLink RL 55 yX7_init, Cond.instanceMethod yX7_init, Cond.code yX7_init cX7_init 1 none, Cond.methodLink RX7 3 objectInit, Cond.instanceMethod objectInit, Cond.code objectInit ⟨#[0xb1]⟩ 1 none, Cond.classLink RX7 9 RX3, Cond.instantiable RX3 4, Cond.initialized RX3, Cond.fieldLink RX7 12 "Groutline" "layout" "LGroutline$Layout;", Cond.classLink RX7 16 RX0, Cond.instantiable RX0 3, Cond.initialized RX0, Cond.fieldLink RX7 19 "Groutline" "bars" "LGroutline$Bars;", Cond.classLink RX7 23 RX4, Cond.instantiable RX4 9, Cond.initialized RX4]
def wsL_law0_r2 : List Cond := [Cond.fieldLink RX7 26 "Groutline" "pieces" "LGroutline$Pieces;", Cond.classLink RX7 30 RX1, Cond.instantiable RX1 6, Cond.initialized RX1, Cond.fieldLink RX7 33 "Groutline" "cuts" "LGroutline$Cuts;", Cond.classLink RX7 37 RX5, Cond.instantiable RX5 4, Cond.initialized RX5, Cond.fieldLink RX7 40 "Groutline" "stack" "LGroutline$Stack;", Cond.classLink RX7 44 RX6, Cond.instantiable RX6 5, Cond.initialized RX6, Cond.fieldLink RX7 47 "Groutline" "work" "LGroutline$Work;", Cond.classLink RX7 51 RX2, Cond.instantiable RX2 4, Cond.initialized RX2, Cond.fieldLink RX7 54 "Groutline" "frame" "LGroutline$Frame;", Cond.instanceMethod yX3_init, Cond.code yX3_init cX3_init 1 none, Cond.methodLink RX3 3 objectInit, Cond.fieldLink RX3 9 "Groutline$Layout" "wide" "I", Cond.fieldLink RX3 15 "Groutline$Layout" "high" "I", Cond.fieldLink RX3 18 "Groutline$Layout" "border" "I", Cond.fieldLink RX3 21 "Groutline$Layout" "pattern" "I"]
def wsL_law0_r3 : List Cond := [Cond.instanceMethod yX0_init, Cond.code yX0_init cX0_init 1 none, Cond.methodLink RX0 3 objectInit, Cond.arrayClass .boolean, Cond.fieldLink RX0 9 "Groutline$Bars" "pillars" "[Z", Cond.fieldLink RX0 15 "Groutline$Bars" "barred" "[Z", Cond.fieldLink RX0 18 "Groutline$Bars" "doorColumn" "I", Cond.instanceMethod yX4_init, Cond.code yX4_init cX4_init 1 none, Cond.methodLink RX4 3 objectInit, Cond.fieldLink RX4 9 "Groutline$Pieces" "count" "I", Cond.arrayClass .int, Cond.fieldLink RX4 15 "Groutline$Pieces" "ofCells" "[I", Cond.fieldLink RX4 19 "Groutline$Pieces" "kinds" "[I", Cond.fieldLink RX4 22 "Groutline$Pieces" "columns" "[I", Cond.fieldLink RX4 25 "Groutline$Pieces" "rows" "[I", Cond.fieldLink RX4 28 "Groutline$Pieces" "sizes" "[I", Cond.fieldLink RX4 31 "Groutline$Pieces" "boxWides" "[I", Cond.fieldLink RX4 34 "Groutline$Pieces" "boxHighs" "[I", Cond.classLink RX4 37 RX2, Cond.fieldLink RX4 40 "Groutline$Pieces" "frame" "LGroutline$Frame;", Cond.instanceMethod yX2_init, Cond.code yX2_init cX2_init 1 none, Cond.methodLink RX2 1 objectInit]
def wsL_law0_r4 : List Cond := [Cond.fieldLink RX2 7 "Groutline$Frame" "left" "I", Cond.fieldLink RX2 13 "Groutline$Frame" "right" "I", Cond.fieldLink RX2 16 "Groutline$Frame" "top" "I", Cond.fieldLink RX2 19 "Groutline$Frame" "bottom" "I", Cond.instanceMethod yX1_init, Cond.code yX1_init cX1_init 1 none, Cond.methodLink RX1 3 objectInit, Cond.fieldLink RX1 9 "Groutline$Cuts" "newTiles" "I", Cond.fieldLink RX1 15 "Groutline$Cuts" "sources" "[I", Cond.fieldLink RX1 19 "Groutline$Cuts" "restCount" "I", Cond.fieldLink RX1 22 "Groutline$Cuts" "restWides" "[I", Cond.fieldLink RX1 25 "Groutline$Cuts" "restHighs" "[I", Cond.fieldLink RX1 28 "Groutline$Cuts" "restMakers" "[I", Cond.instanceMethod yX5_init, Cond.code yX5_init cX5_init 1 none, Cond.methodLink RX5 3 objectInit, Cond.fieldLink RX5 9 "Groutline$Stack" "count" "I", Cond.fieldLink RX5 15 "Groutline$Stack" "moved" "I", Cond.fieldLink RX5 18 "Groutline$Stack" "crateFloors" "[I", Cond.fieldLink RX5 22 "Groutline$Stack" "crateTiles" "[I", Cond.instanceMethod yX6_init, Cond.code yX6_init cX6_init 1 none, Cond.methodLink RX6 3 objectInit, Cond.fieldLink RX6 9 "Groutline$Work" "hour" "I"]
def wsL_law0_r5 : List Cond := [Cond.fieldLink RX6 15 "Groutline$Work" "groutHours" "I", Cond.fieldLink RX6 18 "Groutline$Work" "hasBegun" "Z", Cond.fieldLink RX6 22 "Groutline$Work" "laid" "[Z", Cond.fieldLink RX6 26 "Groutline$Work" "dryHours" "[I", Cond.methodLink RX7 58 yX7_renew, Cond.instanceMethod yX7_renew, Cond.selects RX7 yX7_renew yX7_renew, Cond.code yX7_renew cX7_renew 1 none, Cond.methodLink RX7 214 yX0_renew, Cond.instanceMethod yX0_renew, Cond.selects RX0 yX0_renew yX0_renew, Cond.code yX0_renew cX0_renew 4 none, Cond.methodLink RX0 30 yX3_stripOfRow, Cond.instanceMethod yX3_stripOfRow, Cond.selects RX3 yX3_stripOfRow yX3_stripOfRow, Cond.code yX3_stripOfRow cX3_stripOfRow 2 (some .int), Cond.methodLink RX3 28 yX3_lowerBorder, Cond.instanceMethod yX3_lowerBorder, Cond.selects RX3 yX3_lowerBorder yX3_lowerBorder, Cond.code yX3_lowerBorder cX3_lowerBorder 1 (some .int), Cond.methodLink RX3 39 yX3_countCourses, Cond.instanceMethod yX3_countCourses, Cond.selects RX3 yX3_countCourses yX3_countCourses, Cond.code yX3_countCourses cX3_countCourses 1 (some .int)]
def wsL_law0_r6 : List Cond := [Cond.methodLink RX3 35 yX3_courseOfRow, Cond.instanceMethod yX3_courseOfRow, Cond.selects RX3 yX3_courseOfRow yX3_courseOfRow, Cond.code yX3_courseOfRow cX3_courseOfRow 2 (some .int), Cond.static yX7_timesIn, Cond.code yX7_timesIn cX7_timesIn 2 (some .int), Cond.methodLink RX0 36 yX6_isLaid, Cond.instanceMethod yX6_isLaid, Cond.selects RX6 yX6_isLaid yX6_isLaid, Cond.code yX6_isLaid cX6_isLaid 2 (some .boolean), Cond.methodLink RX0 42 yX0_renewRow, Cond.instanceMethod yX0_renewRow, Cond.selects RX0 yX0_renewRow yX0_renewRow, Cond.code yX0_renewRow cX0_renewRow 4 none, Cond.static yX7_isCell, Cond.code yX7_isCell cX7_isCell 2 (some .boolean), Cond.static yX7_cellAt, Cond.code yX7_cellAt cX7_cellAt 2 (some .int), Cond.methodLink RX0 46 yX0_isDoor, Cond.instanceMethod yX0_isDoor, Cond.selects RX0 yX0_isDoor yX0_isDoor, Cond.code yX0_isDoor cX0_isDoor 3 (some .boolean), Cond.methodLink RX7 217 yX4_find, Cond.instanceMethod yX4_find]
def wsL_law0_r7 : List Cond := [Cond.selects RX4 yX4_find yX4_find, Cond.code yX4_find cX4_find 6 none, Cond.methodLink RX4 44 yJ7_fill_53178, Cond.static yJ7_fill_53178, Cond.initialized RJ7, Cond.code yJ7_fill_53178 cJ7_fill_53178 4 none, Cond.methodLink RX4 54 yX0_areAt, Cond.instanceMethod yX0_areAt, Cond.selects RX0 yX0_areAt yX0_areAt, Cond.code yX0_areAt cX0_areAt 3 (some .boolean), Cond.methodLink RX4 60 yX4_add, Cond.instanceMethod yX4_add, Cond.selects RX4 yX4_add yX4_add, Cond.code yX4_add cX4_add 6 none, Cond.fieldLink RX4 80 "Groutline$Layout" "wide" "I", Cond.fieldLink RX4 83 "Groutline$Layout" "high" "I", Cond.methodLink RX4 64 yX4_has, Cond.instanceMethod yX4_has, Cond.selects RX4 yX4_has yX4_has, Cond.code yX4_has cX4_has 2 (some .boolean), Cond.methodLink RX4 68 yX3_frame, Cond.instanceMethod yX3_frame, Cond.selects RX3 yX3_frame yX3_frame, Cond.code yX3_frame cX3_frame 9 none]
def wsL_law0_r8 : List Cond := [Cond.methodLink RX3 55 Lib.Math.max.name, Cond.static Lib.Math.max.name, Cond.initialized "java/lang/Math", Cond.code Lib.Math.max.name Lib.Math.max.code 2 (some .int), Cond.methodLink RX3 60 Lib.Math.min.name, Cond.static Lib.Math.min.name, Cond.code Lib.Math.min.name Lib.Math.min.code 2 (some .int), Cond.methodLink RX3 45 yX3_isBorder, Cond.instanceMethod yX3_isBorder, Cond.selects RX3 yX3_isBorder yX3_isBorder, Cond.code yX3_isBorder cX3_isBorder 3 (some .boolean), Cond.methodLink RX3 24 yX3_rightBorder, Cond.instanceMethod yX3_rightBorder, Cond.selects RX3 yX3_rightBorder yX3_rightBorder, Cond.code yX3_rightBorder cX3_rightBorder 1 (some .int), Cond.methodLink RX3 49 yX2_set, Cond.instanceMethod yX2_set, Cond.selects RX2 yX2_set yX2_set, Cond.code yX2_set cX2_set 5 none, Cond.methodLink RX4 73 yX4_measure, Cond.instanceMethod yX4_measure, Cond.selects RX4 yX4_measure yX4_measure, Cond.code yX4_measure cX4_measure 9 none, Cond.fieldLink RX4 86 "Groutline$Frame" "right" "I"]
def wsL_law0_r9 : List Cond := [Cond.fieldLink RX4 89 "Groutline$Frame" "left" "I", Cond.fieldLink RX4 92 "Groutline$Frame" "top" "I", Cond.fieldLink RX4 95 "Groutline$Frame" "bottom" "I", Cond.methodLink RX4 101 Lib.Math.min.name, Cond.methodLink RX4 106 Lib.Math.max.name, Cond.methodLink RX4 77 yX3_isBorder, Cond.methodLink RX7 221 yX1_cutAll, Cond.instanceMethod yX1_cutAll, Cond.selects RX1 yX1_cutAll yX1_cutAll, Cond.code yX1_cutAll cX1_cutAll 4 none, Cond.fieldLink RX1 46 "Groutline$Pieces" "kinds" "[I", Cond.fieldLink RX1 49 "Groutline$Pieces" "boxWides" "[I", Cond.fieldLink RX1 52 "Groutline$Pieces" "boxHighs" "[I", Cond.methodLink RX1 35 yJ7_fill_53178, Cond.methodLink RX1 41 yX4_has, Cond.methodLink RX1 55 yX1_cut, Cond.instanceMethod yX1_cut, Cond.selects RX1 yX1_cut yX1_cut, Cond.code yX1_cut cX1_cut 8 none, Cond.fieldLink RX1 63 "Groutline$Layout" "wide" "I", Cond.fieldLink RX1 68 "Groutline$Layout" "high" "I", Cond.methodLink RX1 59 yX1_bestRestFor, Cond.instanceMethod yX1_bestRestFor, Cond.selects RX1 yX1_bestRestFor yX1_bestRestFor]
def wsL_law0_r10 : List Cond := [Cond.code yX1_bestRestFor cX1_bestRestFor 8 (some .int), Cond.methodLink RX1 31 yX1_hasRest, Cond.instanceMethod yX1_hasRest, Cond.selects RX1 yX1_hasRest yX1_hasRest, Cond.code yX1_hasRest cX1_hasRest 2 (some .boolean), Cond.methodLink RX1 71 yX1_leave, Cond.instanceMethod yX1_leave, Cond.selects RX1 yX1_leave yX1_leave, Cond.code yX1_leave cX1_leave 8 none, Cond.methodLink RX1 79 yX1_addRest, Cond.instanceMethod yX1_addRest, Cond.selects RX1 yX1_addRest yX1_addRest, Cond.code yX1_addRest cX1_addRest 5 none, Cond.methodLink RX1 75 yX1_removeRest, Cond.instanceMethod yX1_removeRest, Cond.selects RX1 yX1_removeRest yX1_removeRest, Cond.code yX1_removeRest cX1_removeRest 3 none, Cond.methodLink RL 58 yX8_init, Cond.instanceMethod yX8_init, Cond.code yX8_init cX8_init 1 none, Cond.methodLink RX8 1 objectInit, Cond.fieldLink RX8 7 "GroutlineModel" "wide" "I", Cond.fieldLink RX8 13 "GroutlineModel" "high" "I", Cond.fieldLink RX8 16 "GroutlineModel" "pillar" "[I"]
def wsL_law0_r11 : List Cond := [Cond.fieldLink RX8 20 "GroutlineModel" "shut" "[I", Cond.fieldLink RX8 23 "GroutlineModel" "pk" "[I", Cond.fieldLink RX8 26 "GroutlineModel" "pf" "[I", Cond.fieldLink RX8 29 "GroutlineModel" "pn" "[I", Cond.fieldLink RX8 32 "GroutlineModel" "pr" "[I", Cond.fieldLink RX8 35 "GroutlineModel" "left" "[I", Cond.fieldLink RX8 38 "GroutlineModel" "right" "[I", Cond.fieldLink RX8 41 "GroutlineModel" "top" "[I", Cond.fieldLink RX8 44 "GroutlineModel" "bottom" "[I", Cond.fieldLink RX8 47 "GroutlineModel" "at" "[I", Cond.fieldLink RX8 50 "GroutlineModel" "rw" "[I", Cond.fieldLink RX8 53 "GroutlineModel" "rh" "[I", Cond.fieldLink RX8 56 "GroutlineModel" "rp" "[I", Cond.fieldLink RX8 59 "GroutlineModel" "cf" "[I", Cond.fieldLink RX8 62 "GroutlineModel" "cn" "[I", Cond.fieldLink RX8 65 "GroutlineModel" "dry" "[I", Cond.fieldLink RX8 68 "GroutlineModel" "grout" "I", Cond.methodLink RX8 71 yX8_unlay, Cond.instanceMethod yX8_unlay, Cond.selects RX8 yX8_unlay yX8_unlay, Cond.code yX8_unlay cX8_unlay 2 none, Cond.methodLink RX8 74 yX8_plans, Cond.instanceMethod yX8_plans, Cond.selects RX8 yX8_plans yX8_plans]
def wsL_law0_r12 : List Cond := [Cond.code yX8_plans cX8_plans 4 none, Cond.fieldLink RX8 94 "GroutlineModel" "pieces" "I", Cond.methodLink RX8 97 yX8_isBarred, Cond.instanceMethod yX8_isBarred, Cond.selects RX8 yX8_isBarred yX8_isBarred, Cond.code yX8_isBarred cX8_isBarred 2 (some .boolean), Cond.methodLink RX8 100 yX8_isSame, Cond.instanceMethod yX8_isSame, Cond.selects RX8 yX8_isSame yX8_isSame, Cond.code yX8_isSame cX8_isSame 3 (some .boolean), Cond.methodLink RX8 86 yX8_isEdge, Cond.instanceMethod yX8_isEdge, Cond.selects RX8 yX8_isEdge yX8_isEdge, Cond.code yX8_isEdge cX8_isEdge 4 (some .boolean), Cond.fieldLink RX8 80 "GroutlineModel" "border" "I", Cond.methodLink RX8 90 yX8_tileOf, Cond.instanceMethod yX8_tileOf, Cond.selects RX8 yX8_tileOf yX8_tileOf, Cond.code yX8_tileOf cX8_tileOf 4 (some .int), Cond.fieldLink RX8 83 "GroutlineModel" "pattern" "I", Cond.methodLink RX8 104 yX8_cuts, Cond.instanceMethod yX8_cuts, Cond.selects RX8 yX8_cuts yX8_cuts, Cond.code yX8_cuts cX8_cuts 9 none]
def wsL_law0_r13 : List Cond := [Cond.fieldLink RX8 107 "GroutlineModel" "rests" "I", Cond.fieldLink RX8 110 "GroutlineModel" "tiles" "I", Cond.methodLink RX8 113 yX8_bestRest, Cond.instanceMethod yX8_bestRest, Cond.selects RX8 yX8_bestRest yX8_bestRest, Cond.code yX8_bestRest cX8_bestRest 6 (some .int), Cond.methodLink RX8 117 yX8_takeOut, Cond.instanceMethod yX8_takeOut, Cond.selects RX8 yX8_takeOut yX8_takeOut, Cond.code yX8_takeOut cX8_takeOut 3 none, Cond.methodLink RL 59 yL_plan, Cond.static yL_plan, Cond.initialized RL, Cond.codeWith yL_plan cL_plan 7 (some .int) [(0, 14, 17, 13), (0, 14, 21, 15)], Cond.classLink RL 13 "java/lang/IllegalArgumentException", Cond.classLink RL 15 "java/lang/IllegalStateException", Cond.methodLink RL 7 yX7_plan, Cond.instanceMethod yX7_plan, Cond.selects RX7 yX7_plan yX7_plan, Cond.code yX7_plan cX7_plan 5 (some .int), Cond.classLink RX7 65 "java/lang/IllegalArgumentException", Cond.initialized "java/lang/IllegalArgumentException", Cond.classLink RX7 80 "java/lang/IllegalStateException", Cond.initialized "java/lang/IllegalStateException"]
def wsL_law0_r14 : List Cond := [Cond.fieldLink RX7 76 "Groutline$Work" "hasBegun" "Z", Cond.fieldLink RX7 89 "Groutline$Pieces" "count" "I", Cond.methodLink RX7 61 yX7_isWithin, Cond.static yX7_isWithin, Cond.code yX7_isWithin cX7_isWithin 3 (some .boolean), Cond.methodLink RX7 85 yX3_set, Cond.instanceMethod yX3_set, Cond.selects RX3 yX3_set yX3_set, Cond.code yX3_set cX3_set 5 none, Cond.methodLink RL 64 yX8_plan, Cond.instanceMethod yX8_plan, Cond.selects RX8 yX8_plan yX8_plan, Cond.code yX8_plan cX8_plan 6 (some .int), Cond.fieldLink RX8 129 "GroutlineModel" "anyLaid" "Z", Cond.methodLink RX8 125 yX8_in, Cond.instanceMethod yX8_in, Cond.selects RX8 yX8_in yX8_in, Cond.code yX8_in cX8_in 4 (some .boolean), Cond.methodLink RX8 133 yX8_holds, Cond.instanceMethod yX8_holds, Cond.selects RX8 yX8_holds yX8_holds, Cond.code yX8_holds cX8_holds 2 (some .boolean), Cond.fieldLink RX8 77 "GroutlineModel" "thrown" "I", Cond.methodLink RL 65 yX8_thrown]
def wsL_law0_r15 : List Cond := [Cond.instanceMethod yX8_thrown, Cond.selects RX8 yX8_thrown yX8_thrown, Cond.code yX8_thrown cX8_thrown 1 (some .int), Cond.methodLink RL 69 yL_pillar, Cond.static yL_pillar, Cond.codeWith yL_pillar cL_pillar 6 (some .int) [(0, 19, 22, 21), (0, 19, 26, 15)], Cond.classLink RL 21 "java/lang/IndexOutOfBoundsException", Cond.methodLink RL 17 yX7_pillar, Cond.instanceMethod yX7_pillar, Cond.selects RX7 yX7_pillar yX7_pillar, Cond.code yX7_pillar cX7_pillar 5 (some .boolean), Cond.classLink RX7 97 "java/lang/IndexOutOfBoundsException", Cond.initialized "java/lang/IndexOutOfBoundsException", Cond.methodLink RX7 93 yX7_isCell, Cond.methodLink RX7 102 yX0_setPillar, Cond.instanceMethod yX0_setPillar, Cond.selects RX0 yX0_setPillar yX0_setPillar, Cond.code yX0_setPillar cX0_setPillar 5 (some .boolean), Cond.methodLink RL 72 yX8_pillar, Cond.instanceMethod yX8_pillar, Cond.selects RX8 yX8_pillar yX8_pillar, Cond.code yX8_pillar cX8_pillar 6 (some .boolean), Cond.methodLink RL 73 yL_door, Cond.static yL_door]
def wsL_law0_r16 : List Cond := [Cond.codeWith yL_door cL_door 4 (some .int) [(0, 9, 12, 21)], Cond.methodLink RL 23 yX7_door, Cond.instanceMethod yX7_door, Cond.selects RX7 yX7_door yX7_door, Cond.code yX7_door cX7_door 2 (some .int), Cond.fieldLink RX7 108 "Groutline$Bars" "doorColumn" "I", Cond.methodLink RL 76 yX8_door, Cond.instanceMethod yX8_door, Cond.selects RX8 yX8_door yX8_door, Cond.code yX8_door cX8_door 3 (some .int), Cond.fieldLink RX8 136 "GroutlineModel" "door" "I", Cond.methodLink RL 77 yL_ofPiece, Cond.static yL_ofPiece, Cond.codeWith yL_ofPiece cL_ofPiece 5 (some .int) [(0, 10, 13, 21), (0, 10, 17, 13)], Cond.methodLink RL 27 yX7_ofPiece, Cond.instanceMethod yX7_ofPiece, Cond.selects RX7 yX7_ofPiece yX7_ofPiece, Cond.code yX7_ofPiece cX7_ofPiece 3 (some .int), Cond.fieldLink RX7 119 "Groutline$Pieces" "kinds" "[I", Cond.fieldLink RX7 123 "Groutline$Pieces" "columns" "[I", Cond.fieldLink RX7 126 "Groutline$Pieces" "rows" "[I", Cond.fieldLink RX7 129 "Groutline$Pieces" "sizes" "[I", Cond.fieldLink RX7 136 "Groutline$Cuts" "sources" "[I", Cond.methodLink RX7 111 yX4_has]
def wsL_law0_r17 : List Cond := [Cond.methodLink RX7 132 yX3_stripOfRow, Cond.methodLink RL 80 yX8_ofPiece, Cond.instanceMethod yX8_ofPiece, Cond.selects RX8 yX8_ofPiece yX8_ofPiece, Cond.code yX8_ofPiece cX8_ofPiece 3 (some .int), Cond.methodLink RX8 139 yX8_stripOfRow, Cond.instanceMethod yX8_stripOfRow, Cond.selects RX8 yX8_stripOfRow yX8_stripOfRow, Cond.code yX8_stripOfRow cX8_stripOfRow 2 (some .int), Cond.methodLink RX8 121 yX8_courses, Cond.instanceMethod yX8_courses, Cond.selects RX8 yX8_courses yX8_courses, Cond.code yX8_courses cX8_courses 1 (some .int), Cond.methodLink RL 81 yL_pieceAt, Cond.static yL_pieceAt, Cond.codeWith yL_pieceAt cL_pieceAt 5 (some .int) [(0, 10, 13, 21)], Cond.methodLink RL 31 yX7_pieceAt, Cond.instanceMethod yX7_pieceAt, Cond.selects RX7 yX7_pieceAt yX7_pieceAt, Cond.code yX7_pieceAt cX7_pieceAt 3 (some .int), Cond.fieldLink RX7 139 "Groutline$Pieces" "ofCells" "[I", Cond.methodLink RX7 142 yX7_cellAt, Cond.methodLink RL 83 yX8_pieceAt, Cond.instanceMethod yX8_pieceAt]
def wsL_law0_r18 : List Cond := [Cond.selects RX8 yX8_pieceAt yX8_pieceAt, Cond.code yX8_pieceAt cX8_pieceAt 3 (some .int), Cond.methodLink RL 84 yX7_piecesAnew, Cond.instanceMethod yX7_piecesAnew, Cond.selects RX7 yX7_piecesAnew yX7_piecesAnew, Cond.code yX7_piecesAnew cX7_piecesAnew 4 (some .int), Cond.methodLink RX7 146 yX7_isFirstOfItsPiece, Cond.instanceMethod yX7_isFirstOfItsPiece, Cond.selects RX7 yX7_isFirstOfItsPiece yX7_isFirstOfItsPiece, Cond.code yX7_isFirstOfItsPiece cX7_isFirstOfItsPiece 6 (some .boolean), Cond.fieldLink RX7 231 "Groutline$Frame" "top" "I", Cond.fieldLink RX7 234 "Groutline$Frame" "left" "I", Cond.fieldLink RX7 237 "Groutline$Frame" "right" "I", Cond.methodLink RX7 225 yX0_areAt, Cond.methodLink RX7 228 yX3_frame, Cond.methodLink RL 87 yX8_piecesAnew, Cond.instanceMethod yX8_piecesAnew, Cond.selects RX8 yX8_piecesAnew yX8_piecesAnew, Cond.code yX8_piecesAnew cX8_piecesAnew 1 (some .int), Cond.methodLink RL 88 yX7_tiles, Cond.instanceMethod yX7_tiles, Cond.selects RX7 yX7_tiles yX7_tiles, Cond.code yX7_tiles cX7_tiles 1 (some .int), Cond.fieldLink RX7 149 "Groutline$Cuts" "newTiles" "I"]
def wsL_law0_r19 : List Cond := [Cond.methodLink RL 91 yX8_tiles, Cond.instanceMethod yX8_tiles, Cond.selects RX8 yX8_tiles yX8_tiles, Cond.code yX8_tiles cX8_tiles 1 (some .int), Cond.methodLink RL 92 yL_rest, Cond.static yL_rest, Cond.codeWith yL_rest cL_rest 4 (some .int) [(0, 9, 12, 21)], Cond.methodLink RL 34 yX7_rest, Cond.instanceMethod yX7_rest, Cond.selects RX7 yX7_rest yX7_rest, Cond.code yX7_rest cX7_rest 2 (some .int), Cond.methodLink RX7 154 yX1_sizeOfRest, Cond.instanceMethod yX1_sizeOfRest, Cond.selects RX1 yX1_sizeOfRest yX1_sizeOfRest, Cond.code yX1_sizeOfRest cX1_sizeOfRest 2 (some .int), Cond.methodLink RL 94 yX8_rest, Cond.instanceMethod yX8_rest, Cond.selects RX8 yX8_rest yX8_rest, Cond.code yX8_rest cX8_rest 2 (some .int), Cond.methodLink RL 95 yL_crate, Cond.static yL_crate, Cond.codeWith yL_crate cL_crate 5 (some .int) [(0, 10, 13, 13), (0, 10, 17, 15)], Cond.methodLink RL 37 yX7_crate, Cond.instanceMethod yX7_crate]
def wsL_law0_r20 : List Cond := [Cond.selects RX7 yX7_crate yX7_crate, Cond.code yX7_crate cX7_crate 3 (some .int), Cond.fieldLink RX7 174 "Groutline$Stack" "count" "I", Cond.methodLink RX7 157 yX7_isFloor, Cond.static yX7_isFloor, Cond.code yX7_isFloor cX7_isFloor 1 (some .boolean), Cond.methodLink RX7 164 yX5_isFull, Cond.instanceMethod yX5_isFull, Cond.selects RX5 yX5_isFull yX5_isFull, Cond.code yX5_isFull cX5_isFull 1 (some .boolean), Cond.methodLink RX7 170 yX5_put, Cond.instanceMethod yX5_put, Cond.selects RX5 yX5_put yX5_put, Cond.code yX5_put cX5_put 3 none, Cond.methodLink RL 97 yX8_crate, Cond.instanceMethod yX8_crate, Cond.selects RX8 yX8_crate yX8_crate, Cond.code yX8_crate cX8_crate 3 (some .int), Cond.fieldLink RX8 142 "GroutlineModel" "crates" "I", Cond.methodLink RL 98 yL_fetch, Cond.static yL_fetch, Cond.codeWith yL_fetch cL_fetch 4 (some .int) [(0, 9, 12, 13)], Cond.methodLink RL 40 yX7_fetch, Cond.instanceMethod yX7_fetch]
def wsL_law0_r21 : List Cond := [Cond.selects RX7 yX7_fetch yX7_fetch, Cond.code yX7_fetch cX7_fetch 2 (some .int), Cond.methodLink RX7 175 yX5_takeTopmostFor, Cond.instanceMethod yX5_takeTopmostFor, Cond.selects RX5 yX5_takeTopmostFor yX5_takeTopmostFor, Cond.code yX5_takeTopmostFor cX5_takeTopmostFor 4 (some .int), Cond.methodLink RX5 25 yX5_has, Cond.instanceMethod yX5_has, Cond.selects RX5 yX5_has yX5_has, Cond.code yX5_has cX5_has 2 (some .boolean), Cond.methodLink RX5 29 yX5_remove, Cond.instanceMethod yX5_remove, Cond.selects RX5 yX5_remove yX5_remove, Cond.code yX5_remove cX5_remove 3 none, Cond.methodLink RL 100 yX8_fetch, Cond.instanceMethod yX8_fetch, Cond.selects RX8 yX8_fetch yX8_fetch, Cond.code yX8_fetch cX8_fetch 5 (some .int), Cond.fieldLink RX8 145 "GroutlineModel" "moves" "I", Cond.methodLink RL 101 yX7_moves, Cond.instanceMethod yX7_moves, Cond.selects RX7 yX7_moves yX7_moves, Cond.code yX7_moves cX7_moves 1 (some .int), Cond.fieldLink RX7 178 "Groutline$Stack" "moved" "I"]
def wsL_law0_r22 : List Cond := [Cond.methodLink RL 104 yX8_moves, Cond.instanceMethod yX8_moves, Cond.selects RX8 yX8_moves yX8_moves, Cond.code yX8_moves cX8_moves 1 (some .int), Cond.methodLink RL 105 yL_grout, Cond.static yL_grout, Cond.codeWith yL_grout cL_grout 4 (some .int) [(0, 9, 12, 13)], Cond.methodLink RL 43 yX7_grout, Cond.instanceMethod yX7_grout, Cond.selects RX7 yX7_grout yX7_grout, Cond.code yX7_grout cX7_grout 3 (some .int), Cond.fieldLink RX7 183 "Groutline$Work" "groutHours" "I", Cond.methodLink RL 107 yX8_grout, Cond.instanceMethod yX8_grout, Cond.selects RX8 yX8_grout yX8_grout, Cond.code yX8_grout cX8_grout 3 (some .int), Cond.methodLink RL 108 yL_lay, Cond.static yL_lay, Cond.codeWith yL_lay cL_lay 4 (some .int) [(0, 9, 12, 21), (0, 9, 15, 15)], Cond.methodLink RL 46 yX7_lay, Cond.instanceMethod yX7_lay, Cond.selects RX7 yX7_lay yX7_lay, Cond.code yX7_lay cX7_lay 2 (some .int), Cond.fieldLink RX7 202 "Groutline$Work" "hour" "I"]
def wsL_law0_r23 : List Cond := [Cond.methodLink RX7 186 yX3_hasStrip, Cond.instanceMethod yX3_hasStrip, Cond.selects RX3 yX3_hasStrip yX3_hasStrip, Cond.code yX3_hasStrip cX3_hasStrip 2 (some .boolean), Cond.methodLink RX3 42 yX3_countStrips, Cond.instanceMethod yX3_countStrips, Cond.selects RX3 yX3_countStrips yX3_countStrips, Cond.code yX3_countStrips cX3_countStrips 1 (some .int), Cond.methodLink RX7 191 yX6_canStart, Cond.instanceMethod yX6_canStart, Cond.selects RX6 yX6_canStart yX6_canStart, Cond.code yX6_canStart cX6_canStart 3 (some .boolean), Cond.methodLink RX6 30 yX6_isLaid, Cond.methodLink RX7 196 yX7_piecesOfStrip, Cond.instanceMethod yX7_piecesOfStrip, Cond.selects RX7 yX7_piecesOfStrip yX7_piecesOfStrip, Cond.code yX7_piecesOfStrip cX7_piecesOfStrip 4 (some .int), Cond.methodLink RX7 199 yX6_finish, Cond.instanceMethod yX6_finish, Cond.selects RX6 yX6_finish yX6_finish, Cond.code yX6_finish cX6_finish 3 none, Cond.methodLink RL 110 yX8_lay, Cond.instanceMethod yX8_lay, Cond.selects RX8 yX8_lay yX8_lay]
def wsL_law0_r24 : List Cond := [Cond.code yX8_lay cX8_lay 3 (some .int), Cond.fieldLink RX8 148 "GroutlineModel" "hour" "I", Cond.methodLink RX8 154 yX8_isStrip, Cond.instanceMethod yX8_isStrip, Cond.selects RX8 yX8_isStrip yX8_isStrip, Cond.code yX8_isStrip cX8_isStrip 2 (some .boolean), Cond.methodLink RX8 151 yX8_stripCount, Cond.instanceMethod yX8_stripCount, Cond.selects RX8 yX8_stripCount yX8_stripCount, Cond.code yX8_stripCount cX8_stripCount 1 (some .int), Cond.methodLink RX8 157 yX8_isWet, Cond.instanceMethod yX8_isWet, Cond.selects RX8 yX8_isWet yX8_isWet, Cond.code yX8_isWet cX8_isWet 4 (some .boolean), Cond.methodLink RX8 160 yX8_piecesOf, Cond.instanceMethod yX8_piecesOf, Cond.selects RX8 yX8_piecesOf yX8_piecesOf, Cond.code yX8_piecesOf cX8_piecesOf 4 (some .int), Cond.methodLink RL 111 yL_dry, Cond.static yL_dry, Cond.codeWith yL_dry cL_dry 4 (some .int) [(0, 9, 12, 21)], Cond.methodLink RL 49 yX7_dry, Cond.instanceMethod yX7_dry, Cond.selects RX7 yX7_dry yX7_dry]
def wsL_law0_r25 : List Cond := [Cond.code yX7_dry cX7_dry 2 (some .int), Cond.methodLink RX7 205 yX6_dryHourOf, Cond.instanceMethod yX6_dryHourOf, Cond.selects RX6 yX6_dryHourOf yX6_dryHourOf, Cond.code yX6_dryHourOf cX6_dryHourOf 2 (some .int), Cond.methodLink RL 113 yX8_dry, Cond.instanceMethod yX8_dry, Cond.selects RX8 yX8_dry yX8_dry, Cond.code yX8_dry cX8_dry 2 (some .int), Cond.methodLink RL 114 yX7_strips, Cond.instanceMethod yX7_strips, Cond.selects RX7 yX7_strips yX7_strips, Cond.code yX7_strips cX7_strips 1 (some .int), Cond.methodLink RX7 208 yX3_countStrips, Cond.methodLink RL 117 yX8_strips, Cond.instanceMethod yX8_strips, Cond.selects RX8 yX8_strips yX8_strips, Cond.code yX8_strips cX8_strips 1 (some .int), Cond.methodLink RL 118 yL_pass, Cond.static yL_pass, Cond.codeWith yL_pass cL_pass 4 (some .int) [(0, 9, 12, 13)], Cond.methodLink RL 52 yX7_pass, Cond.instanceMethod yX7_pass, Cond.selects RX7 yX7_pass yX7_pass]
def wsL_law0_r26 : List Cond := [Cond.code yX7_pass cX7_pass 2 (some .int), Cond.methodLink RL 120 yX8_pass, Cond.instanceMethod yX8_pass, Cond.selects RX8 yX8_pass yX8_pass, Cond.code yX8_pass cX8_pass 2 (some .int)]
def wsL_law0 : List Cond := (wsL_law0_r1 ++ (wsL_law0_r2 ++ (wsL_law0_r3 ++ (wsL_law0_r4 ++ (wsL_law0_r5 ++ (wsL_law0_r6 ++ (wsL_law0_r7 ++ (wsL_law0_r8 ++ (wsL_law0_r9 ++ (wsL_law0_r10 ++ (wsL_law0_r11 ++ (wsL_law0_r12 ++ (wsL_law0_r13 ++ (wsL_law0_r14 ++ (wsL_law0_r15 ++ (wsL_law0_r16 ++ (wsL_law0_r17 ++ (wsL_law0_r18 ++ (wsL_law0_r19 ++ (wsL_law0_r20 ++ (wsL_law0_r21 ++ (wsL_law0_r22 ++ (wsL_law0_r23 ++ (wsL_law0_r24 ++ (wsL_law0_r25 ++ wsL_law0_r26))))))))))))))))))))))))) ++ wsX70 ++ wsX80 ++ wsX30 ++ wsX00 ++ wsX40 ++ wsX10 ++ wsX50 ++ wsX60 ++ wsX20 ++ ([] : List Cond)
def wsL_law : List Cond := wsL_law0 ++ (vx_atS RX7 69 "java/lang/IllegalArgumentException" ["java/lang/RuntimeException", "java/lang/Exception"]).filter goodWord ++ (vx_atS RX7 84 "java/lang/IllegalStateException" ["java/lang/RuntimeException", "java/lang/Exception"]).filter goodWord ++ (vx_atS RX7 101 "java/lang/IndexOutOfBoundsException" ["java/lang/RuntimeException", "java/lang/Exception"]).filter goodWord
theorem inlX0 : ∀ w ∈ wsX00, w ∈ wsL_law := fun _ h => List.mem_append_left _ (List.mem_append_left _ (List.mem_append_left _ (List.mem_append_left _ (List.mem_append_left _ (List.mem_append_left _ (List.mem_append_left _ (List.mem_append_left _ (List.mem_append_left _ (List.mem_append_right _ h)))))))))
theorem inlX1 : ∀ w ∈ wsX10, w ∈ wsL_law := fun _ h => List.mem_append_left _ (List.mem_append_left _ (List.mem_append_left _ (List.mem_append_left _ (List.mem_append_left _ (List.mem_append_left _ (List.mem_append_left _ (List.mem_append_right _ h)))))))
theorem inlX2 : ∀ w ∈ wsX20, w ∈ wsL_law := fun _ h => List.mem_append_left _ (List.mem_append_left _ (List.mem_append_left _ (List.mem_append_left _ (List.mem_append_right _ h))))
theorem inlX3 : ∀ w ∈ wsX30, w ∈ wsL_law := fun _ h => List.mem_append_left _ (List.mem_append_left _ (List.mem_append_left _ (List.mem_append_left _ (List.mem_append_left _ (List.mem_append_left _ (List.mem_append_left _ (List.mem_append_left _ (List.mem_append_left _ (List.mem_append_left _ (List.mem_append_right _ h))))))))))
theorem inlX4 : ∀ w ∈ wsX40, w ∈ wsL_law := fun _ h => List.mem_append_left _ (List.mem_append_left _ (List.mem_append_left _ (List.mem_append_left _ (List.mem_append_left _ (List.mem_append_left _ (List.mem_append_left _ (List.mem_append_left _ (List.mem_append_right _ h))))))))
theorem inlX5 : ∀ w ∈ wsX50, w ∈ wsL_law := fun _ h => List.mem_append_left _ (List.mem_append_left _ (List.mem_append_left _ (List.mem_append_left _ (List.mem_append_left _ (List.mem_append_left _ (List.mem_append_right _ h))))))
theorem inlX6 : ∀ w ∈ wsX60, w ∈ wsL_law := fun _ h => List.mem_append_left _ (List.mem_append_left _ (List.mem_append_left _ (List.mem_append_left _ (List.mem_append_left _ (List.mem_append_right _ h)))))
theorem inlX7 : ∀ w ∈ wsX70, w ∈ wsL_law := fun _ h => List.mem_append_left _ (List.mem_append_left _ (List.mem_append_left _ (List.mem_append_left _ (List.mem_append_left _ (List.mem_append_left _ (List.mem_append_left _ (List.mem_append_left _ (List.mem_append_left _ (List.mem_append_left _ (List.mem_append_left _ (List.mem_append_left _ (List.mem_append_right _ h))))))))))))
theorem inlX8 : ∀ w ∈ wsX80, w ∈ wsL_law := fun _ h => List.mem_append_left _ (List.mem_append_left _ (List.mem_append_left _ (List.mem_append_left _ (List.mem_append_left _ (List.mem_append_left _ (List.mem_append_left _ (List.mem_append_left _ (List.mem_append_left _ (List.mem_append_left _ (List.mem_append_left _ (List.mem_append_right _ h)))))))))))
abbrev vwCl : List vw_C := [(RX0, TX0, 3), (RX1, TX1, 6), (RX2, TX2, 4), (RX3, TX3, 4), (RX4, TX4, 9), (RX5, TX5, 4), (RX6, TX6, 5), (RX7, TX7, 7), (RX8, TX8, 31)]
end
section
section VK2
def ty3 (cs : Nat → ClassId) : List (ClassId × FieldType) := [(cs 0, .int), (cs 1, .boolean), (cs 2, .long)]
/-- the private members of nest mates that the class links -/
def nstW : List (String × Nat × MethodName × String) := [(RX7, 11, yX3_init, RX7), (RX7, 18, yX0_init, RX7), (RX7, 25, yX4_init, RX7), (RX7, 32, yX1_init, RX7), (RX7, 39, yX5_init, RX7), (RX7, 46, yX6_init, RX7), (RX7, 53, yX2_init, RX7), (RX0, 22, yX7_isCell, RX7), (RX0, 26, yX7_cellAt, RX7), (RX3, 31, yX7_timesIn, RX7), (RX4, 39, yX2_init, RX7), (RX4, 50, yX7_cellAt, RX7), (RX4, 98, yX7_isCell, RX7), (RX6, 34, yX7_timesIn, RX7)]
def NS (U : State) : Prop := ∀ q ∈ nstW, va_Nw (.methodLinkNest q.1 q.2.1 q.2.2.1 q.2.2.2) U
theorem NS.warm {s U : State} (hW : s.WarmedH U.vm) (h : NS s) : NS U := fun q hq => (h q hq).warmM hW
theorem NS.same {s U : State} (hvm : s.vm = U.vm) (h : NS s) : NS U := fun q hq => (h q hq).same rfl hvm
def V (p : Program) (l : Launch) (e : Env) (R : Room) (s : State) (m : MethodId) (args : Array Value) (below : List Frame) (meth : Method) (c : Code) (Q : State → Prop) (D : va_G) (A : Nat → Prop) (H0 : Heap) (nL cells slots : Nat) (ws : va_W) (lv : List (Nat × Value)) (pc : Nat) (st : List Value) : Prop :=
  ∀ (H : Heap) (locs : List Loc) (ls : Array Slot), va_P D vwCl ws H → va_D A ws → va_S A H0 H locs → lv_has ls nL lv → W p l e R s m args below meth c H locs cells slots Q (F0 m pc ls st)
def v_C (p : Program) (s : State) (m : MethodId) (args : Array Value) (meth : Method) (c : Code) (own nm : String) (cc : ByteArray) (nL : Nat) (ret : Option FieldType) (Ts : List Cond) (D : va_G) (cs : Nat → ClassId) (A : Nat → Prop) (H0 : Heap) : Prop :=
  p.tables.exec = Jvm.exec ∧ c.code = cc ∧ c.maxLocals = nL ∧ s.vm.findClass own = some m.cls ∧ (∀ w ∈ Ts, w.before args s = true) ∧ meth.sig.returnType = ret ∧ meth.name = nm ∧ meth.locks = false ∧ va_K D vwCl (ty3 cs) s ∧ NS s ∧ (∀ q : Nat, H0.size ≤ q → A q)
section
variable {p : Program} {l : Launch} {e : Env} {R : Room} {s : State} {m : MethodId} {args : Array Value} {below : List Frame} {meth : Method} {c : Code} {Q : State → Prop} {D : va_G} {A : Nat → Prop} {H0 : Heap} {nL cells slots : Nat} {ws : va_W} {lv : List (Nat × Value)} {pc : Nat} {st : List Value} {own nm : String} {cc : ByteArray} {ret : Option FieldType} {Ts : List Cond} {cs : Nat → ClassId}
theorem v_iconst (hC : v_C p s m args meth c own nm cc nL ret Ts D cs A H0) (pc' : Nat) {n : Int} (hdg : decode cc pc = .ok (.iconst n, 1)) (hpc : pc + 1 = pc') (kk : V p l e R s m args below meth c Q D A H0 nL cells slots ws lv pc' (.int (iI n) :: st)) : V p l e R s m args below meth c Q D A H0 nL cells slots ws lv pc st := by
  subst hpc; exact fun H locs ls hP hD hS hl => lv_iconst hC.1 hC.2.1 hdg rfl (kk H locs ls hP hD hS hl)
theorem v_bipush (hC : v_C p s m args meth c own nm cc nL ret Ts D cs A H0) (pc' : Nat) {n : Int} (hdg : decode cc pc = .ok (.bipush n, 2)) (hv : (Int8.ofInt n).toInt32 = iI n) (hpc : pc + 2 = pc') (kk : V p l e R s m args below meth c Q D A H0 nL cells slots ws lv pc' (.int (iI n) :: st)) : V p l e R s m args below meth c Q D A H0 nL cells slots ws lv pc st := by
  subst hpc; exact fun H locs ls hP hD hS hl => lv_bipush hC.1 hC.2.1 hdg hv (kk H locs ls hP hD hS hl)
theorem v_lconst (hC : v_C p s m args meth c own nm cc nL ret Ts D cs A H0) (pc' : Nat) {n : Fin 2} {z : Int} (hdg : decode cc pc = .ok (.lconst n, 1)) (hv : Int64.ofNat (n : Nat) = lI z) (hpc : pc + 1 = pc') (kk : V p l e R s m args below meth c Q D A H0 nL cells slots ws lv pc' (.long (lI z) :: st)) : V p l e R s m args below meth c Q D A H0 nL cells slots ws lv pc st := by
  subst hpc; exact fun H locs ls hP hD hS hl => lv_lconst hC.1 hC.2.1 hdg hv (kk H locs ls hP hD hS hl)
theorem v_iload_n (hC : v_C p s m args meth c own nm cc nL ret Ts D cs A H0) (pc' : Nat) (j : Nat) {k : Fin 4} {i : Nat} {x : Int32} (hdg : decode cc pc = .ok (.iload_n k, 1)) (hpc : pc + 1 = pc') (hi : (k : Nat) = i) (hj : lv[j]? = some (i, .int x)) (kk : V p l e R s m args below meth c Q D A H0 nL cells slots ws lv pc' (.int x :: st)) : V p l e R s m args below meth c Q D A H0 nL cells slots ws lv pc st := by
  subst hpc; exact fun H locs ls hP hD hS hl => lv_iload_n hC.1 hC.2.1 hdg hi (lv_at hl j hj) (kk H locs ls hP hD hS hl)
theorem v_iload (hC : v_C p s m args meth c own nm cc nL ret Ts D cs A H0) (pc' : Nat) (j : Nat) {i : Nat} {x : Int32} (hdg : decode cc pc = .ok (.iload i, 2)) (hpc : pc + 2 = pc') (hj : lv[j]? = some (i, .int x)) (kk : V p l e R s m args below meth c Q D A H0 nL cells slots ws lv pc' (.int x :: st)) : V p l e R s m args below meth c Q D A H0 nL cells slots ws lv pc st := by
  subst hpc; exact fun H locs ls hP hD hS hl => lv_iload hC.1 hC.2.1 hdg (lv_at hl j hj) (kk H locs ls hP hD hS hl)
theorem v_aload_n (hC : v_C p s m args meth c own nm cc nL ret Ts D cs A H0) (pc' : Nat) (j : Nat) {k : Fin 4} {i : Nat} {x : Nat} (hdg : decode cc pc = .ok (.aload_n k, 1)) (hpc : pc + 1 = pc') (hi : (k : Nat) = i) (hj : lv[j]? = some (i, .ref x)) (kk : V p l e R s m args below meth c Q D A H0 nL cells slots ws lv pc' (.ref x :: st)) : V p l e R s m args below meth c Q D A H0 nL cells slots ws lv pc st := by
  subst hpc; exact fun H locs ls hP hD hS hl => lv_aload_n hC.1 hC.2.1 hdg hi (lv_at hl j hj) (kk H locs ls hP hD hS hl)
theorem v_aload (hC : v_C p s m args meth c own nm cc nL ret Ts D cs A H0) (pc' : Nat) (j : Nat) {i : Nat} {x : Nat} (hdg : decode cc pc = .ok (.aload i, 2)) (hpc : pc + 2 = pc') (hj : lv[j]? = some (i, .ref x)) (kk : V p l e R s m args below meth c Q D A H0 nL cells slots ws lv pc' (.ref x :: st)) : V p l e R s m args below meth c Q D A H0 nL cells slots ws lv pc st := by
  subst hpc; exact fun H locs ls hP hD hS hl => lv_aload hC.1 hC.2.1 hdg (lv_at hl j hj) (kk H locs ls hP hD hS hl)
theorem v_istore_n (hC : v_C p s m args meth c own nm cc nL ret Ts D cs A H0) (pc' : Nat) (lv' : List (Nat × Value)) {k : Fin 4} {i : Nat} {x : Int32} (hdg : decode cc pc = .ok (.istore_n k, 1)) (hpc : pc + 1 = pc') (hi : (k : Nat) = i) (hn : i < nL) (hl' : (i, Value.int x) :: lv.filter (fun q => !(q.1 == i) && !(q.1 + 1 == i && q.2.category == 2)) = lv') (kk : V p l e R s m args below meth c Q D A H0 nL cells slots ws lv' pc' st) : V p l e R s m args below meth c Q D A H0 nL cells slots ws lv pc (.int x :: st) := by
  subst hpc; exact fun H locs ls hP hD hS hl => lv_istore_n hC.1 hC.2.1 hdg hi hl hn hl' (fun ls hl => kk H locs ls hP hD hS hl)
theorem v_istore (hC : v_C p s m args meth c own nm cc nL ret Ts D cs A H0) (pc' : Nat) (lv' : List (Nat × Value)) {i : Nat} {x : Int32} (hdg : decode cc pc = .ok (.istore i, 2)) (hpc : pc + 2 = pc') (hn : i < nL) (hl' : (i, Value.int x) :: lv.filter (fun q => !(q.1 == i) && !(q.1 + 1 == i && q.2.category == 2)) = lv') (kk : V p l e R s m args below meth c Q D A H0 nL cells slots ws lv' pc' st) : V p l e R s m args below meth c Q D A H0 nL cells slots ws lv pc (.int x :: st) := by
  subst hpc; exact fun H locs ls hP hD hS hl => lv_istore hC.1 hC.2.1 hdg hl hn hl' (fun ls hl => kk H locs ls hP hD hS hl)
theorem v_astore_n (hC : v_C p s m args meth c own nm cc nL ret Ts D cs A H0) (pc' : Nat) (lv' : List (Nat × Value)) {k : Fin 4} {i : Nat} {x : Nat} (hdg : decode cc pc = .ok (.astore_n k, 1)) (hpc : pc + 1 = pc') (hi : (k : Nat) = i) (hn : i < nL) (hl' : (i, Value.ref x) :: lv.filter (fun q => !(q.1 == i) && !(q.1 + 1 == i && q.2.category == 2)) = lv') (kk : V p l e R s m args below meth c Q D A H0 nL cells slots ws lv' pc' st) : V p l e R s m args below meth c Q D A H0 nL cells slots ws lv pc (.ref x :: st) := by
  subst hpc; exact fun H locs ls hP hD hS hl => lv_astore_n hC.1 hC.2.1 hdg hi hl hn hl' (fun ls hl => kk H locs ls hP hD hS hl)
theorem v_astore (hC : v_C p s m args meth c own nm cc nL ret Ts D cs A H0) (pc' : Nat) (lv' : List (Nat × Value)) {i : Nat} {x : Nat} (hdg : decode cc pc = .ok (.astore i, 2)) (hpc : pc + 2 = pc') (hn : i < nL) (hl' : (i, Value.ref x) :: lv.filter (fun q => !(q.1 == i) && !(q.1 + 1 == i && q.2.category == 2)) = lv') (kk : V p l e R s m args below meth c Q D A H0 nL cells slots ws lv' pc' st) : V p l e R s m args below meth c Q D A H0 nL cells slots ws lv pc (.ref x :: st) := by
  subst hpc; exact fun H locs ls hP hD hS hl => lv_astore hC.1 hC.2.1 hdg hl hn hl' (fun ls hl => kk H locs ls hP hD hS hl)
theorem v_iinc (hC : v_C p s m args meth c own nm cc nL ret Ts D cs A H0) (pc' : Nat) (j : Nat) (lv' : List (Nat × Value)) {i : Nat} {n a : Int} (hdg : decode cc pc = .ok (.iinc i n, 3)) (hpc : pc + 3 = pc') (hj : lv[j]? = some (i, .int (iI a))) (hn : i < nL) (hl' : (i, Value.int (iI (a + n))) :: lv.filter (fun q => !(q.1 == i) && !(q.1 + 1 == i && q.2.category == 2)) = lv') (kk : V p l e R s m args below meth c Q D A H0 nL cells slots ws lv' pc' st) : V p l e R s m args below meth c Q D A H0 nL cells slots ws lv pc st := by
  subst hpc; exact fun H locs ls hP hD hS hl => lv_iinc hC.1 hC.2.1 hdg hl hj (iI_add a n) hn hl' (fun ls hl => kk H locs ls hP hD hS hl)
theorem v_iadd (hC : v_C p s m args meth c own nm cc nL ret Ts D cs A H0) (pc' : Nat) (z : Int) {a b : Int} (hdg : decode cc pc = .ok (.iadd, 1)) (hpc : pc + 1 = pc') (hz : a + b = z) (kk : V p l e R s m args below meth c Q D A H0 nL cells slots ws lv pc' (.int (iI z) :: st)) : V p l e R s m args below meth c Q D A H0 nL cells slots ws lv pc (.int (iI b) :: .int (iI a) :: st) := by
  subst hpc; subst hz; exact fun H locs ls hP hD hS hl => lv_iadd hC.1 hC.2.1 hdg (by rw [iI_add]; exact kk H locs ls hP hD hS hl)
theorem v_isub (hC : v_C p s m args meth c own nm cc nL ret Ts D cs A H0) (pc' : Nat) (z : Int) {a b : Int} (hdg : decode cc pc = .ok (.isub, 1)) (hpc : pc + 1 = pc') (hz : a - b = z) (kk : V p l e R s m args below meth c Q D A H0 nL cells slots ws lv pc' (.int (iI z) :: st)) : V p l e R s m args below meth c Q D A H0 nL cells slots ws lv pc (.int (iI b) :: .int (iI a) :: st) := by
  subst hpc; subst hz; exact fun H locs ls hP hD hS hl => lv_isub hC.1 hC.2.1 hdg (by rw [iI_sub]; exact kk H locs ls hP hD hS hl)
theorem v_imul (hC : v_C p s m args meth c own nm cc nL ret Ts D cs A H0) (pc' : Nat) (z : Int) {a b : Int} (hdg : decode cc pc = .ok (.imul, 1)) (hpc : pc + 1 = pc') (hz : a * b = z) (kk : V p l e R s m args below meth c Q D A H0 nL cells slots ws lv pc' (.int (iI z) :: st)) : V p l e R s m args below meth c Q D A H0 nL cells slots ws lv pc (.int (iI b) :: .int (iI a) :: st) := by
  subst hpc; subst hz; exact fun H locs ls hP hD hS hl => lv_imul hC.1 hC.2.1 hdg (by rw [iI_mul]; exact kk H locs ls hP hD hS hl)
theorem v_idiv (hC : v_C p s m args meth c own nm cc nL ret Ts D cs A H0) (pc' : Nat) (z : Int) {a b : Int} (hdg : decode cc pc = .ok (.idiv, 1)) (hpc : pc + 1 = pc') (ha : 0 ≤ a ∧ a < 2147483648) (hb : 0 < b ∧ b < 2147483648) (hz : a / b = z) (kk : V p l e R s m args below meth c Q D A H0 nL cells slots ws lv pc' (.int (iI z) :: st)) : V p l e R s m args below meth c Q D A H0 nL cells slots ws lv pc (.int (iI b) :: .int (iI a) :: st) := by
  subst hpc; subst hz; exact fun H locs ls hP hD hS hl => lv_idiv hC.1 hC.2.1 hdg (by rw [iI_0, iI_eq (by omega) (by omega)]; omega) (by rw [iI_div ha hb]; exact kk H locs ls hP hD hS hl)
theorem v_irem (hC : v_C p s m args meth c own nm cc nL ret Ts D cs A H0) (pc' : Nat) (z : Int) {a b : Int} (hdg : decode cc pc = .ok (.irem, 1)) (hpc : pc + 1 = pc') (ha : 0 ≤ a ∧ a < 2147483648) (hb : 0 < b ∧ b < 2147483648) (hz : a % b = z) (kk : V p l e R s m args below meth c Q D A H0 nL cells slots ws lv pc' (.int (iI z) :: st)) : V p l e R s m args below meth c Q D A H0 nL cells slots ws lv pc (.int (iI b) :: .int (iI a) :: st) := by
  subst hpc; subst hz; exact fun H locs ls hP hD hS hl => lv_irem hC.1 hC.2.1 hdg (by rw [iI_0, iI_eq (by omega) (by omega)]; omega) (by rw [iI_rem ha hb]; exact kk H locs ls hP hD hS hl)
theorem v_ishr1 (hC : v_C p s m args meth c own nm cc nL ret Ts D cs A H0) (pc' : Nat) (z : Int) {a : Int} (hdg : decode cc pc = .ok (.ishr, 1)) (hpc : pc + 1 = pc') (ha : 0 ≤ a ∧ a < 2147483648) (hz : a / 2 = z) (kk : V p l e R s m args below meth c Q D A H0 nL cells slots ws lv pc' (.int (iI z) :: st)) : V p l e R s m args below meth c Q D A H0 nL cells slots ws lv pc (.int (iI 1) :: .int (iI a) :: st) := by
  subst hpc; subst hz; exact fun H locs ls hP hD hS hl => lv_ishr hC.1 hC.2.1 hdg (by rw [iI_shr1 ha]; exact kk H locs ls hP hD hS hl)
theorem v_iand (hC : v_C p s m args meth c own nm cc nL ret Ts D cs A H0) (pc' : Nat) (z N : Int) (k : Nat) {a b : Int} (hdg : decode cc pc = .ok (.iand, 1)) (hpc : pc + 1 = pc') (hk : k ≤ 31) (hm : (iI b).toBitVec.toNat = 2 ^ k - 1) (hN : ((2 ^ k : Nat) : Int) = N) (hz : a % N = z) (kk : V p l e R s m args below meth c Q D A H0 nL cells slots ws lv pc' (.int (iI z) :: st)) : V p l e R s m args below meth c Q D A H0 nL cells slots ws lv pc (.int (iI b) :: .int (iI a) :: st) := by
  subst hpc; subst hz; exact fun H locs ls hP hD hS hl => lv_iand hC.1 hC.2.1 hdg (by rw [iI_and k N hk hm hN]; exact kk H locs ls hP hD hS hl)
theorem v_ior01 (hC : v_C p s m args meth c own nm cc nL ret Ts D cs A H0) (pc' : Nat) {a b : Int} (hdg : decode cc pc = .ok (.ior, 1)) (hpc : pc + 1 = pc') (ha : a = 0 ∨ a = 1) (hb : b = 0 ∨ b = 1) (kk : V p l e R s m args below meth c Q D A H0 nL cells slots ws lv pc' (.int (iI (max a b)) :: st)) : V p l e R s m args below meth c Q D A H0 nL cells slots ws lv pc (.int (iI b) :: .int (iI a) :: st) := by
  subst hpc; exact fun H locs ls hP hD hS hl => lv_ior hC.1 hC.2.1 hdg (by rw [iI_or ha hb]; exact kk H locs ls hP hD hS hl)
theorem v_i2l (hC : v_C p s m args meth c own nm cc nL ret Ts D cs A H0) (pc' : Nat) {a : Int} (hdg : decode cc pc = .ok (.i2l, 1)) (hpc : pc + 1 = pc') (ha : -2147483648 ≤ a ∧ a < 2147483648) (kk : V p l e R s m args below meth c Q D A H0 nL cells slots ws lv pc' (.long (lI a) :: st)) : V p l e R s m args below meth c Q D A H0 nL cells slots ws lv pc (.int (iI a) :: st) := by
  subst hpc; exact fun H locs ls hP hD hS hl => lv_i2l hC.1 hC.2.1 hdg (lI_of ha) (kk H locs ls hP hD hS hl)
theorem v_lcmp (hC : v_C p s m args meth c own nm cc nL ret Ts D cs A H0) (pc' : Nat) {a b : Int} (hdg : decode cc pc = .ok (.lcmp, 1)) (hpc : pc + 1 = pc') (ha : -2147483648 ≤ a ∧ a < 2147483648) (hb : -2147483648 ≤ b ∧ b < 2147483648) (kk : V p l e R s m args below meth c Q D A H0 nL cells slots ws lv pc' (.int (iI (if b < a then 1 else if a = b then 0 else -1)) :: st)) : V p l e R s m args below meth c Q D A H0 nL cells slots ws lv pc (.long (lI b) :: .long (lI a) :: st) := by
  subst hpc; exact fun H locs ls hP hD hS hl => W.lcmp hC.1 hC.2.1 hdg (by rw [lI_cmp ha hb]; exact kk H locs ls hP hD hS hl)
theorem v_dup (hC : v_C p s m args meth c own nm cc nL ret Ts D cs A H0) (pc' : Nat) {va : Value} (hdg : decode cc pc = .ok (.dup, 1)) (hpc : pc + 1 = pc') (hva : va.category = 1) (kk : V p l e R s m args below meth c Q D A H0 nL cells slots ws lv pc' (va :: va :: st)) : V p l e R s m args below meth c Q D A H0 nL cells slots ws lv pc (va :: st) := by
  subst hpc; exact fun H locs ls hP hD hS hl => lv_dup hC.1 hC.2.1 hdg hva (kk H locs ls hP hD hS hl)
theorem v_dup_x1 (hC : v_C p s m args meth c own nm cc nL ret Ts D cs A H0) (pc' : Nat) {va vb : Value} (hdg : decode cc pc = .ok (.dup_x1, 1)) (hpc : pc + 1 = pc') (hva : va.category = 1) (hvb : vb.category = 1) (kk : V p l e R s m args below meth c Q D A H0 nL cells slots ws lv pc' (va :: vb :: va :: st)) : V p l e R s m args below meth c Q D A H0 nL cells slots ws lv pc (va :: vb :: st) := by
  subst hpc; exact fun H locs ls hP hD hS hl => lv_dup_x1 hC.1 hC.2.1 hdg hva hvb (kk H locs ls hP hD hS hl)
theorem v_dup2 (hC : v_C p s m args meth c own nm cc nL ret Ts D cs A H0) (pc' : Nat) {va vb : Value} (hdg : decode cc pc = .ok (.dup2, 1)) (hpc : pc + 1 = pc') (hva : va.category = 1) (hvb : vb.category = 1) (kk : V p l e R s m args below meth c Q D A H0 nL cells slots ws lv pc' (va :: vb :: va :: vb :: st)) : V p l e R s m args below meth c Q D A H0 nL cells slots ws lv pc (va :: vb :: st) := by
  subst hpc; exact fun H locs ls hP hD hS hl => lv_dup2_11 hC.1 hC.2.1 hdg hva hvb (kk H locs ls hP hD hS hl)
theorem v_pop (hC : v_C p s m args meth c own nm cc nL ret Ts D cs A H0) (pc' : Nat) {va : Value} (hdg : decode cc pc = .ok (.pop, 1)) (hpc : pc + 1 = pc') (hva : va.category = 1) (kk : V p l e R s m args below meth c Q D A H0 nL cells slots ws lv pc' st) : V p l e R s m args below meth c Q D A H0 nL cells slots ws lv pc (va :: st) := by
  subst hpc; exact fun H locs ls hP hD hS hl => lv_pop hC.1 hC.2.1 hdg hva (kk H locs ls hP hD hS hl)
theorem v_goto (hC : v_C p s m args meth c own nm cc nL ret Ts D cs A H0) (pc' : Nat) {off : Int} (hdg : decode cc pc = .ok (.goto off, 3)) (hpc : (pc : Int) + off = (pc' : Int)) (kk : V p l e R s m args below meth c Q D A H0 nL cells slots ws lv pc' st) : V p l e R s m args below meth c Q D A H0 nL cells slots ws lv pc st :=
  fun H locs ls hP hD hS hl => lv_goto hC.1 hC.2.1 hdg hpc (kk H locs ls hP hD hS hl)
theorem v_icmp_eq (hC : v_C p s m args meth c own nm cc nL ret Ts D cs A H0) (tgt pc' : Nat) {a b off : Int} (hdg : decode cc pc = .ok (.if_icmp .eq off, 3)) (ht : (pc : Int) + off = (tgt : Int)) (hpc : pc + 3 = pc') (ha : -2147483648 ≤ a ∧ a < 2147483648) (hb : -2147483648 ≤ b ∧ b < 2147483648) (kt : a = b → V p l e R s m args below meth c Q D A H0 nL cells slots ws lv tgt st) (kf : ¬ a = b → V p l e R s m args below meth c Q D A H0 nL cells slots ws lv pc' st) : V p l e R s m args below meth c Q D A H0 nL cells slots ws lv pc (.int (iI b) :: .int (iI a) :: st) := by
  subst hpc; exact fun H locs ls hP hD hS hl => lv_icmp_eq hC.1 hC.2.1 hdg ht (fun h => kt ((iI_eq ha hb).mp h) H locs ls hP hD hS hl) (fun h => kf (fun q => h ((iI_eq ha hb).mpr q)) H locs ls hP hD hS hl)
theorem v_icmp_ne (hC : v_C p s m args meth c own nm cc nL ret Ts D cs A H0) (tgt pc' : Nat) {a b off : Int} (hdg : decode cc pc = .ok (.if_icmp .ne off, 3)) (ht : (pc : Int) + off = (tgt : Int)) (hpc : pc + 3 = pc') (ha : -2147483648 ≤ a ∧ a < 2147483648) (hb : -2147483648 ≤ b ∧ b < 2147483648) (kt : ¬ a = b → V p l e R s m args below meth c Q D A H0 nL cells slots ws lv tgt st) (kf : a = b → V p l e R s m args below meth c Q D A H0 nL cells slots ws lv pc' st) : V p l e R s m args below meth c Q D A H0 nL cells slots ws lv pc (.int (iI b) :: .int (iI a) :: st) := by
  subst hpc; exact fun H locs ls hP hD hS hl => lv_icmp_ne hC.1 hC.2.1 hdg ht (fun h => kt (fun q => h ((iI_eq ha hb).mpr q)) H locs ls hP hD hS hl) (fun h => kf ((iI_eq ha hb).mp h) H locs ls hP hD hS hl)
theorem v_icmp_lt (hC : v_C p s m args meth c own nm cc nL ret Ts D cs A H0) (tgt pc' : Nat) {a b off : Int} (hdg : decode cc pc = .ok (.if_icmp .lt off, 3)) (ht : (pc : Int) + off = (tgt : Int)) (hpc : pc + 3 = pc') (ha : -2147483648 ≤ a ∧ a < 2147483648) (hb : -2147483648 ≤ b ∧ b < 2147483648) (kt : a < b → V p l e R s m args below meth c Q D A H0 nL cells slots ws lv tgt st) (kf : ¬ a < b → V p l e R s m args below meth c Q D A H0 nL cells slots ws lv pc' st) : V p l e R s m args below meth c Q D A H0 nL cells slots ws lv pc (.int (iI b) :: .int (iI a) :: st) := by
  subst hpc; exact fun H locs ls hP hD hS hl => lv_icmp_lt hC.1 hC.2.1 hdg ht (fun h => kt ((iI_lt ha hb).mp h) H locs ls hP hD hS hl) (fun h => kf (fun q => h ((iI_lt ha hb).mpr q)) H locs ls hP hD hS hl)
theorem v_icmp_ge (hC : v_C p s m args meth c own nm cc nL ret Ts D cs A H0) (tgt pc' : Nat) {a b off : Int} (hdg : decode cc pc = .ok (.if_icmp .ge off, 3)) (ht : (pc : Int) + off = (tgt : Int)) (hpc : pc + 3 = pc') (ha : -2147483648 ≤ a ∧ a < 2147483648) (hb : -2147483648 ≤ b ∧ b < 2147483648) (kt : b ≤ a → V p l e R s m args below meth c Q D A H0 nL cells slots ws lv tgt st) (kf : ¬ b ≤ a → V p l e R s m args below meth c Q D A H0 nL cells slots ws lv pc' st) : V p l e R s m args below meth c Q D A H0 nL cells slots ws lv pc (.int (iI b) :: .int (iI a) :: st) := by
  subst hpc; exact fun H locs ls hP hD hS hl => lv_icmp_ge hC.1 hC.2.1 hdg ht (fun h => kt ((iI_le hb ha).mp h) H locs ls hP hD hS hl) (fun h => kf (fun q => h ((iI_le hb ha).mpr q)) H locs ls hP hD hS hl)
theorem v_icmp_gt (hC : v_C p s m args meth c own nm cc nL ret Ts D cs A H0) (tgt pc' : Nat) {a b off : Int} (hdg : decode cc pc = .ok (.if_icmp .gt off, 3)) (ht : (pc : Int) + off = (tgt : Int)) (hpc : pc + 3 = pc') (ha : -2147483648 ≤ a ∧ a < 2147483648) (hb : -2147483648 ≤ b ∧ b < 2147483648) (kt : b < a → V p l e R s m args below meth c Q D A H0 nL cells slots ws lv tgt st) (kf : ¬ b < a → V p l e R s m args below meth c Q D A H0 nL cells slots ws lv pc' st) : V p l e R s m args below meth c Q D A H0 nL cells slots ws lv pc (.int (iI b) :: .int (iI a) :: st) := by
  subst hpc; exact fun H locs ls hP hD hS hl => lv_icmp_gt hC.1 hC.2.1 hdg ht (fun h => kt ((iI_lt hb ha).mp h) H locs ls hP hD hS hl) (fun h => kf (fun q => h ((iI_lt hb ha).mpr q)) H locs ls hP hD hS hl)
theorem v_icmp_le (hC : v_C p s m args meth c own nm cc nL ret Ts D cs A H0) (tgt pc' : Nat) {a b off : Int} (hdg : decode cc pc = .ok (.if_icmp .le off, 3)) (ht : (pc : Int) + off = (tgt : Int)) (hpc : pc + 3 = pc') (ha : -2147483648 ≤ a ∧ a < 2147483648) (hb : -2147483648 ≤ b ∧ b < 2147483648) (kt : a ≤ b → V p l e R s m args below meth c Q D A H0 nL cells slots ws lv tgt st) (kf : ¬ a ≤ b → V p l e R s m args below meth c Q D A H0 nL cells slots ws lv pc' st) : V p l e R s m args below meth c Q D A H0 nL cells slots ws lv pc (.int (iI b) :: .int (iI a) :: st) := by
  subst hpc; exact fun H locs ls hP hD hS hl => lv_icmp_le hC.1 hC.2.1 hdg ht (fun h => kt ((iI_le ha hb).mp h) H locs ls hP hD hS hl) (fun h => kf (fun q => h ((iI_le ha hb).mpr q)) H locs ls hP hD hS hl)
theorem v_if_eq (hC : v_C p s m args meth c own nm cc nL ret Ts D cs A H0) (tgt pc' : Nat) {a off : Int} (hdg : decode cc pc = .ok (.ifCond .eq off, 3)) (ht : (pc : Int) + off = (tgt : Int)) (hpc : pc + 3 = pc') (ha : -2147483648 ≤ a ∧ a < 2147483648) (kt : a = 0 → V p l e R s m args below meth c Q D A H0 nL cells slots ws lv tgt st) (kf : ¬ a = 0 → V p l e R s m args below meth c Q D A H0 nL cells slots ws lv pc' st) : V p l e R s m args below meth c Q D A H0 nL cells slots ws lv pc (.int (iI a) :: st) := by
  have h0 : -2147483648 ≤ (0 : Int) ∧ (0 : Int) < 2147483648 := by decide
  subst hpc; exact fun H locs ls hP hD hS hl => lv_if_eq hC.1 hC.2.1 hdg ht (fun h => kt ((iI_eq ha h0).mp h) H locs ls hP hD hS hl) (fun h => kf (fun q => h ((iI_eq ha h0).mpr q)) H locs ls hP hD hS hl)
theorem v_if_ne (hC : v_C p s m args meth c own nm cc nL ret Ts D cs A H0) (tgt pc' : Nat) {a off : Int} (hdg : decode cc pc = .ok (.ifCond .ne off, 3)) (ht : (pc : Int) + off = (tgt : Int)) (hpc : pc + 3 = pc') (ha : -2147483648 ≤ a ∧ a < 2147483648) (kt : ¬ a = 0 → V p l e R s m args below meth c Q D A H0 nL cells slots ws lv tgt st) (kf : a = 0 → V p l e R s m args below meth c Q D A H0 nL cells slots ws lv pc' st) : V p l e R s m args below meth c Q D A H0 nL cells slots ws lv pc (.int (iI a) :: st) := by
  have h0 : -2147483648 ≤ (0 : Int) ∧ (0 : Int) < 2147483648 := by decide
  subst hpc; exact fun H locs ls hP hD hS hl => lv_if_ne hC.1 hC.2.1 hdg ht (fun h => kt (fun q => h ((iI_eq ha h0).mpr q)) H locs ls hP hD hS hl) (fun h => kf ((iI_eq ha h0).mp h) H locs ls hP hD hS hl)
theorem v_if_lt (hC : v_C p s m args meth c own nm cc nL ret Ts D cs A H0) (tgt pc' : Nat) {a off : Int} (hdg : decode cc pc = .ok (.ifCond .lt off, 3)) (ht : (pc : Int) + off = (tgt : Int)) (hpc : pc + 3 = pc') (ha : -2147483648 ≤ a ∧ a < 2147483648) (kt : a < 0 → V p l e R s m args below meth c Q D A H0 nL cells slots ws lv tgt st) (kf : ¬ a < 0 → V p l e R s m args below meth c Q D A H0 nL cells slots ws lv pc' st) : V p l e R s m args below meth c Q D A H0 nL cells slots ws lv pc (.int (iI a) :: st) := by
  have h0 : -2147483648 ≤ (0 : Int) ∧ (0 : Int) < 2147483648 := by decide
  subst hpc; exact fun H locs ls hP hD hS hl => lv_if_lt hC.1 hC.2.1 hdg ht (fun h => kt ((iI_lt ha h0).mp h) H locs ls hP hD hS hl) (fun h => kf (fun q => h ((iI_lt ha h0).mpr q)) H locs ls hP hD hS hl)
theorem v_if_ge (hC : v_C p s m args meth c own nm cc nL ret Ts D cs A H0) (tgt pc' : Nat) {a off : Int} (hdg : decode cc pc = .ok (.ifCond .ge off, 3)) (ht : (pc : Int) + off = (tgt : Int)) (hpc : pc + 3 = pc') (ha : -2147483648 ≤ a ∧ a < 2147483648) (kt : 0 ≤ a → V p l e R s m args below meth c Q D A H0 nL cells slots ws lv tgt st) (kf : ¬ 0 ≤ a → V p l e R s m args below meth c Q D A H0 nL cells slots ws lv pc' st) : V p l e R s m args below meth c Q D A H0 nL cells slots ws lv pc (.int (iI a) :: st) := by
  have h0 : -2147483648 ≤ (0 : Int) ∧ (0 : Int) < 2147483648 := by decide
  subst hpc; exact fun H locs ls hP hD hS hl => lv_if_ge hC.1 hC.2.1 hdg ht (fun h => kt ((iI_le h0 ha).mp h) H locs ls hP hD hS hl) (fun h => kf (fun q => h ((iI_le h0 ha).mpr q)) H locs ls hP hD hS hl)
theorem v_if_gt (hC : v_C p s m args meth c own nm cc nL ret Ts D cs A H0) (tgt pc' : Nat) {a off : Int} (hdg : decode cc pc = .ok (.ifCond .gt off, 3)) (ht : (pc : Int) + off = (tgt : Int)) (hpc : pc + 3 = pc') (ha : -2147483648 ≤ a ∧ a < 2147483648) (kt : 0 < a → V p l e R s m args below meth c Q D A H0 nL cells slots ws lv tgt st) (kf : ¬ 0 < a → V p l e R s m args below meth c Q D A H0 nL cells slots ws lv pc' st) : V p l e R s m args below meth c Q D A H0 nL cells slots ws lv pc (.int (iI a) :: st) := by
  have h0 : -2147483648 ≤ (0 : Int) ∧ (0 : Int) < 2147483648 := by decide
  subst hpc; exact fun H locs ls hP hD hS hl => lv_if_gt hC.1 hC.2.1 hdg ht (fun h => kt ((iI_lt h0 ha).mp h) H locs ls hP hD hS hl) (fun h => kf (fun q => h ((iI_lt h0 ha).mpr q)) H locs ls hP hD hS hl)
theorem v_if_le (hC : v_C p s m args meth c own nm cc nL ret Ts D cs A H0) (tgt pc' : Nat) {a off : Int} (hdg : decode cc pc = .ok (.ifCond .le off, 3)) (ht : (pc : Int) + off = (tgt : Int)) (hpc : pc + 3 = pc') (ha : -2147483648 ≤ a ∧ a < 2147483648) (kt : a ≤ 0 → V p l e R s m args below meth c Q D A H0 nL cells slots ws lv tgt st) (kf : ¬ a ≤ 0 → V p l e R s m args below meth c Q D A H0 nL cells slots ws lv pc' st) : V p l e R s m args below meth c Q D A H0 nL cells slots ws lv pc (.int (iI a) :: st) := by
  have h0 : -2147483648 ≤ (0 : Int) ∧ (0 : Int) < 2147483648 := by decide
  subst hpc; exact fun H locs ls hP hD hS hl => lv_if_le hC.1 hC.2.1 hdg ht (fun h => kt ((iI_le ha h0).mp h) H locs ls hP hD hS hl) (fun h => kf (fun q => h ((iI_le ha h0).mpr q)) H locs ls hP hD hS hl)
theorem v_get (hC : v_C p s m args meth c own nm cc nL ret Ts D cs A H0) (pc' : Nat) (q0 k : Nat) {C : String} {T : u_T} {N ci index a : Nat} {fs : List Value} {v : Value} (hdg : decode cc pc = .ok (.getfield index, 3)) (hpc : pc + 3 = pc') (hin : ∀ w ∈ u_ws C T N, w ∈ Ts) (hlink : Cond.fieldLink own index (T k).1 (T k).2.1 (T k).2.2.1 ∈ Ts) (he : ws[q0]? = some (a, .inr (ci, fs))) (hc : vwCl[ci]? = some (C, T, N)) (hk : k < N) (hv : fs[k]? = some v) (kk : V p l e R s m args below meth c Q D A H0 nL cells slots ws lv pc' (v :: st)) : V p l e R s m args below meth c Q D A H0 nL cells slots ws lv pc (.ref a :: st) := by
  obtain ⟨hx, hb, hml, hown, hts, hr, hnm, hlk, hK, hN, hA⟩ := hC
  subst hpc; exact fun H locs ls hP hD hS hl => va_get hx hb hts hin hown hK hP q0 he hc k hk (hts _ hlink) (fun _ h => h) hv hdg (kk H locs ls hP hD hS hl)
theorem v_put (hC : v_C p s m args meth c own nm cc nL ret Ts D cs A H0) (pc' : Nat) (q0 k : Nat) (ws' : va_W) {C : String} {T : u_T} {N ci index a : Nat} {fs : List Value} {v : Value} {ty0 : Nat → FieldType} (hdg : decode cc pc = .ok (.putfield index, 3)) (hpc : pc + 3 = pc') (hin : ∀ w ∈ u_ws C T N, w ∈ Ts) (hty : ∀ k, k < N → parseFieldDescriptor (T k).2.2.1 = some (ty0 k)) (hnm9 : ∀ a, a < N → ∀ b, b < N → a ≠ b → (T a).2.1 ≠ (T b).2.1) (hlink : Cond.fieldLink own index (T k).1 (T k).2.1 (T k).2.2.1 ∈ Ts) (he : ws[q0]? = some (a, .inr (ci, fs))) (hc : vwCl[ci]? = some (C, T, N)) (hk : k < N) (hfin : (T k).2.2.2 = false) (hn : narrow (ty0 k) v = v) (hfit : fits (ty0 k) v = true) (hl9 : k < fs.length) (hws : ws.set q0 (a, .inr (ci, fs.set k v)) = ws') (kk : V p l e R s m args below meth c Q D A H0 nL cells slots ws' lv pc' st) : V p l e R s m args below meth c Q D A H0 nL cells slots ws lv pc (v :: .ref a :: st) := by
  obtain ⟨hx, hb, hml, hown, hts, hr, hnm, hlk, hK, hN, hA⟩ := hC
  subst hpc; subst hws; exact fun H locs ls hP hD hS hl => va_put hx hb hts hin ty0 hty hnm9 hown hK hP hD hS q0 he hc k hk (hts _ hlink) (fun _ h => h) hfin (hty k hk) hn hfit hl9 hdg (fun H locs hP hD hS => kk H locs ls hP hD hS hl)
theorem v_putF (hC : v_C p s m args meth c own nm cc nL ret Ts D cs A H0) (pc' : Nat) (q0 k : Nat) (ws' : va_W) {C : String} {T : u_T} {N ci index a : Nat} {fs : List Value} {v : Value} {ty0 : Nat → FieldType} (hdg : decode cc pc = .ok (.putfield index, 3)) (hpc : pc + 3 = pc') (hin : ∀ w ∈ u_ws C T N, w ∈ Ts) (hty : ∀ k, k < N → parseFieldDescriptor (T k).2.2.1 = some (ty0 k)) (hnm9 : ∀ a, a < N → ∀ b, b < N → a ≠ b → (T a).2.1 ≠ (T b).2.1) (hlink : Cond.fieldLink own index (T k).1 (T k).2.1 (T k).2.2.1 ∈ Ts) (he : ws[q0]? = some (a, .inr (ci, fs))) (hc : vwCl[ci]? = some (C, T, N)) (hk : k < N) (hfin : (T k).2.2.2 = true) (hi9 : nm = "<init>") (hdecl : (T k).1 = own) (hn : narrow (ty0 k) v = v) (hfit : fits (ty0 k) v = true) (hl9 : k < fs.length) (hws : ws.set q0 (a, .inr (ci, fs.set k v)) = ws') (kk : V p l e R s m args below meth c Q D A H0 nL cells slots ws' lv pc' st) : V p l e R s m args below meth c Q D A H0 nL cells slots ws lv pc (v :: .ref a :: st) := by
  obtain ⟨hx, hb, hml, hown, hts, hr, hnm, hlk, hK, hN, hA⟩ := hC
  subst hpc; subst hws; exact fun H locs ls hP hD hS hl => va_putF hx hb hts hin ty0 hty hnm9 hown hK hP hD hS q0 he hc k hk (hts _ hlink) (fun _ h => h) hfin (hnm.trans hi9) hdecl (hty k hk) hn hfit hl9 hdg (fun H locs hP hD hS => kk H locs ls hP hD hS hl)
theorem v_iald (hC : v_C p s m args meth c own nm cc nL ret Ts D cs A H0) (pc' : Nat) (q0 : Nat) {a n : Nat} {g : Int → Int} {z : Int} (hdg : decode cc pc = .ok (.iaload, 1)) (hpc : pc + 1 = pc') (ha : ws[q0]? = some (a, .inl (cs 0, n, .inl (aI g)))) (hn : n < 2147483648) (hz : 0 ≤ z ∧ z < (n : Int)) (kk : V p l e R s m args below meth c Q D A H0 nL cells slots ws lv pc' (.int (iI (g z)) :: st)) : V p l e R s m args below meth c Q D A H0 nL cells slots ws lv pc (.int (iI z) :: .ref a :: st) := by
  obtain ⟨hx, hb, hml, hown, hts, hr, hnm, hlk, hK, hN, hA⟩ := hC
  subst hpc; exact fun H locs ls hP hD hS hl => va_iald hx hb hK hP q0 0 ha rfl (iI_in hz hn) hdg (by rw [aI_get (by omega)]; exact kk H locs ls hP hD hS hl)
theorem v_zald (hC : v_C p s m args meth c own nm cc nL ret Ts D cs A H0) (pc' : Nat) (q0 : Nat) {a n : Nat} {g : Int → Int} {z : Int} (hdg : decode cc pc = .ok (.baload, 1)) (hpc : pc + 1 = pc') (ha : ws[q0]? = some (a, .inl (cs 1, n, .inl (aI g)))) (hn : n < 2147483648) (hz : 0 ≤ z ∧ z < (n : Int)) (kk : V p l e R s m args below meth c Q D A H0 nL cells slots ws lv pc' (.int (iI (g z)) :: st)) : V p l e R s m args below meth c Q D A H0 nL cells slots ws lv pc (.int (iI z) :: .ref a :: st) := by
  obtain ⟨hx, hb, hml, hown, hts, hr, hnm, hlk, hK, hN, hA⟩ := hC
  subst hpc; exact fun H locs ls hP hD hS hl => va_zald hx hb hK hP q0 1 ha rfl (iI_in hz hn) hdg (by rw [aI_get (by omega)]; exact kk H locs ls hP hD hS hl)
theorem v_lald (hC : v_C p s m args meth c own nm cc nL ret Ts D cs A H0) (pc' : Nat) (q0 : Nat) {a n : Nat} {g : Int → Int} {z : Int} (hdg : decode cc pc = .ok (.laload, 1)) (hpc : pc + 1 = pc') (ha : ws[q0]? = some (a, .inl (cs 2, n, .inr (.inl (bI g))))) (hn : n < 2147483648) (hz : 0 ≤ z ∧ z < (n : Int)) (kk : V p l e R s m args below meth c Q D A H0 nL cells slots ws lv pc' (.long (lI (g z)) :: st)) : V p l e R s m args below meth c Q D A H0 nL cells slots ws lv pc (.int (iI z) :: .ref a :: st) := by
  obtain ⟨hx, hb, hml, hown, hts, hr, hnm, hlk, hK, hN, hA⟩ := hC
  subst hpc; exact fun H locs ls hP hD hS hl => va_lald hx hb hK hP q0 2 ha rfl (iI_in hz hn) hdg (by rw [bI_get (by omega)]; exact kk H locs ls hP hD hS hl)
theorem v_iast (hC : v_C p s m args meth c own nm cc nL ret Ts D cs A H0) (pc' : Nat) (q0 : Nat) (ws' : va_W) {a n : Nat} {g : Int → Int} {z v : Int} (hdg : decode cc pc = .ok (.iastore, 1)) (hpc : pc + 1 = pc') (ha : ws[q0]? = some (a, .inl (cs 0, n, .inl (aI g)))) (hn : n < 2147483648) (hz : 0 ≤ z ∧ z < (n : Int)) (hws : ws.set q0 (a, .inl (cs 0, n, .inl (aI (uI g z v)))) = ws') (kk : V p l e R s m args below meth c Q D A H0 nL cells slots ws' lv pc' st) : V p l e R s m args below meth c Q D A H0 nL cells slots ws lv pc (.int (iI v) :: .int (iI z) :: .ref a :: st) := by
  obtain ⟨hx, hb, hml, hown, hts, hr, hnm, hlk, hK, hN, hA⟩ := hC
  subst hpc; subst hws; exact fun H locs ls hP hD hS hl => va_iast hx hb hK hP hD hS q0 0 ha rfl (iI_in hz hn) hdg (by rw [aI_upd (by omega)]; exact fun H locs hP hD hS => kk H locs ls hP hD hS hl)
theorem v_zast (hC : v_C p s m args meth c own nm cc nL ret Ts D cs A H0) (pc' : Nat) (q0 : Nat) (ws' : va_W) {a n : Nat} {g : Int → Int} {z v : Int} (hdg : decode cc pc = .ok (.bastore, 1)) (hpc : pc + 1 = pc') (ha : ws[q0]? = some (a, .inl (cs 1, n, .inl (aI g)))) (hn : n < 2147483648) (hz : 0 ≤ z ∧ z < (n : Int)) (h01 : v = 0 ∨ v = 1) (hws : ws.set q0 (a, .inl (cs 1, n, .inl (aI (uI g z v)))) = ws') (kk : V p l e R s m args below meth c Q D A H0 nL cells slots ws' lv pc' st) : V p l e R s m args below meth c Q D A H0 nL cells slots ws lv pc (.int (iI v) :: .int (iI z) :: .ref a :: st) := by
  obtain ⟨hx, hb, hml, hown, hts, hr, hnm, hlk, hK, hN, hA⟩ := hC
  subst hpc; subst hws; exact fun H locs ls hP hD hS hl => va_zast hx hb hK hP hD hS q0 1 ha rfl (iI_in hz hn) hdg (by rw [iI_nar01 h01, aI_upd (by omega)]; exact fun H locs hP hD hS => kk H locs ls hP hD hS hl)
theorem v_last (hC : v_C p s m args meth c own nm cc nL ret Ts D cs A H0) (pc' : Nat) (q0 : Nat) (ws' : va_W) {a n : Nat} {g : Int → Int} {z v : Int} (hdg : decode cc pc = .ok (.lastore, 1)) (hpc : pc + 1 = pc') (ha : ws[q0]? = some (a, .inl (cs 2, n, .inr (.inl (bI g))))) (hn : n < 2147483648) (hz : 0 ≤ z ∧ z < (n : Int)) (hws : ws.set q0 (a, .inl (cs 2, n, .inr (.inl (bI (uI g z v))))) = ws') (kk : V p l e R s m args below meth c Q D A H0 nL cells slots ws' lv pc' st) : V p l e R s m args below meth c Q D A H0 nL cells slots ws lv pc (.long (lI v) :: .int (iI z) :: .ref a :: st) := by
  obtain ⟨hx, hb, hml, hown, hts, hr, hnm, hlk, hK, hN, hA⟩ := hC
  subst hpc; subst hws; exact fun H locs ls hP hD hS hl => va_last hx hb hK hP hD hS q0 2 ha rfl (iI_in hz hn) hdg (by rw [bI_upd (by omega)]; exact fun H locs hP hD hS => kk H locs ls hP hD hS hl)
theorem v_alen (hC : v_C p s m args meth c own nm cc nL ret Ts D cs A H0) (pc' : Nat) (q0 : Nat) {a n : Nat} {g : Int → Int} (hdg : decode cc pc = .ok (.arraylength, 1)) (hpc : pc + 1 = pc') (ha : ws[q0]? = some (a, .inl (cs 0, n, .inl (aI g)))) (kk : V p l e R s m args below meth c Q D A H0 nL cells slots ws lv pc' (.int (iI n) :: st)) : V p l e R s m args below meth c Q D A H0 nL cells slots ws lv pc (.ref a :: st) := by
  obtain ⟨hx, hb, hml, hown, hts, hr, hnm, hlk, hK, hN, hA⟩ := hC
  subst hpc; exact fun H locs ls hP hD hS hl => va_alen hx hb hK hP q0 0 ha (ty := .int) rfl (v := iI n) iI_nat.symm hdg (kk H locs ls hP hD hS hl)
theorem v_sub (isW isL : List Nat) (ws' : va_W) (lv' : List (Nat × Value)) (hW : isW.map (fun i => ws[i]?) = ws'.map some) (hn : va_nd isW = true) (hL : lv_pick lv isL = lv') (kk : V p l e R s m args below meth c Q D A H0 nL cells slots ws' lv' pc st) : V p l e R s m args below meth c Q D A H0 nL cells slots ws lv pc st := by
  intro H locs ls hP hD hS hl
  refine kk H locs ls (hP.sub isW ?_) (hD.sub isW hn hW) hS (lv_sub hl isL hL)
  have h1 : (isW.map (fun i => ws[i]?)).filterMap id = (ws'.map some).filterMap id := by rw [hW]
  simpa [List.filterMap_map] using h1
theorem v_widen {cells' slots' : Nat} (h1 : cells ≤ cells') (h2 : slots ≤ slots') (kk : V p l e R s m args below meth c Q D A H0 nL cells' slots' ws lv pc st) : V p l e R s m args below meth c Q D A H0 nL cells slots ws lv pc st := fun H locs ls hP hD hS hl => W.widen h1 h2 (kk H locs ls hP hD hS hl)
end
end VK2
end
section
section VK3
/-- a callee's start: its cells, the tables, its cells apart -/
def cPre (D : va_G) (cs : Nat → ClassId) (wc : va_W) (sz : Nat) : State → Prop := fun U => U.heap.size = sz ∧ va_P D vwCl wc U.heap ∧ va_K D vwCl (ty3 cs) U ∧ NS U ∧ va_D (fun _ => True) wc
theorem cPre_blind {D : va_G} {cs : Nat → ClassId} {wc : va_W} {sz : Nat} {As : List Value} : FrameBlind (va_Pc As (cPre D cs wc sz)) := by
  intro a U g mk q
  obtain ⟨q0, q1, qP, qK, qN, qD⟩ := q
  exact ⟨q0, q1, qP, va_K.moved (u := U) (U := U.calling g mk a) (Vm.Alike.refl U.vm) qK, NS.same rfl qN, qD⟩
def Ri {S : Type} (D : va_G) (post : Int → S → Prop) (B : S → va_W) (A : Nat → Prop) : Array Value → State → Outcome → State → Prop := va_Qi (fun r u => ∃ z : Int, r = iI z ∧ post z u) (fun u t => va_P D vwCl (B u) t.heap ∧ va_D A (B u)) A
def Rv {S : Type} (D : va_G) (post : S → Prop) (B : S → va_W) (A : Nat → Prop) : Array Value → State → Outcome → State → Prop := va_Qv post (fun u t => va_P D vwCl (B u) t.heap ∧ va_D A (B u)) A
/-- contracts: an int (or boolean) answer; none -/
def Ci (l : Launch) (D : va_G) (cs : Nat → ClassId) (y : MethodName) (w : List Cond) (rm : Room) (As : List Value) (wc : va_W) {S : Type} (post : Int → S → Prop) (B : S → va_W) (mc ms : Nat) : Prop :=
  ∀ sz : Nat, Met l y w rm (va_Pc As (cPre D cs wc sz)) (Ri D post B (va_A wc sz)) mc ms (va_A wc sz)
def Cv (l : Launch) (D : va_G) (cs : Nat → ClassId) (y : MethodName) (w : List Cond) (rm : Room) (As : List Value) (wc : va_W) {S : Type} (post : S → Prop) (B : S → va_W) (mc ms : Nat) : Prop :=
  ∀ sz : Nat, Met l y w rm (va_Pc As (cPre D cs wc sz)) (Rv D post B (va_A wc sz)) mc ms (va_A wc sz)
theorem va_P_sub {D : va_G} {cl : List vw_C} {ws wc : va_W} {H : Heap} {is : List Nat} (hP : va_P D cl ws H) (h : is.map (fun i => ws[i]?) = wc.map some) : va_P D cl wc H := by
  refine hP.sub is ?_
  have h1 : (is.map (fun i => ws[i]?)).filterMap id = (wc.map some).filterMap id := by rw [h]
  simpa [List.filterMap_map] using h1
theorem Ci_of {l : Launch} {D : va_G} {cs : Nat → ClassId} {y : MethodName} {w w' : List Cond} {rm : Room} {As : List Value} {wc : va_W} {S : Type} {post : Int → S → Prop} {B : S → va_W} {mc ms : Nat} {cc : ByteArray} {nL : Nat} {ret : Option FieldType} (own nm : String) (hy : plainName y.cls = true ∧ y.cls = own ∧ y.name = nm) (hw : w = Cond.code y cc nL ret :: w') (hsl : (lg_sl As).length ≤ nL) {lv0 : List (Nat × Value)} (hlv : lv_args 0 As = lv0)
    (body : ∀ p e s m args below meth c A Q, Q = MQ below (Ri D post B A) args s mc ms A → v_C p s m args meth c own nm cc nL ret w D cs A s.heap → V p l e rm s m args below meth c Q D A s.heap nL 0 0 wc lv0 0 []) : Ci l D cs y w rm As wc post B mc ms := by
  intro sz
  refine Met.ofW (cc := cc) (maxL := nL) (ret := ret) hy.1 hw ?_
  intro p e s m args below meth c s₁ BB hml hv
  obtain ⟨rfl, hsz, hP, hK, hN, hD0⟩ := hv
  subst hsz
  have hts := atoms_spec (ws := w) BB.pre
  have hown : s.vm.findClass own = some m.cls := by rw [← hy.2.1]; exact findClass_of_methodNamed BB.named
  have hnm : meth.name = nm := by rw [← hy.2.2]; exact (name_of_methodNamed BB.named BB.method).1
  have h := body p e s m As.toArray below meth c (va_A wc s.heap.size) _ rfl ⟨BB.exec, BB.bytes, hml, hown, hts, BB.returns, hnm, BB.notSynchronized, hK, hN, fun q h => Or.inr h⟩
  rw [lg_entry_eq]
  subst hlv
  exact h s.heap [] _ hP (hD0.self (sz := s.heap.size)) va_S.rf (lv_entry As hsl)
theorem Cv_of {l : Launch} {D : va_G} {cs : Nat → ClassId} {y : MethodName} {w w' : List Cond} {rm : Room} {As : List Value} {wc : va_W} {S : Type} {post : S → Prop} {B : S → va_W} {mc ms : Nat} {cc : ByteArray} {nL : Nat} {ret : Option FieldType} (own nm : String) (hy : plainName y.cls = true ∧ y.cls = own ∧ y.name = nm) (hw : w = Cond.code y cc nL ret :: w') (hsl : (lg_sl As).length ≤ nL) {lv0 : List (Nat × Value)} (hlv : lv_args 0 As = lv0)
    (body : ∀ p e s m args below meth c A Q, Q = MQ below (Rv D post B A) args s mc ms A → v_C p s m args meth c own nm cc nL ret w D cs A s.heap → V p l e rm s m args below meth c Q D A s.heap nL 0 0 wc lv0 0 []) : Cv l D cs y w rm As wc post B mc ms := by
  intro sz
  refine Met.ofW (cc := cc) (maxL := nL) (ret := ret) hy.1 hw ?_
  intro p e s m args below meth c s₁ BB hml hv
  obtain ⟨rfl, hsz, hP, hK, hN, hD0⟩ := hv
  subst hsz
  have hts := atoms_spec (ws := w) BB.pre
  have hown : s.vm.findClass own = some m.cls := by rw [← hy.2.1]; exact findClass_of_methodNamed BB.named
  have hnm : meth.name = nm := by rw [← hy.2.2]; exact (name_of_methodNamed BB.named BB.method).1
  have h := body p e s m As.toArray below meth c (va_A wc s.heap.size) _ rfl ⟨BB.exec, BB.bytes, hml, hown, hts, BB.returns, hnm, BB.notSynchronized, hK, hN, fun q h => Or.inr h⟩
  rw [lg_entry_eq]
  subst hlv
  exact h s.heap [] _ hP (hD0.self (sz := s.heap.size)) va_S.rf (lv_entry As hsl)
section
variable {p : Program} {l : Launch} {e : Env} {R : Room} {s : State} {m : MethodId} {args : Array Value} {below : List Frame} {meth : Method} {c : Code} {Q : State → Prop} {D : va_G} {A : Nat → Prop} {H0 : Heap} {nL cells slots : Nat} {ws : va_W} {lv : List (Nat × Value)} {pc : Nat} {st : List Value} {own nm : String} {cc : ByteArray} {ret : Option FieldType} {Ts : List Cond} {cs : Nat → ClassId}
theorem v_iret {S : Type} {post : Int → S → Prop} {B : S → va_W} {mc ms : Nat} {z : Int} (hC : v_C p s m args meth c own nm cc nL (some .int) Ts D cs A s.heap) (hQ : Q = MQ below (Ri D post B A) args s mc ms A) (u : S) (is : List Nat) (hdg : decode cc pc = .ok (.ireturn, 1)) (hB : is.map (fun i => ws[i]?) = (B u).map some) (hnd : va_nd is = true) (hcs : cells ≤ mc ∧ slots ≤ ms) (hpost : post z u) : V p l e R s m args below meth c Q D A s.heap nL cells slots ws lv pc [.int (iI z)] := by
  obtain ⟨hx, hb, hml, hown, hts, hr, hnm, hlk, hK, hN, hA⟩ := hC
  subst hQ
  refine v_widen hcs.1 hcs.2 (fun H locs ls hP hD hS hl => ?_)
  exact W.iret hx hb hr (fun t ht hW => ⟨⟨iI z, u, rfl, ⟨z, rfl, hpost⟩, by rw [ht]; exact va_P_sub hP hB, hD.sub is hnd hB⟩, hS.F ht⟩) hS.2.2 hdg
theorem v_zret {S : Type} {post : Int → S → Prop} {B : S → va_W} {mc ms : Nat} {z : Int} (hC : v_C p s m args meth c own nm cc nL (some .boolean) Ts D cs A s.heap) (hQ : Q = MQ below (Ri D post B A) args s mc ms A) (u : S) (is : List Nat) (hdg : decode cc pc = .ok (.ireturn, 1)) (h01 : z = 0 ∨ z = 1) (hB : is.map (fun i => ws[i]?) = (B u).map some) (hnd : va_nd is = true) (hcs : cells ≤ mc ∧ slots ≤ ms) (hpost : post z u) : V p l e R s m args below meth c Q D A s.heap nL cells slots ws lv pc [.int (iI z)] := by
  obtain ⟨hx, hb, hml, hown, hts, hr, hnm, hlk, hK, hN, hA⟩ := hC
  subst hQ
  refine v_widen hcs.1 hcs.2 (fun H locs ls hP hD hS hl => ?_)
  exact W.zret hx hb hr (iI_01 h01) (fun t ht hW => ⟨⟨iI z, u, rfl, ⟨z, rfl, hpost⟩, by rw [ht]; exact va_P_sub hP hB, hD.sub is hnd hB⟩, hS.F ht⟩) hS.2.2 hdg
theorem v_vret {S : Type} {post : S → Prop} {B : S → va_W} {mc ms : Nat} (hC : v_C p s m args meth c own nm cc nL none Ts D cs A s.heap) (hQ : Q = MQ below (Rv D post B A) args s mc ms A) (u : S) (is : List Nat) (hdg : decode cc pc = .ok (.return_, 1)) (hB : is.map (fun i => ws[i]?) = (B u).map some) (hnd : va_nd is = true) (hcs : cells ≤ mc ∧ slots ≤ ms) (hpost : post u) : V p l e R s m args below meth c Q D A s.heap nL cells slots ws lv pc [] := by
  obtain ⟨hx, hb, hml, hown, hts, hr, hnm, hlk, hK, hN, hA⟩ := hC
  subst hQ
  refine v_widen hcs.1 hcs.2 (fun H locs ls hP hD hS hl => ?_)
  exact W.vret hx hb hr (fun t ht hW => ⟨⟨u, rfl, hpost, by rw [ht]; exact va_P_sub hP hB, hD.sub is hnd hB⟩, hS.F ht⟩) hS.2.2 hdg
theorem v_objInit (hC : v_C p s m args meth c own nm cc nL ret Ts D cs A H0) (pc' : Nat) {a idx : Nat} (hdg : decode cc pc = .ok (.invokespecial idx, 3)) (hpc : pc + 3 = pc') (hlink : Cond.methodLink own idx Lib.objectInit ∈ Ts) (hinst : Cond.instanceMethod Lib.objectInit ∈ Ts) (hcode : Cond.code Lib.objectInit ⟨#[0xb1]⟩ 1 none ∈ Ts) (hR : 1 ≤ R.frames ∧ (st.map fun v => v.category).sum + 12 ≤ R.locals) (kk : V p l e R s m args below meth c Q D A H0 nL cells slots ws lv pc' st) : V p l e R s m args below meth c Q D A H0 nL cells slots ws lv pc (.ref a :: st) := by
  obtain ⟨hx, hb, hml, hown, hts, hr, hnm, hlk, hK, hN, hA⟩ := hC
  subst hpc; exact fun H locs ls hP hD hS hl => W.objInit hx hb hown (hts _ hlink) (hts _ hinst) (hts _ hcode) rfl (by rw [hml]; exact hl.1) rfl hdg hR.1 (by show 2 * 0 + _ + 12 ≤ _; omega) (kk H locs ls hP hD hS hl)
theorem v_new (hC : v_C p s m args meth c own nm cc nL ret Ts D cs A H0) (pc' : Nat) {C : String} {T : u_T} {N ci index cells' slots' : Nat} {fs : List Value} {ty0 : Nat → FieldType} (hdg : decode cc pc = .ok (.new index, 3)) (hpc : pc + 3 = pc') (hin : ∀ w ∈ u_ws C T N, w ∈ Ts) (hty : ∀ k, k < N → parseFieldDescriptor (T k).2.2.1 = some (ty0 k)) (hlink : Cond.classLink own index C ∈ Ts) (hinst : Cond.instantiable C N ∈ Ts) (hini : Cond.initialized C ∈ Ts) (hc : vwCl[ci]? = some (C, T, N)) (hfs : ∀ j, j < N → defaultValue (ty0 j) = vp_V fs j) (hcs : cells + 1 = cells' ∧ slots + N = slots') (hR : cells' ≤ R.cells ∧ slots' ≤ R.slots) (kk : ∀ q : Nat, V p l e R s m args below meth c Q D A H0 nL cells' slots' (ws ++ [(q, .inr (ci, fs))]) lv pc' (.ref q :: st)) : V p l e R s m args below meth c Q D A H0 nL cells slots ws lv pc st := by
  obtain ⟨hx, hb, hml, hown, hts, hr, hnm, hlk, hK, hN, hA⟩ := hC
  obtain ⟨rfl, rfl⟩ := hcs
  subst hpc; exact fun H locs ls hP hD hS hl => va_new hx hb hts hin ty0 hty hown (hts _ hlink) (hts _ hinst) (hts _ hini) hK hP hD hS hA hc hfs hR.1 hR.2 hdg (fun q H hP hD hS => kk q H locs ls hP hD hS hl)
theorem v_newai (hC : v_C p s m args meth c own nm cc nL ret Ts D cs A H0) (pc' : Nat) {n : Nat} {cells' slots' : Nat} (hdg : decode cc pc = .ok (.newarray .int, 2)) (hpc : pc + 2 = pc') (harr : Cond.arrayClass .int ∈ Ts) (hn : n < 1000) (hcs : cells + 1 = cells' ∧ slots + n = slots') (hR : cells' ≤ R.cells ∧ slots' ≤ R.slots) (kk : ∀ q : Nat, V p l e R s m args below meth c Q D A H0 nL cells' slots' (ws ++ [(q, .inl (cs 0, n, .inl (aI (fun _ => 0))))]) lv pc' (.ref q :: st)) : V p l e R s m args below meth c Q D A H0 nL cells slots ws lv pc (.int (iI n) :: st) := by
  obtain ⟨hx, hb, hml, hown, hts, hr, hnm, hlk, hK, hN, hA⟩ := hC
  obtain ⟨rfl, rfl⟩ := hcs
  subst hpc; exact fun H locs ls hP hD hS hl => va_newa (atype := .int) hx hb (hts _ harr) rfl hK hP hD hS hA (a0 := (n, .inl (aI (fun _ => 0)))) (fun cA => rfl) (by rw [iI_0, iI_lt (by omega) (by omega)]; omega) (by rw [iI_clamp (by omega)]; omega) (by show n * 4 ≤ 536870912; omega) hR.1 hR.2 hdg (fun q cA H hK1 hP hD hS => by
    have h1 := (hK1.2 3 (cA, .int) rfl).2
    have h2 := (hK.2 0 (cs 0, .int) rfl).2
    have h3 : cA = cs 0 := Option.some.inj (h1.symm.trans h2)
    subst h3
    exact kk q H locs ls hP hD hS hl)
theorem v_newaz (hC : v_C p s m args meth c own nm cc nL ret Ts D cs A H0) (pc' : Nat) {n : Nat} {cells' slots' : Nat} (hdg : decode cc pc = .ok (.newarray .boolean, 2)) (hpc : pc + 2 = pc') (harr : Cond.arrayClass .boolean ∈ Ts) (hn : n < 1000) (hcs : cells + 1 = cells' ∧ slots + n = slots') (hR : cells' ≤ R.cells ∧ slots' ≤ R.slots) (kk : ∀ q : Nat, V p l e R s m args below meth c Q D A H0 nL cells' slots' (ws ++ [(q, .inl (cs 1, n, .inl (aI (fun _ => 0))))]) lv pc' (.ref q :: st)) : V p l e R s m args below meth c Q D A H0 nL cells slots ws lv pc (.int (iI n) :: st) := by
  obtain ⟨hx, hb, hml, hown, hts, hr, hnm, hlk, hK, hN, hA⟩ := hC
  obtain ⟨rfl, rfl⟩ := hcs
  subst hpc; exact fun H locs ls hP hD hS hl => va_newa (atype := .boolean) hx hb (hts _ harr) rfl hK hP hD hS hA (a0 := (n, .inl (aI (fun _ => 0)))) (fun cA => rfl) (by rw [iI_0, iI_lt (by omega) (by omega)]; omega) (by rw [iI_clamp (by omega)]; omega) (by show n * 1 ≤ 536870912; omega) hR.1 hR.2 hdg (fun q cA H hK1 hP hD hS => by
    have h1 := (hK1.2 3 (cA, .boolean) rfl).2
    have h2 := (hK.2 1 (cs 1, .boolean) rfl).2
    have h3 : cA = cs 1 := Option.some.inj (h1.symm.trans h2)
    subst h3
    exact kk q H locs ls hP hD hS hl)
theorem v_mmax (hC : v_C p s m args meth c own nm cc nL ret Ts D cs A H0) (pc' : Nat) {a b : Int} {index : Nat} (hdg : decode cc pc = .ok (.invokestatic index, 3)) (hpc : pc + 3 = pc') (hlink : Cond.methodLink own index Lib.Math.max.name ∈ Ts) (hstat : Cond.static Lib.Math.max.name ∈ Ts) (hini : Cond.initialized "java/lang/Math" ∈ Ts) (hcode : Cond.code Lib.Math.max.name Lib.Math.max.code 2 (some .int) ∈ Ts) (hR : 1 ≤ R.frames ∧ (st.map fun v => v.category).sum + 13 ≤ R.locals ∧ cells ≤ R.cells ∧ slots ≤ R.slots) (ha : -2147483648 ≤ a ∧ a < 2147483648) (hb9 : -2147483648 ≤ b ∧ b < 2147483648) (kk : V p l e R s m args below meth c Q D A H0 nL cells slots ws lv pc' (.int (iI (max a b)) :: st)) : V p l e R s m args below meth c Q D A H0 nL cells slots ws lv pc (.int (iI b) :: .int (iI a) :: st) := by
  obtain ⟨hx, hb, hml, hown, hts, hr, hnm, hlk, hK, hN, hA⟩ := hC
  subst hpc
  intro H locs ls hP hD hS hl
  have he : (if iI a < iI b then iI b else iI a) = iI (max a b) := by
    by_cases h : a < b
    · rw [if_pos (((iI_lt ha hb9)).mpr h)]; congr 1; omega
    · rw [if_neg (fun q => h (((iI_lt ha hb9)).mp q))]; congr 1; omega
  refine va_mmax hx hb (by rw [hml]; exact hl.1.symm) hown (hts _ hlink) (hts _ hstat) (hts _ hini) (hts _ hcode) hR.1 hR.2.1 hR.2.2.1 hR.2.2.2 hdg ?_
  rw [he]
  exact kk H locs ls hP hD hS hl
theorem v_mmin (hC : v_C p s m args meth c own nm cc nL ret Ts D cs A H0) (pc' : Nat) {a b : Int} {index : Nat} (hdg : decode cc pc = .ok (.invokestatic index, 3)) (hpc : pc + 3 = pc') (hlink : Cond.methodLink own index Lib.Math.min.name ∈ Ts) (hstat : Cond.static Lib.Math.min.name ∈ Ts) (hini : Cond.initialized "java/lang/Math" ∈ Ts) (hcode : Cond.code Lib.Math.min.name Lib.Math.min.code 2 (some .int) ∈ Ts) (hR : 1 ≤ R.frames ∧ (st.map fun v => v.category).sum + 13 ≤ R.locals ∧ cells ≤ R.cells ∧ slots ≤ R.slots) (ha : -2147483648 ≤ a ∧ a < 2147483648) (hb9 : -2147483648 ≤ b ∧ b < 2147483648) (kk : V p l e R s m args below meth c Q D A H0 nL cells slots ws lv pc' (.int (iI (min a b)) :: st)) : V p l e R s m args below meth c Q D A H0 nL cells slots ws lv pc (.int (iI b) :: .int (iI a) :: st) := by
  obtain ⟨hx, hb, hml, hown, hts, hr, hnm, hlk, hK, hN, hA⟩ := hC
  subst hpc
  intro H locs ls hP hD hS hl
  have he : (if iI b < iI a then iI b else iI a) = iI (min a b) := by
    by_cases h : b < a
    · rw [if_pos (((iI_lt hb9 ha)).mpr h)]; congr 1; omega
    · rw [if_neg (fun q => h (((iI_lt hb9 ha)).mp q))]; congr 1; omega
  refine va_mmin hx hb (by rw [hml]; exact hl.1.symm) hown (hts _ hlink) (hts _ hstat) (hts _ hini) (hts _ hcode) hR.1 hR.2.1 hR.2.2.1 hR.2.2.2 hdg ?_
  rw [he]
  exact kk H locs ls hP hD hS hl
theorem cPre_in {isC : List Nat} {wc : va_W} {As : List Value} {H : Heap} (hK : va_K D vwCl (ty3 cs) s) (hN : NS s) (hP : va_P D vwCl ws H) (hD : va_D A ws) (hCm : isC.map (fun i => ws[i]?) = wc.map some) (hnC : va_nd isC = true) : ∀ U : State, U.heap = H → s.WarmedH U.vm → va_Pc As (cPre D cs wc H.size) As.toArray U :=
  fun U hU hW => ⟨rfl, by rw [hU], by rw [hU]; exact va_P_sub hP hCm, va_K.moved hW.alike hK, hN.warm hW, (hD.sub isC hnC hCm).weaken (fun _ _ _ _ => trivial)⟩
theorem v_callVi (hC : v_C p s m args meth c own nm cc nL ret Ts D cs A H0) (pc' : Nat) (n : Nat) (isC isR : List Nat) (wr : va_W) {S : Type} {post : Int → S → Prop} {B : S → va_W} {mc ms maxL index : Nat} {y : MethodName} {bytes : ByteArray} {ret' : Option FieldType} {w w' : List Cond} {rm : Room} {b : Nat} {As rest : List Value} {wc : va_W} {cells' slots' : Nat} (hM : Ci l D cs y w rm (.ref b :: As) wc post B mc ms) (hdg : decode cc pc = .ok (.invokevirtual index, 3)) (hpc : pc + 3 = pc') (hst : st = As.reverse ++ .ref b :: rest) (q0 : Nat) {C : String} {T : u_T} {N ci : Nat} {fs : List Value} (he : ws[q0]? = some (b, .inr (ci, fs))) (hc : vwCl[ci]? = some (C, T, N)) (hg : GoodIn Ts (wsV own index C y w)) (hw : w = Cond.code y bytes maxL ret' :: w') (hrc : rm.cells = mc) (hrs : rm.slots = ms) (hd : y.cls = C ∧ y.cls ≠ "java/lang/invoke/MethodHandle" ∧ y.cls ≠ "java/lang/invoke/VarHandle" ∧ (parseMethodDescriptor y.desc).map (fun d => d.parameters.length) = some n) (hR : rm.frames + 1 ≤ R.frames ∧ 8 + (maxL + 11) + rm.locals ≤ R.locals) (hCm : isC.map (fun i => ws[i]?) = wc.map some) (hRm : isR.map (fun i => ws[i]?) = wr.map some) (hnC : va_nd isC = true) (hnR : va_nd isR = true) (hdis : ∀ i ∈ isR, i ∉ isC) (hAs : As.length = n) (hcat : (rest.map fun v => v.category).sum ≤ 8) (hcs : cells + mc = cells' ∧ slots + ms = slots') (hf : cells' ≤ R.cells ∧ slots' ≤ R.slots) (kk : ∀ (z : Int) (u : S), post z u → V p l e R s m args below meth c Q D A H0 nL cells' slots' (wr ++ B u) lv pc' (.int (iI z) :: rest)) : V p l e R s m args below meth c Q D A H0 nL cells slots ws lv pc st := by
  obtain ⟨hx, hb, hml, hown, hts, hr, hnm, hlk, hK, hN, hA⟩ := hC
  obtain ⟨rfl, rfl⟩ := hcs
  subst hst
  subst hpc
  intro H locs ls hP hD hS hl
  have hFc := va_free (wc := wc) hD hS hA isC hCm
  refine va_calli (va_runV (As := As) (rest := rest) ⟨hx, hb, hml, hown, hts⟩ (hM H.size) (cwV n hts hg hw hrc hrs hd hR) ⟨cPre_blind, va_recv hK hP hc he, cPre_in hK hN hP hD hCm hnC⟩ rfl hAs hl.1 rfl (lv_room hcat) hdg hf) hS (fun q _ h => hFc q h) hFc (fun r u t H1 locs ht hvm hw9 hB hz1 hk1 hS => ?_)
  obtain ⟨z, rfl, hz⟩ := hw9
  obtain ⟨hP1, hD1⟩ := hB
  rw [ht] at hP1
  obtain ⟨hP2, hD2⟩ := va_join (wr := wr) (w1 := B u) hP hD isC isR hCm hRm hnR hdis hk1 hFc hP1 hD1
  exact kk z u hz H1 locs ls hP2 hD2 hS hl
theorem v_callVv (hC : v_C p s m args meth c own nm cc nL ret Ts D cs A H0) (pc' : Nat) (n : Nat) (isC isR : List Nat) (wr : va_W) {S : Type} {post : S → Prop} {B : S → va_W} {mc ms maxL index : Nat} {y : MethodName} {bytes : ByteArray} {ret' : Option FieldType} {w w' : List Cond} {rm : Room} {b : Nat} {As rest : List Value} {wc : va_W} {cells' slots' : Nat} (hM : Cv l D cs y w rm (.ref b :: As) wc post B mc ms) (hdg : decode cc pc = .ok (.invokevirtual index, 3)) (hpc : pc + 3 = pc') (hst : st = As.reverse ++ .ref b :: rest) (q0 : Nat) {C : String} {T : u_T} {N ci : Nat} {fs : List Value} (he : ws[q0]? = some (b, .inr (ci, fs))) (hc : vwCl[ci]? = some (C, T, N)) (hg : GoodIn Ts (wsV own index C y w)) (hw : w = Cond.code y bytes maxL ret' :: w') (hrc : rm.cells = mc) (hrs : rm.slots = ms) (hd : y.cls = C ∧ y.cls ≠ "java/lang/invoke/MethodHandle" ∧ y.cls ≠ "java/lang/invoke/VarHandle" ∧ (parseMethodDescriptor y.desc).map (fun d => d.parameters.length) = some n) (hR : rm.frames + 1 ≤ R.frames ∧ 8 + (maxL + 11) + rm.locals ≤ R.locals) (hCm : isC.map (fun i => ws[i]?) = wc.map some) (hRm : isR.map (fun i => ws[i]?) = wr.map some) (hnC : va_nd isC = true) (hnR : va_nd isR = true) (hdis : ∀ i ∈ isR, i ∉ isC) (hAs : As.length = n) (hcat : (rest.map fun v => v.category).sum ≤ 8) (hcs : cells + mc = cells' ∧ slots + ms = slots') (hf : cells' ≤ R.cells ∧ slots' ≤ R.slots) (kk : ∀ (u : S), post u → V p l e R s m args below meth c Q D A H0 nL cells' slots' (wr ++ B u) lv pc' rest) : V p l e R s m args below meth c Q D A H0 nL cells slots ws lv pc st := by
  obtain ⟨hx, hb, hml, hown, hts, hr, hnm, hlk, hK, hN, hA⟩ := hC
  obtain ⟨rfl, rfl⟩ := hcs
  subst hst
  subst hpc
  intro H locs ls hP hD hS hl
  have hFc := va_free (wc := wc) hD hS hA isC hCm
  refine va_callv (va_runV (As := As) (rest := rest) ⟨hx, hb, hml, hown, hts⟩ (hM H.size) (cwV n hts hg hw hrc hrs hd hR) ⟨cPre_blind, va_recv hK hP hc he, cPre_in hK hN hP hD hCm hnC⟩ rfl hAs hl.1 rfl (lv_room hcat) hdg hf) hS (fun q _ h => hFc q h) hFc (fun u t H1 locs ht hvm hz hB hz1 hk1 hS => ?_)
  obtain ⟨hP1, hD1⟩ := hB
  rw [ht] at hP1
  obtain ⟨hP2, hD2⟩ := va_join (wr := wr) (w1 := B u) hP hD isC isR hCm hRm hnR hdis hk1 hFc hP1 hD1
  exact kk u hz H1 locs ls hP2 hD2 hS hl
theorem v_callSi (hC : v_C p s m args meth c own nm cc nL ret Ts D cs A H0) (pc' : Nat) (n : Nat) (isC isR : List Nat) (wr : va_W) {S : Type} {post : Int → S → Prop} {B : S → va_W} {mc ms maxL index : Nat} {y : MethodName} {bytes : ByteArray} {ret' : Option FieldType} {w w' : List Cond} {rm : Room} {As rest : List Value} {wc : va_W} {cells' slots' : Nat} (hM : Ci l D cs y w rm As wc post B mc ms) (hdg : decode cc pc = .ok (.invokestatic index, 3)) (hpc : pc + 3 = pc') (hst : st = As.reverse ++ rest) (hg : GoodIn Ts (va_wsS own index y w)) (hw : w = Cond.code y bytes maxL ret' :: w') (hrc : rm.cells = mc) (hrs : rm.slots = ms) (hd : y.cls ≠ "java/lang/invoke/MethodHandle" ∧ y.cls ≠ "java/lang/invoke/VarHandle" ∧ (parseMethodDescriptor y.desc).map (fun d => d.parameters.length) = some n) (hR : rm.frames + 1 ≤ R.frames ∧ 8 + (maxL + 11) + rm.locals ≤ R.locals) (hCm : isC.map (fun i => ws[i]?) = wc.map some) (hRm : isR.map (fun i => ws[i]?) = wr.map some) (hnC : va_nd isC = true) (hnR : va_nd isR = true) (hdis : ∀ i ∈ isR, i ∉ isC) (hAs : As.length = n) (hcat : (rest.map fun v => v.category).sum ≤ 8) (hcs : cells + mc = cells' ∧ slots + ms = slots') (hf : cells' ≤ R.cells ∧ slots' ≤ R.slots) (kk : ∀ (z : Int) (u : S), post z u → V p l e R s m args below meth c Q D A H0 nL cells' slots' (wr ++ B u) lv pc' (.int (iI z) :: rest)) : V p l e R s m args below meth c Q D A H0 nL cells slots ws lv pc st := by
  obtain ⟨hx, hb, hml, hown, hts, hr, hnm, hlk, hK, hN, hA⟩ := hC
  obtain ⟨rfl, rfl⟩ := hcs
  subst hst
  subst hpc
  intro H locs ls hP hD hS hl
  have hFc := va_free (wc := wc) hD hS hA isC hCm
  refine va_calli (va_runS (As := As) (rest := rest) ⟨hx, hb, hml, hown, hts⟩ (hM H.size) (va_cwS n hts hg hw hrc hrs hd hR) ⟨cPre_blind, cPre_in hK hN hP hD hCm hnC⟩ rfl hAs hl.1 rfl (lv_room hcat) hdg hf) hS (fun q _ h => hFc q h) hFc (fun r u t H1 locs ht hvm hw9 hB hz1 hk1 hS => ?_)
  obtain ⟨z, rfl, hz⟩ := hw9
  obtain ⟨hP1, hD1⟩ := hB
  rw [ht] at hP1
  obtain ⟨hP2, hD2⟩ := va_join (wr := wr) (w1 := B u) hP hD isC isR hCm hRm hnR hdis hk1 hFc hP1 hD1
  exact kk z u hz H1 locs ls hP2 hD2 hS hl
theorem v_callSv (hC : v_C p s m args meth c own nm cc nL ret Ts D cs A H0) (pc' : Nat) (n : Nat) (isC isR : List Nat) (wr : va_W) {S : Type} {post : S → Prop} {B : S → va_W} {mc ms maxL index : Nat} {y : MethodName} {bytes : ByteArray} {ret' : Option FieldType} {w w' : List Cond} {rm : Room} {As rest : List Value} {wc : va_W} {cells' slots' : Nat} (hM : Cv l D cs y w rm As wc post B mc ms) (hdg : decode cc pc = .ok (.invokestatic index, 3)) (hpc : pc + 3 = pc') (hst : st = As.reverse ++ rest) (hg : GoodIn Ts (va_wsS own index y w)) (hw : w = Cond.code y bytes maxL ret' :: w') (hrc : rm.cells = mc) (hrs : rm.slots = ms) (hd : y.cls ≠ "java/lang/invoke/MethodHandle" ∧ y.cls ≠ "java/lang/invoke/VarHandle" ∧ (parseMethodDescriptor y.desc).map (fun d => d.parameters.length) = some n) (hR : rm.frames + 1 ≤ R.frames ∧ 8 + (maxL + 11) + rm.locals ≤ R.locals) (hCm : isC.map (fun i => ws[i]?) = wc.map some) (hRm : isR.map (fun i => ws[i]?) = wr.map some) (hnC : va_nd isC = true) (hnR : va_nd isR = true) (hdis : ∀ i ∈ isR, i ∉ isC) (hAs : As.length = n) (hcat : (rest.map fun v => v.category).sum ≤ 8) (hcs : cells + mc = cells' ∧ slots + ms = slots') (hf : cells' ≤ R.cells ∧ slots' ≤ R.slots) (kk : ∀ (u : S), post u → V p l e R s m args below meth c Q D A H0 nL cells' slots' (wr ++ B u) lv pc' rest) : V p l e R s m args below meth c Q D A H0 nL cells slots ws lv pc st := by
  obtain ⟨hx, hb, hml, hown, hts, hr, hnm, hlk, hK, hN, hA⟩ := hC
  obtain ⟨rfl, rfl⟩ := hcs
  subst hst
  subst hpc
  intro H locs ls hP hD hS hl
  have hFc := va_free (wc := wc) hD hS hA isC hCm
  refine va_callv (va_runS (As := As) (rest := rest) ⟨hx, hb, hml, hown, hts⟩ (hM H.size) (va_cwS n hts hg hw hrc hrs hd hR) ⟨cPre_blind, cPre_in hK hN hP hD hCm hnC⟩ rfl hAs hl.1 rfl (lv_room hcat) hdg hf) hS (fun q _ h => hFc q h) hFc (fun u t H1 locs ht hvm hz hB hz1 hk1 hS => ?_)
  obtain ⟨hP1, hD1⟩ := hB
  rw [ht] at hP1
  obtain ⟨hP2, hD2⟩ := va_join (wr := wr) (w1 := B u) hP hD isC isR hCm hRm hnR hdis hk1 hFc hP1 hD1
  exact kk u hz H1 locs ls hP2 hD2 hS hl
theorem v_callSNi (hC : v_C p s m args meth c own nm cc nL ret Ts D cs A H0) (pc' : Nat) (n : Nat) (isC isR : List Nat) (wr : va_W) {S : Type} {post : Int → S → Prop} {B : S → va_W} {mc ms maxL index : Nat} {y : MethodName} {bytes : ByteArray} {ret' : Option FieldType} {w w' : List Cond} {rm : Room} {As rest : List Value} {wc : va_W} {cells' slots' : Nat} (hM : Ci l D cs y w rm As wc post B mc ms) (hdg : decode cc pc = .ok (.invokestatic index, 3)) (hpc : pc + 3 = pc') (hst : st = As.reverse ++ rest) (hg : GoodIn Ts w) (hini : Cond.initialized y.cls ∈ Ts) (hstat : Cond.static y ∈ Ts) (host : String) (hnest : (own, index, y, host) ∈ nstW) (hw : w = Cond.code y bytes maxL ret' :: w') (hrc : rm.cells = mc) (hrs : rm.slots = ms) (hd : y.cls ≠ "java/lang/invoke/MethodHandle" ∧ y.cls ≠ "java/lang/invoke/VarHandle" ∧ (parseMethodDescriptor y.desc).map (fun d => d.parameters.length) = some n) (hR : rm.frames + 1 ≤ R.frames ∧ 8 + (maxL + 11) + rm.locals ≤ R.locals) (hCm : isC.map (fun i => ws[i]?) = wc.map some) (hRm : isR.map (fun i => ws[i]?) = wr.map some) (hnC : va_nd isC = true) (hnR : va_nd isR = true) (hdis : ∀ i ∈ isR, i ∉ isC) (hAs : As.length = n) (hcat : (rest.map fun v => v.category).sum ≤ 8) (hcs : cells + mc = cells' ∧ slots + ms = slots') (hf : cells' ≤ R.cells ∧ slots' ≤ R.slots) (kk : ∀ (z : Int) (u : S), post z u → V p l e R s m args below meth c Q D A H0 nL cells' slots' (wr ++ B u) lv pc' (.int (iI z) :: rest)) : V p l e R s m args below meth c Q D A H0 nL cells slots ws lv pc st := by
  obtain ⟨hx, hb, hml, hown, hts, hr, hnm, hlk, hK, hN, hA⟩ := hC
  obtain ⟨rfl, rfl⟩ := hcs
  subst hst
  subst hpc
  intro H locs ls hP hD hS hl
  have hFc := va_free (wc := wc) hD hS hA isC hCm
  refine va_calli (va_runSN (As := As) (rest := rest) ⟨hx, hb, hml, hown, hts⟩ (hM H.size) (⟨va_cnB n hts hg hw hrc hrs (hN _ hnest) (hts _ hini) hd hR, hts _ hstat, trivial⟩) ⟨cPre_blind, cPre_in hK hN hP hD hCm hnC⟩ rfl hAs hl.1 rfl (lv_room hcat) hdg hf) hS (fun q _ h => hFc q h) hFc (fun r u t H1 locs ht hvm hw9 hB hz1 hk1 hS => ?_)
  obtain ⟨z, rfl, hz⟩ := hw9
  obtain ⟨hP1, hD1⟩ := hB
  rw [ht] at hP1
  obtain ⟨hP2, hD2⟩ := va_join (wr := wr) (w1 := B u) hP hD isC isR hCm hRm hnR hdis hk1 hFc hP1 hD1
  exact kk z u hz H1 locs ls hP2 hD2 hS hl
theorem v_callIv (hC : v_C p s m args meth c own nm cc nL ret Ts D cs A H0) (pc' : Nat) (n : Nat) (isC isR : List Nat) (wr : va_W) {S : Type} {post : S → Prop} {B : S → va_W} {mc ms maxL index : Nat} {y : MethodName} {bytes : ByteArray} {ret' : Option FieldType} {w w' : List Cond} {rm : Room} {b : Nat} {As rest : List Value} {wc : va_W} {cells' slots' : Nat} (hM : Cv l D cs y w rm (.ref b :: As) wc post B mc ms) (hdg : decode cc pc = .ok (.invokespecial index, 3)) (hpc : pc + 3 = pc') (hst : st = As.reverse ++ .ref b :: rest) (hg : GoodIn Ts w) (hini : Cond.initialized y.cls ∈ Ts) (hlink : Cond.methodLink own index y ∈ Ts) (hinm : Cond.instanceMethod y ∈ Ts) (hy1 : y.name = "<init>") (hw : w = Cond.code y bytes maxL none :: w') (hrc : rm.cells = mc) (hrs : rm.slots = ms) (hd : y.cls ≠ "java/lang/invoke/MethodHandle" ∧ y.cls ≠ "java/lang/invoke/VarHandle" ∧ (parseMethodDescriptor y.desc).map (fun d => d.parameters.length) = some n) (hR : rm.frames + 1 ≤ R.frames ∧ 8 + (maxL + 11) + rm.locals ≤ R.locals) (hCm : isC.map (fun i => ws[i]?) = wc.map some) (hRm : isR.map (fun i => ws[i]?) = wr.map some) (hnC : va_nd isC = true) (hnR : va_nd isR = true) (hdis : ∀ i ∈ isR, i ∉ isC) (hAs : As.length = n) (hcat : (rest.map fun v => v.category).sum ≤ 8) (hcs : cells + mc = cells' ∧ slots + ms = slots') (hf : cells' ≤ R.cells ∧ slots' ≤ R.slots) (kk : ∀ (u : S), post u → V p l e R s m args below meth c Q D A H0 nL cells' slots' (wr ++ B u) lv pc' rest) : V p l e R s m args below meth c Q D A H0 nL cells slots ws lv pc st := by
  obtain ⟨hx, hb, hml, hown, hts, hr, hnm, hlk, hK, hN, hA⟩ := hC
  obtain ⟨rfl, rfl⟩ := hcs
  subst hst
  subst hpc
  intro H locs ls hP hD hS hl
  have hFc := va_free (wc := wc) hD hS hA isC hCm
  refine va_callv (va_runI (As := As) (rest := rest) ⟨hx, hb, hml, hown, hts⟩ (hM H.size) (cwI n hts hg hw hrc hrs (hts _ hini) (hts _ hlink) (hts _ hinm) hy1 hd hR) ⟨cPre_blind, cPre_in hK hN hP hD hCm hnC⟩ rfl hAs hl.1 rfl (lv_room hcat) hdg hf) hS (fun q _ h => hFc q h) hFc (fun u t H1 locs ht hvm hz hB hz1 hk1 hS => ?_)
  obtain ⟨hP1, hD1⟩ := hB
  rw [ht] at hP1
  obtain ⟨hP2, hD2⟩ := va_join (wr := wr) (w1 := B u) hP hD isC isR hCm hRm hnR hdis hk1 hFc hP1 hD1
  exact kk u hz H1 locs ls hP2 hD2 hS hl
theorem v_callINv (hC : v_C p s m args meth c own nm cc nL ret Ts D cs A H0) (pc' : Nat) (n : Nat) (isC isR : List Nat) (wr : va_W) {S : Type} {post : S → Prop} {B : S → va_W} {mc ms maxL index : Nat} {y : MethodName} {bytes : ByteArray} {ret' : Option FieldType} {w w' : List Cond} {rm : Room} {b : Nat} {As rest : List Value} {wc : va_W} {cells' slots' : Nat} (hM : Cv l D cs y w rm (.ref b :: As) wc post B mc ms) (hdg : decode cc pc = .ok (.invokespecial index, 3)) (hpc : pc + 3 = pc') (hst : st = As.reverse ++ .ref b :: rest) (hg : GoodIn Ts w) (hini : Cond.initialized y.cls ∈ Ts) (hinm : Cond.instanceMethod y ∈ Ts) (hy1 : y.name = "<init>") (host : String) (hnest : (own, index, y, host) ∈ nstW) (hw : w = Cond.code y bytes maxL none :: w') (hrc : rm.cells = mc) (hrs : rm.slots = ms) (hd : y.cls ≠ "java/lang/invoke/MethodHandle" ∧ y.cls ≠ "java/lang/invoke/VarHandle" ∧ (parseMethodDescriptor y.desc).map (fun d => d.parameters.length) = some n) (hR : rm.frames + 1 ≤ R.frames ∧ 8 + (maxL + 11) + rm.locals ≤ R.locals) (hCm : isC.map (fun i => ws[i]?) = wc.map some) (hRm : isR.map (fun i => ws[i]?) = wr.map some) (hnC : va_nd isC = true) (hnR : va_nd isR = true) (hdis : ∀ i ∈ isR, i ∉ isC) (hAs : As.length = n) (hcat : (rest.map fun v => v.category).sum ≤ 8) (hcs : cells + mc = cells' ∧ slots + ms = slots') (hf : cells' ≤ R.cells ∧ slots' ≤ R.slots) (kk : ∀ (u : S), post u → V p l e R s m args below meth c Q D A H0 nL cells' slots' (wr ++ B u) lv pc' rest) : V p l e R s m args below meth c Q D A H0 nL cells slots ws lv pc st := by
  obtain ⟨hx, hb, hml, hown, hts, hr, hnm, hlk, hK, hN, hA⟩ := hC
  obtain ⟨rfl, rfl⟩ := hcs
  subst hst
  subst hpc
  intro H locs ls hP hD hS hl
  have hFc := va_free (wc := wc) hD hS hA isC hCm
  refine va_callv (va_runIN (As := As) (rest := rest) ⟨hx, hb, hml, hown, hts⟩ (hM H.size) (⟨va_cnB n hts hg hw hrc hrs (hN _ hnest) (hts _ hini) hd hR, hy1, hts _ hinm⟩) ⟨cPre_blind, cPre_in hK hN hP hD hCm hnC⟩ rfl hAs hl.1 rfl (lv_room hcat) hdg hf) hS (fun q _ h => hFc q h) hFc (fun u t H1 locs ht hvm hz hB hz1 hk1 hS => ?_)
  obtain ⟨hP1, hD1⟩ := hB
  rw [ht] at hP1
  obtain ⟨hP2, hD2⟩ := va_join (wr := wr) (w1 := B u) hP hD isC isR hCm hRm hnR hdis hk1 hFc hP1 hD1
  exact kk u hz H1 locs ls hP2 hD2 hS hl
end
end VK3
end
section
theorem dX0_init_0 : decode cX0_init 0 = .ok (.aload_n 0, 1) := by decide +kernel
theorem dX0_init_1 : decode cX0_init 1 = .ok (.invokespecial 3, 3) := by decide +kernel
theorem dX0_init_4 : decode cX0_init 4 = .ok (.aload_n 0, 1) := by decide +kernel
theorem dX0_init_5 : decode cX0_init 5 = .ok (.bipush 96, 2) := by decide +kernel
theorem dX0_init_7 : decode cX0_init 7 = .ok (.newarray .boolean, 2) := by decide +kernel
theorem dX0_init_9 : decode cX0_init 9 = .ok (.putfield 9, 3) := by decide +kernel
theorem dX0_init_12 : decode cX0_init 12 = .ok (.aload_n 0, 1) := by decide +kernel
theorem dX0_init_13 : decode cX0_init 13 = .ok (.bipush 96, 2) := by decide +kernel
theorem dX0_init_15 : decode cX0_init 15 = .ok (.newarray .boolean, 2) := by decide +kernel
theorem dX0_init_17 : decode cX0_init 17 = .ok (.putfield 15, 3) := by decide +kernel
theorem dX0_init_20 : decode cX0_init 20 = .ok (.aload_n 0, 1) := by decide +kernel
theorem dX0_init_21 : decode cX0_init 21 = .ok (.iconst 0, 1) := by decide +kernel
theorem dX0_init_22 : decode cX0_init 22 = .ok (.putfield 18, 3) := by decide +kernel
theorem dX0_init_25 : decode cX0_init 25 = .ok (.return_, 1) := by decide +kernel
set_option maxRecDepth 20000 in
theorem ggX0_setPillar_X7_isCell : GoodIn wsX0_setPillar wsX7_isCell := goodIn_r _ [4] (by decide +kernel) (by decide +kernel)
set_option maxRecDepth 20000 in
theorem gX0_setPillar_X7_isCell_n22 : GoodIn wsX0_setPillar (wsX7_isCell) := ggX0_setPillar_X7_isCell
set_option maxRecDepth 20000 in
theorem ggX0_setPillar_X7_cellAt : GoodIn wsX0_setPillar wsX7_cellAt := goodIn_r _ [6] (by decide +kernel) (by decide +kernel)
set_option maxRecDepth 20000 in
theorem gX0_setPillar_X7_cellAt_n26 : GoodIn wsX0_setPillar (wsX7_cellAt) := ggX0_setPillar_X7_cellAt
theorem dX0_setPillar_0 : decode cX0_setPillar 0 = .ok (.iload_n 1, 1) := by decide +kernel
theorem dX0_setPillar_1 : decode cX0_setPillar 1 = .ok (.iload_n 2, 1) := by decide +kernel
theorem dX0_setPillar_2 : decode cX0_setPillar 2 = .ok (.invokestatic 22, 3) := by decide +kernel
theorem dX0_setPillar_5 : decode cX0_setPillar 5 = .ok (.ifCond .ne 5, 3) := by decide +kernel
theorem dX0_setPillar_8 : decode cX0_setPillar 8 = .ok (.iconst 0, 1) := by decide +kernel
theorem dX0_setPillar_9 : decode cX0_setPillar 9 = .ok (.ireturn, 1) := by decide +kernel
theorem dX0_setPillar_10 : decode cX0_setPillar 10 = .ok (.aload_n 0, 1) := by decide +kernel
theorem dX0_setPillar_11 : decode cX0_setPillar 11 = .ok (.getfield 9, 3) := by decide +kernel
theorem dX0_setPillar_14 : decode cX0_setPillar 14 = .ok (.iload_n 1, 1) := by decide +kernel
theorem dX0_setPillar_15 : decode cX0_setPillar 15 = .ok (.iload_n 2, 1) := by decide +kernel
theorem dX0_setPillar_16 : decode cX0_setPillar 16 = .ok (.invokestatic 26, 3) := by decide +kernel
theorem dX0_setPillar_19 : decode cX0_setPillar 19 = .ok (.baload, 1) := by decide +kernel
theorem dX0_setPillar_20 : decode cX0_setPillar 20 = .ok (.istore 4, 2) := by decide +kernel
theorem dX0_setPillar_22 : decode cX0_setPillar 22 = .ok (.aload_n 0, 1) := by decide +kernel
theorem dX0_setPillar_23 : decode cX0_setPillar 23 = .ok (.getfield 9, 3) := by decide +kernel
theorem dX0_setPillar_26 : decode cX0_setPillar 26 = .ok (.iload_n 1, 1) := by decide +kernel
theorem dX0_setPillar_27 : decode cX0_setPillar 27 = .ok (.iload_n 2, 1) := by decide +kernel
theorem dX0_setPillar_28 : decode cX0_setPillar 28 = .ok (.invokestatic 26, 3) := by decide +kernel
theorem dX0_setPillar_31 : decode cX0_setPillar 31 = .ok (.iload_n 3, 1) := by decide +kernel
theorem dX0_setPillar_32 : decode cX0_setPillar 32 = .ok (.bastore, 1) := by decide +kernel
theorem dX0_setPillar_33 : decode cX0_setPillar 33 = .ok (.iload 4, 2) := by decide +kernel
theorem dX0_setPillar_35 : decode cX0_setPillar 35 = .ok (.ireturn, 1) := by decide +kernel
set_option maxRecDepth 20000 in
theorem ggX0_areAt_X7_isCell : GoodIn wsX0_areAt wsX7_isCell := goodIn_r _ [4] (by decide +kernel) (by decide +kernel)
set_option maxRecDepth 20000 in
theorem gX0_areAt_X7_isCell_n22 : GoodIn wsX0_areAt (wsX7_isCell) := ggX0_areAt_X7_isCell
set_option maxRecDepth 20000 in
theorem ggX0_areAt_X7_cellAt : GoodIn wsX0_areAt wsX7_cellAt := goodIn_r _ [6] (by decide +kernel) (by decide +kernel)
set_option maxRecDepth 20000 in
theorem gX0_areAt_X7_cellAt_n26 : GoodIn wsX0_areAt (wsX7_cellAt) := ggX0_areAt_X7_cellAt
theorem dX0_areAt_0 : decode cX0_areAt 0 = .ok (.iload_n 1, 1) := by decide +kernel
theorem dX0_areAt_1 : decode cX0_areAt 1 = .ok (.iload_n 2, 1) := by decide +kernel
theorem dX0_areAt_2 : decode cX0_areAt 2 = .ok (.invokestatic 22, 3) := by decide +kernel
theorem dX0_areAt_5 : decode cX0_areAt 5 = .ok (.ifCond .eq 20, 3) := by decide +kernel
theorem dX0_areAt_8 : decode cX0_areAt 8 = .ok (.aload_n 0, 1) := by decide +kernel
theorem dX0_areAt_9 : decode cX0_areAt 9 = .ok (.getfield 15, 3) := by decide +kernel
theorem dX0_areAt_12 : decode cX0_areAt 12 = .ok (.iload_n 1, 1) := by decide +kernel
theorem dX0_areAt_13 : decode cX0_areAt 13 = .ok (.iload_n 2, 1) := by decide +kernel
theorem dX0_areAt_14 : decode cX0_areAt 14 = .ok (.invokestatic 26, 3) := by decide +kernel
theorem dX0_areAt_17 : decode cX0_areAt 17 = .ok (.baload, 1) := by decide +kernel
theorem dX0_areAt_18 : decode cX0_areAt 18 = .ok (.ifCond .eq 7, 3) := by decide +kernel
theorem dX0_areAt_21 : decode cX0_areAt 21 = .ok (.iconst 1, 1) := by decide +kernel
theorem dX0_areAt_22 : decode cX0_areAt 22 = .ok (.goto 4, 3) := by decide +kernel
theorem dX0_areAt_25 : decode cX0_areAt 25 = .ok (.iconst 0, 1) := by decide +kernel
theorem dX0_areAt_26 : decode cX0_areAt 26 = .ok (.ireturn, 1) := by decide +kernel
set_option maxRecDepth 20000 in
theorem ggX0_renew_X3_stripOfRow : GoodIn wsX0_renew wsX3_stripOfRow := goodIn_r _ [5, 6, 7, 8, 9, 4, 10, 11, 12, 13, 14, 15, 16, 17, 18, 19, 20, 21, 22, 45, 46, 47, 48] (by decide +kernel) (by decide +kernel)
set_option maxRecDepth 20000 in
theorem gX0_renew_X3_stripOfRow : GoodIn wsX0_renew (wsV RX0 30 RX3 yX3_stripOfRow wsX3_stripOfRow) := goodIn_app (goodIn_of _ (by decide +kernel)) ggX0_renew_X3_stripOfRow
set_option maxRecDepth 20000 in
theorem ggX0_renew_X6_isLaid : GoodIn wsX0_renew wsX6_isLaid := goodIn_r _ [27, 28, 49, 50, 51, 52, 53] (by decide +kernel) (by decide +kernel)
set_option maxRecDepth 20000 in
theorem gX0_renew_X6_isLaid : GoodIn wsX0_renew (wsV RX0 36 RX6 yX6_isLaid wsX6_isLaid) := goodIn_app (goodIn_of _ (by decide +kernel)) ggX0_renew_X6_isLaid
set_option maxRecDepth 20000 in
theorem ggX0_renew_X0_renewRow : GoodIn wsX0_renew wsX0_renewRow := goodIn_r _ [33, 34, 35, 36, 21, 37, 38, 39, 40, 41, 42, 32, 43, 44, 54, 55, 56] (by decide +kernel) (by decide +kernel)
set_option maxRecDepth 20000 in
theorem gX0_renew_X0_renewRow : GoodIn wsX0_renew (wsV RX0 42 RX0 yX0_renewRow wsX0_renewRow) := goodIn_app (goodIn_of _ (by decide +kernel)) ggX0_renew_X0_renewRow
theorem dX0_renew_0 : decode cX0_renew 0 = .ok (.iconst 0, 1) := by decide +kernel
theorem dX0_renew_1 : decode cX0_renew 1 = .ok (.istore_n 3, 1) := by decide +kernel
theorem dX0_renew_2 : decode cX0_renew 2 = .ok (.iload_n 3, 1) := by decide +kernel
theorem dX0_renew_3 : decode cX0_renew 3 = .ok (.bipush 8, 2) := by decide +kernel
theorem dX0_renew_5 : decode cX0_renew 5 = .ok (.if_icmp .ge 26, 3) := by decide +kernel
theorem dX0_renew_8 : decode cX0_renew 8 = .ok (.aload_n 2, 1) := by decide +kernel
theorem dX0_renew_9 : decode cX0_renew 9 = .ok (.aload_n 1, 1) := by decide +kernel
theorem dX0_renew_10 : decode cX0_renew 10 = .ok (.iload_n 3, 1) := by decide +kernel
theorem dX0_renew_11 : decode cX0_renew 11 = .ok (.invokevirtual 30, 3) := by decide +kernel
theorem dX0_renew_14 : decode cX0_renew 14 = .ok (.invokevirtual 36, 3) := by decide +kernel
theorem dX0_renew_17 : decode cX0_renew 17 = .ok (.ifCond .ne 8, 3) := by decide +kernel
theorem dX0_renew_20 : decode cX0_renew 20 = .ok (.aload_n 0, 1) := by decide +kernel
theorem dX0_renew_21 : decode cX0_renew 21 = .ok (.iload_n 3, 1) := by decide +kernel
theorem dX0_renew_22 : decode cX0_renew 22 = .ok (.invokevirtual 42, 3) := by decide +kernel
theorem dX0_renew_25 : decode cX0_renew 25 = .ok (.iinc 3 1, 3) := by decide +kernel
theorem dX0_renew_28 : decode cX0_renew 28 = .ok (.goto (-26), 3) := by decide +kernel
theorem dX0_renew_31 : decode cX0_renew 31 = .ok (.return_, 1) := by decide +kernel
set_option maxRecDepth 20000 in
theorem ggX0_renewRow_X7_isCell : GoodIn wsX0_renewRow wsX7_isCell := goodIn_r _ [5] (by decide +kernel) (by decide +kernel)
set_option maxRecDepth 20000 in
theorem gX0_renewRow_X7_isCell_n22 : GoodIn wsX0_renewRow (wsX7_isCell) := ggX0_renewRow_X7_isCell
set_option maxRecDepth 20000 in
theorem ggX0_renewRow_X7_cellAt : GoodIn wsX0_renewRow wsX7_cellAt := goodIn_r _ [7] (by decide +kernel) (by decide +kernel)
set_option maxRecDepth 20000 in
theorem gX0_renewRow_X7_cellAt_n26 : GoodIn wsX0_renewRow (wsX7_cellAt) := ggX0_renewRow_X7_cellAt
set_option maxRecDepth 20000 in
theorem ggX0_renewRow_X0_isDoor : GoodIn wsX0_renewRow wsX0_isDoor := goodIn_r _ [12, 13, 14, 15, 16] (by decide +kernel) (by decide +kernel)
set_option maxRecDepth 20000 in
theorem gX0_renewRow_X0_isDoor : GoodIn wsX0_renewRow (wsV RX0 46 RX0 yX0_isDoor wsX0_isDoor) := goodIn_app (goodIn_of _ (by decide +kernel)) ggX0_renewRow_X0_isDoor
theorem dX0_renewRow_0 : decode cX0_renewRow 0 = .ok (.iconst 0, 1) := by decide +kernel
theorem dX0_renewRow_1 : decode cX0_renewRow 1 = .ok (.istore_n 2, 1) := by decide +kernel
theorem dX0_renewRow_2 : decode cX0_renewRow 2 = .ok (.iload_n 2, 1) := by decide +kernel
theorem dX0_renewRow_3 : decode cX0_renewRow 3 = .ok (.bipush 12, 2) := by decide +kernel
theorem dX0_renewRow_5 : decode cX0_renewRow 5 = .ok (.if_icmp .ge 52, 3) := by decide +kernel
theorem dX0_renewRow_8 : decode cX0_renewRow 8 = .ok (.iload_n 2, 1) := by decide +kernel
theorem dX0_renewRow_9 : decode cX0_renewRow 9 = .ok (.iload_n 1, 1) := by decide +kernel
theorem dX0_renewRow_10 : decode cX0_renewRow 10 = .ok (.invokestatic 22, 3) := by decide +kernel
theorem dX0_renewRow_13 : decode cX0_renewRow 13 = .ok (.ifCond .eq 38, 3) := by decide +kernel
theorem dX0_renewRow_16 : decode cX0_renewRow 16 = .ok (.iload_n 2, 1) := by decide +kernel
theorem dX0_renewRow_17 : decode cX0_renewRow 17 = .ok (.iload_n 1, 1) := by decide +kernel
theorem dX0_renewRow_18 : decode cX0_renewRow 18 = .ok (.invokestatic 26, 3) := by decide +kernel
theorem dX0_renewRow_21 : decode cX0_renewRow 21 = .ok (.istore_n 3, 1) := by decide +kernel
theorem dX0_renewRow_22 : decode cX0_renewRow 22 = .ok (.aload_n 0, 1) := by decide +kernel
theorem dX0_renewRow_23 : decode cX0_renewRow 23 = .ok (.getfield 15, 3) := by decide +kernel
theorem dX0_renewRow_26 : decode cX0_renewRow 26 = .ok (.iload_n 3, 1) := by decide +kernel
theorem dX0_renewRow_27 : decode cX0_renewRow 27 = .ok (.aload_n 0, 1) := by decide +kernel
theorem dX0_renewRow_28 : decode cX0_renewRow 28 = .ok (.getfield 9, 3) := by decide +kernel
theorem dX0_renewRow_31 : decode cX0_renewRow 31 = .ok (.iload_n 3, 1) := by decide +kernel
theorem dX0_renewRow_32 : decode cX0_renewRow 32 = .ok (.baload, 1) := by decide +kernel
theorem dX0_renewRow_33 : decode cX0_renewRow 33 = .ok (.ifCond .ne 12, 3) := by decide +kernel
theorem dX0_renewRow_36 : decode cX0_renewRow 36 = .ok (.aload_n 0, 1) := by decide +kernel
theorem dX0_renewRow_37 : decode cX0_renewRow 37 = .ok (.iload_n 2, 1) := by decide +kernel
theorem dX0_renewRow_38 : decode cX0_renewRow 38 = .ok (.iload_n 1, 1) := by decide +kernel
theorem dX0_renewRow_39 : decode cX0_renewRow 39 = .ok (.invokevirtual 46, 3) := by decide +kernel
theorem dX0_renewRow_42 : decode cX0_renewRow 42 = .ok (.ifCond .eq 7, 3) := by decide +kernel
theorem dX0_renewRow_45 : decode cX0_renewRow 45 = .ok (.iconst 1, 1) := by decide +kernel
theorem dX0_renewRow_46 : decode cX0_renewRow 46 = .ok (.goto 4, 3) := by decide +kernel
theorem dX0_renewRow_49 : decode cX0_renewRow 49 = .ok (.iconst 0, 1) := by decide +kernel
theorem dX0_renewRow_50 : decode cX0_renewRow 50 = .ok (.bastore, 1) := by decide +kernel
theorem dX0_renewRow_51 : decode cX0_renewRow 51 = .ok (.iinc 2 1, 3) := by decide +kernel
theorem dX0_renewRow_54 : decode cX0_renewRow 54 = .ok (.goto (-52), 3) := by decide +kernel
theorem dX0_renewRow_57 : decode cX0_renewRow 57 = .ok (.return_, 1) := by decide +kernel
theorem dX0_isDoor_0 : decode cX0_isDoor 0 = .ok (.iload_n 2, 1) := by decide +kernel
theorem dX0_isDoor_1 : decode cX0_isDoor 1 = .ok (.ifCond .ne 25, 3) := by decide +kernel
theorem dX0_isDoor_4 : decode cX0_isDoor 4 = .ok (.iload_n 1, 1) := by decide +kernel
theorem dX0_isDoor_5 : decode cX0_isDoor 5 = .ok (.aload_n 0, 1) := by decide +kernel
theorem dX0_isDoor_6 : decode cX0_isDoor 6 = .ok (.getfield 18, 3) := by decide +kernel
theorem dX0_isDoor_9 : decode cX0_isDoor 9 = .ok (.if_icmp .lt 17, 3) := by decide +kernel
theorem dX0_isDoor_12 : decode cX0_isDoor 12 = .ok (.iload_n 1, 1) := by decide +kernel
theorem dX0_isDoor_13 : decode cX0_isDoor 13 = .ok (.aload_n 0, 1) := by decide +kernel
theorem dX0_isDoor_14 : decode cX0_isDoor 14 = .ok (.getfield 18, 3) := by decide +kernel
theorem dX0_isDoor_17 : decode cX0_isDoor 17 = .ok (.iconst 2, 1) := by decide +kernel
theorem dX0_isDoor_18 : decode cX0_isDoor 18 = .ok (.iadd, 1) := by decide +kernel
theorem dX0_isDoor_19 : decode cX0_isDoor 19 = .ok (.if_icmp .ge 7, 3) := by decide +kernel
theorem dX0_isDoor_22 : decode cX0_isDoor 22 = .ok (.iconst 1, 1) := by decide +kernel
theorem dX0_isDoor_23 : decode cX0_isDoor 23 = .ok (.goto 4, 3) := by decide +kernel
theorem dX0_isDoor_26 : decode cX0_isDoor 26 = .ok (.iconst 0, 1) := by decide +kernel
theorem dX0_isDoor_27 : decode cX0_isDoor 27 = .ok (.ireturn, 1) := by decide +kernel
theorem dX1_init_0 : decode cX1_init 0 = .ok (.aload_n 0, 1) := by decide +kernel
theorem dX1_init_1 : decode cX1_init 1 = .ok (.invokespecial 3, 3) := by decide +kernel
theorem dX1_init_4 : decode cX1_init 4 = .ok (.aload_n 0, 1) := by decide +kernel
theorem dX1_init_5 : decode cX1_init 5 = .ok (.iconst 0, 1) := by decide +kernel
theorem dX1_init_6 : decode cX1_init 6 = .ok (.putfield 9, 3) := by decide +kernel
theorem dX1_init_9 : decode cX1_init 9 = .ok (.aload_n 0, 1) := by decide +kernel
theorem dX1_init_10 : decode cX1_init 10 = .ok (.bipush 96, 2) := by decide +kernel
theorem dX1_init_12 : decode cX1_init 12 = .ok (.newarray .int, 2) := by decide +kernel
theorem dX1_init_14 : decode cX1_init 14 = .ok (.putfield 15, 3) := by decide +kernel
theorem dX1_init_17 : decode cX1_init 17 = .ok (.aload_n 0, 1) := by decide +kernel
theorem dX1_init_18 : decode cX1_init 18 = .ok (.iconst 0, 1) := by decide +kernel
theorem dX1_init_19 : decode cX1_init 19 = .ok (.putfield 19, 3) := by decide +kernel
theorem dX1_init_22 : decode cX1_init 22 = .ok (.aload_n 0, 1) := by decide +kernel
theorem dX1_init_23 : decode cX1_init 23 = .ok (.bipush 96, 2) := by decide +kernel
theorem dX1_init_25 : decode cX1_init 25 = .ok (.newarray .int, 2) := by decide +kernel
theorem dX1_init_27 : decode cX1_init 27 = .ok (.putfield 22, 3) := by decide +kernel
theorem dX1_init_30 : decode cX1_init 30 = .ok (.aload_n 0, 1) := by decide +kernel
theorem dX1_init_31 : decode cX1_init 31 = .ok (.bipush 96, 2) := by decide +kernel
theorem dX1_init_33 : decode cX1_init 33 = .ok (.newarray .int, 2) := by decide +kernel
theorem dX1_init_35 : decode cX1_init 35 = .ok (.putfield 25, 3) := by decide +kernel
theorem dX1_init_38 : decode cX1_init 38 = .ok (.aload_n 0, 1) := by decide +kernel
theorem dX1_init_39 : decode cX1_init 39 = .ok (.bipush 96, 2) := by decide +kernel
theorem dX1_init_41 : decode cX1_init 41 = .ok (.newarray .int, 2) := by decide +kernel
theorem dX1_init_43 : decode cX1_init 43 = .ok (.putfield 28, 3) := by decide +kernel
theorem dX1_init_46 : decode cX1_init 46 = .ok (.return_, 1) := by decide +kernel
set_option maxRecDepth 20000 in
theorem ggX1_sizeOfRest_X1_hasRest : GoodIn wsX1_sizeOfRest wsX1_hasRest := goodIn_r _ [7, 8, 9, 10, 11, 12, 13, 14] (by decide +kernel) (by decide +kernel)
set_option maxRecDepth 20000 in
theorem gX1_sizeOfRest_X1_hasRest : GoodIn wsX1_sizeOfRest (wsV RX1 31 RX1 yX1_hasRest wsX1_hasRest) := goodIn_app (goodIn_of _ (by decide +kernel)) ggX1_sizeOfRest_X1_hasRest
theorem dX1_sizeOfRest_0 : decode cX1_sizeOfRest 0 = .ok (.aload_n 0, 1) := by decide +kernel
theorem dX1_sizeOfRest_1 : decode cX1_sizeOfRest 1 = .ok (.iload_n 1, 1) := by decide +kernel
theorem dX1_sizeOfRest_2 : decode cX1_sizeOfRest 2 = .ok (.invokevirtual 31, 3) := by decide +kernel
theorem dX1_sizeOfRest_5 : decode cX1_sizeOfRest 5 = .ok (.ifCond .eq 22, 3) := by decide +kernel
theorem dX1_sizeOfRest_8 : decode cX1_sizeOfRest 8 = .ok (.bipush 10, 2) := by decide +kernel
theorem dX1_sizeOfRest_10 : decode cX1_sizeOfRest 10 = .ok (.aload_n 0, 1) := by decide +kernel
theorem dX1_sizeOfRest_11 : decode cX1_sizeOfRest 11 = .ok (.getfield 22, 3) := by decide +kernel
theorem dX1_sizeOfRest_14 : decode cX1_sizeOfRest 14 = .ok (.iload_n 1, 1) := by decide +kernel
theorem dX1_sizeOfRest_15 : decode cX1_sizeOfRest 15 = .ok (.iaload, 1) := by decide +kernel
theorem dX1_sizeOfRest_16 : decode cX1_sizeOfRest 16 = .ok (.imul, 1) := by decide +kernel
theorem dX1_sizeOfRest_17 : decode cX1_sizeOfRest 17 = .ok (.aload_n 0, 1) := by decide +kernel
theorem dX1_sizeOfRest_18 : decode cX1_sizeOfRest 18 = .ok (.getfield 25, 3) := by decide +kernel
theorem dX1_sizeOfRest_21 : decode cX1_sizeOfRest 21 = .ok (.iload_n 1, 1) := by decide +kernel
theorem dX1_sizeOfRest_22 : decode cX1_sizeOfRest 22 = .ok (.iaload, 1) := by decide +kernel
theorem dX1_sizeOfRest_23 : decode cX1_sizeOfRest 23 = .ok (.iadd, 1) := by decide +kernel
theorem dX1_sizeOfRest_24 : decode cX1_sizeOfRest 24 = .ok (.goto 4, 3) := by decide +kernel
theorem dX1_sizeOfRest_27 : decode cX1_sizeOfRest 27 = .ok (.iconst (-1), 1) := by decide +kernel
theorem dX1_sizeOfRest_28 : decode cX1_sizeOfRest 28 = .ok (.ireturn, 1) := by decide +kernel
set_option maxRecDepth 20000 in
theorem ggX1_cutAll_J7_fill_53178 : GoodIn wsX1_cutAll wsJ7_fill_53178 := goodIn_r _ [10] (by decide +kernel) (by decide +kernel)
set_option maxRecDepth 20000 in
theorem gX1_cutAll_J7_fill_53178 : GoodIn wsX1_cutAll (va_wsS RX1 35 yJ7_fill_53178 wsJ7_fill_53178) := goodIn_app (goodIn_of _ (by decide +kernel)) ggX1_cutAll_J7_fill_53178
set_option maxRecDepth 20000 in
theorem ggX1_cutAll_X4_has : GoodIn wsX1_cutAll wsX4_has := goodIn_r _ [15, 16, 53, 54, 55, 56, 57, 58, 59, 60, 61] (by decide +kernel) (by decide +kernel)
set_option maxRecDepth 20000 in
theorem gX1_cutAll_X4_has : GoodIn wsX1_cutAll (wsV RX1 41 RX4 yX4_has wsX4_has) := goodIn_app (goodIn_of _ (by decide +kernel)) ggX1_cutAll_X4_has
set_option maxRecDepth 20000 in
theorem ggX1_cutAll_X1_cut : GoodIn wsX1_cutAll wsX1_cut := goodIn_r _ [21, 1, 22, 23, 24, 25, 3, 26, 27, 28, 29, 20, 30, 2, 31, 32, 33, 34, 35, 36, 37, 38, 39, 40, 41, 42, 43, 44, 45, 46, 47, 48, 49, 50, 51, 52, 62, 63, 64, 65] (by decide +kernel) (by decide +kernel)
set_option maxRecDepth 20000 in
theorem gX1_cutAll_X1_cut : GoodIn wsX1_cutAll (wsV RX1 55 RX1 yX1_cut wsX1_cut) := goodIn_app (goodIn_of _ (by decide +kernel)) ggX1_cutAll_X1_cut
theorem dX1_cutAll_0 : decode cX1_cutAll 0 = .ok (.aload_n 0, 1) := by decide +kernel
theorem dX1_cutAll_1 : decode cX1_cutAll 1 = .ok (.iconst 0, 1) := by decide +kernel
theorem dX1_cutAll_2 : decode cX1_cutAll 2 = .ok (.putfield 9, 3) := by decide +kernel
theorem dX1_cutAll_5 : decode cX1_cutAll 5 = .ok (.aload_n 0, 1) := by decide +kernel
theorem dX1_cutAll_6 : decode cX1_cutAll 6 = .ok (.iconst 0, 1) := by decide +kernel
theorem dX1_cutAll_7 : decode cX1_cutAll 7 = .ok (.putfield 19, 3) := by decide +kernel
theorem dX1_cutAll_10 : decode cX1_cutAll 10 = .ok (.aload_n 0, 1) := by decide +kernel
theorem dX1_cutAll_11 : decode cX1_cutAll 11 = .ok (.getfield 15, 3) := by decide +kernel
theorem dX1_cutAll_14 : decode cX1_cutAll 14 = .ok (.iconst (-1), 1) := by decide +kernel
theorem dX1_cutAll_15 : decode cX1_cutAll 15 = .ok (.invokestatic 35, 3) := by decide +kernel
theorem dX1_cutAll_18 : decode cX1_cutAll 18 = .ok (.iconst 0, 1) := by decide +kernel
theorem dX1_cutAll_19 : decode cX1_cutAll 19 = .ok (.istore_n 3, 1) := by decide +kernel
theorem dX1_cutAll_20 : decode cX1_cutAll 20 = .ok (.iload_n 3, 1) := by decide +kernel
theorem dX1_cutAll_21 : decode cX1_cutAll 21 = .ok (.bipush 96, 2) := by decide +kernel
theorem dX1_cutAll_23 : decode cX1_cutAll 23 = .ok (.if_icmp .ge 70, 3) := by decide +kernel
theorem dX1_cutAll_26 : decode cX1_cutAll 26 = .ok (.aload_n 2, 1) := by decide +kernel
theorem dX1_cutAll_27 : decode cX1_cutAll 27 = .ok (.iload_n 3, 1) := by decide +kernel
theorem dX1_cutAll_28 : decode cX1_cutAll 28 = .ok (.invokevirtual 41, 3) := by decide +kernel
theorem dX1_cutAll_31 : decode cX1_cutAll 31 = .ok (.ifCond .ne 6, 3) := by decide +kernel
theorem dX1_cutAll_34 : decode cX1_cutAll 34 = .ok (.goto 59, 3) := by decide +kernel
theorem dX1_cutAll_37 : decode cX1_cutAll 37 = .ok (.aload_n 2, 1) := by decide +kernel
theorem dX1_cutAll_38 : decode cX1_cutAll 38 = .ok (.getfield 46, 3) := by decide +kernel
theorem dX1_cutAll_41 : decode cX1_cutAll 41 = .ok (.iload_n 3, 1) := by decide +kernel
theorem dX1_cutAll_42 : decode cX1_cutAll 42 = .ok (.iaload, 1) := by decide +kernel
theorem dX1_cutAll_43 : decode cX1_cutAll 43 = .ok (.ifCond .ne 16, 3) := by decide +kernel
theorem dX1_cutAll_46 : decode cX1_cutAll 46 = .ok (.aload_n 0, 1) := by decide +kernel
theorem dX1_cutAll_47 : decode cX1_cutAll 47 = .ok (.dup, 1) := by decide +kernel
theorem dX1_cutAll_48 : decode cX1_cutAll 48 = .ok (.getfield 9, 3) := by decide +kernel
theorem dX1_cutAll_51 : decode cX1_cutAll 51 = .ok (.iconst 1, 1) := by decide +kernel
theorem dX1_cutAll_52 : decode cX1_cutAll 52 = .ok (.iadd, 1) := by decide +kernel
theorem dX1_cutAll_53 : decode cX1_cutAll 53 = .ok (.putfield 9, 3) := by decide +kernel
theorem dX1_cutAll_56 : decode cX1_cutAll 56 = .ok (.goto 31, 3) := by decide +kernel
theorem dX1_cutAll_59 : decode cX1_cutAll 59 = .ok (.aload_n 2, 1) := by decide +kernel
theorem dX1_cutAll_60 : decode cX1_cutAll 60 = .ok (.getfield 46, 3) := by decide +kernel
theorem dX1_cutAll_63 : decode cX1_cutAll 63 = .ok (.iload_n 3, 1) := by decide +kernel
theorem dX1_cutAll_64 : decode cX1_cutAll 64 = .ok (.iaload, 1) := by decide +kernel
theorem dX1_cutAll_65 : decode cX1_cutAll 65 = .ok (.iconst 1, 1) := by decide +kernel
theorem dX1_cutAll_66 : decode cX1_cutAll 66 = .ok (.if_icmp .ne 21, 3) := by decide +kernel
theorem dX1_cutAll_69 : decode cX1_cutAll 69 = .ok (.aload_n 0, 1) := by decide +kernel
theorem dX1_cutAll_70 : decode cX1_cutAll 70 = .ok (.aload_n 1, 1) := by decide +kernel
theorem dX1_cutAll_71 : decode cX1_cutAll 71 = .ok (.iload_n 3, 1) := by decide +kernel
theorem dX1_cutAll_72 : decode cX1_cutAll 72 = .ok (.aload_n 2, 1) := by decide +kernel
theorem dX1_cutAll_73 : decode cX1_cutAll 73 = .ok (.getfield 49, 3) := by decide +kernel
theorem dX1_cutAll_76 : decode cX1_cutAll 76 = .ok (.iload_n 3, 1) := by decide +kernel
theorem dX1_cutAll_77 : decode cX1_cutAll 77 = .ok (.iaload, 1) := by decide +kernel
theorem dX1_cutAll_78 : decode cX1_cutAll 78 = .ok (.aload_n 2, 1) := by decide +kernel
theorem dX1_cutAll_79 : decode cX1_cutAll 79 = .ok (.getfield 52, 3) := by decide +kernel
theorem dX1_cutAll_82 : decode cX1_cutAll 82 = .ok (.iload_n 3, 1) := by decide +kernel
theorem dX1_cutAll_83 : decode cX1_cutAll 83 = .ok (.iaload, 1) := by decide +kernel
theorem dX1_cutAll_84 : decode cX1_cutAll 84 = .ok (.invokevirtual 55, 3) := by decide +kernel
theorem dX1_cutAll_87 : decode cX1_cutAll 87 = .ok (.iinc 3 1, 3) := by decide +kernel
theorem dX1_cutAll_90 : decode cX1_cutAll 90 = .ok (.goto (-70), 3) := by decide +kernel
theorem dX1_cutAll_93 : decode cX1_cutAll 93 = .ok (.return_, 1) := by decide +kernel
theorem dX1_hasRest_0 : decode cX1_hasRest 0 = .ok (.iload_n 1, 1) := by decide +kernel
theorem dX1_hasRest_1 : decode cX1_hasRest 1 = .ok (.ifCond .lt 21, 3) := by decide +kernel
theorem dX1_hasRest_4 : decode cX1_hasRest 4 = .ok (.iload_n 1, 1) := by decide +kernel
theorem dX1_hasRest_5 : decode cX1_hasRest 5 = .ok (.aload_n 0, 1) := by decide +kernel
theorem dX1_hasRest_6 : decode cX1_hasRest 6 = .ok (.getfield 19, 3) := by decide +kernel
theorem dX1_hasRest_9 : decode cX1_hasRest 9 = .ok (.if_icmp .ge 13, 3) := by decide +kernel
theorem dX1_hasRest_12 : decode cX1_hasRest 12 = .ok (.iload_n 1, 1) := by decide +kernel
theorem dX1_hasRest_13 : decode cX1_hasRest 13 = .ok (.bipush 96, 2) := by decide +kernel
theorem dX1_hasRest_15 : decode cX1_hasRest 15 = .ok (.if_icmp .ge 7, 3) := by decide +kernel
theorem dX1_hasRest_18 : decode cX1_hasRest 18 = .ok (.iconst 1, 1) := by decide +kernel
theorem dX1_hasRest_19 : decode cX1_hasRest 19 = .ok (.goto 4, 3) := by decide +kernel
theorem dX1_hasRest_22 : decode cX1_hasRest 22 = .ok (.iconst 0, 1) := by decide +kernel
theorem dX1_hasRest_23 : decode cX1_hasRest 23 = .ok (.ireturn, 1) := by decide +kernel
set_option maxRecDepth 20000 in
theorem ggX1_cut_X1_bestRestFor : GoodIn wsX1_cut wsX1_bestRestFor := goodIn_r _ [12, 13, 4, 5, 30, 31, 32, 33, 34, 35] (by decide +kernel) (by decide +kernel)
set_option maxRecDepth 20000 in
theorem gX1_cut_X1_bestRestFor : GoodIn wsX1_cut (wsV RX1 59 RX1 yX1_bestRestFor wsX1_bestRestFor) := goodIn_app (goodIn_of _ (by decide +kernel)) ggX1_cut_X1_bestRestFor
set_option maxRecDepth 20000 in
theorem ggX1_cut_X1_hasRest : GoodIn wsX1_cut wsX1_hasRest := goodIn_r _ [17, 13, 30, 31, 32, 33, 34, 35] (by decide +kernel) (by decide +kernel)
set_option maxRecDepth 20000 in
theorem gX1_cut_X1_hasRest : GoodIn wsX1_cut (wsV RX1 31 RX1 yX1_hasRest wsX1_hasRest) := goodIn_app (goodIn_of _ (by decide +kernel)) ggX1_cut_X1_hasRest
set_option maxRecDepth 20000 in
theorem ggX1_cut_X1_leave : GoodIn wsX1_cut wsX1_leave := goodIn_r _ [21, 22, 23, 24, 11, 25, 13, 4, 5, 7, 14, 15, 16, 17, 30, 31, 32, 33, 34, 35] (by decide +kernel) (by decide +kernel)
set_option maxRecDepth 20000 in
theorem gX1_cut_X1_leave : GoodIn wsX1_cut (wsV RX1 71 RX1 yX1_leave wsX1_leave) := goodIn_app (goodIn_of _ (by decide +kernel)) ggX1_cut_X1_leave
set_option maxRecDepth 20000 in
theorem ggX1_cut_X1_removeRest : GoodIn wsX1_cut wsX1_removeRest := goodIn_r _ [29, 13, 4, 5, 7, 14, 15, 16, 11, 17, 30, 31, 32, 33, 34, 35] (by decide +kernel) (by decide +kernel)
set_option maxRecDepth 20000 in
theorem gX1_cut_X1_removeRest : GoodIn wsX1_cut (wsV RX1 75 RX1 yX1_removeRest wsX1_removeRest) := goodIn_app (goodIn_of _ (by decide +kernel)) ggX1_cut_X1_removeRest
theorem dX1_cut_0 : decode cX1_cut 0 = .ok (.aload_n 0, 1) := by decide +kernel
theorem dX1_cut_1 : decode cX1_cut 1 = .ok (.iload_n 3, 1) := by decide +kernel
theorem dX1_cut_2 : decode cX1_cut 2 = .ok (.iload 4, 2) := by decide +kernel
theorem dX1_cut_4 : decode cX1_cut 4 = .ok (.invokevirtual 59, 3) := by decide +kernel
theorem dX1_cut_7 : decode cX1_cut 7 = .ok (.istore 5, 2) := by decide +kernel
theorem dX1_cut_9 : decode cX1_cut 9 = .ok (.aload_n 0, 1) := by decide +kernel
theorem dX1_cut_10 : decode cX1_cut 10 = .ok (.iload 5, 2) := by decide +kernel
theorem dX1_cut_12 : decode cX1_cut 12 = .ok (.invokevirtual 31, 3) := by decide +kernel
theorem dX1_cut_15 : decode cX1_cut 15 = .ok (.ifCond .ne 30, 3) := by decide +kernel
theorem dX1_cut_18 : decode cX1_cut 18 = .ok (.aload_n 0, 1) := by decide +kernel
theorem dX1_cut_19 : decode cX1_cut 19 = .ok (.dup, 1) := by decide +kernel
theorem dX1_cut_20 : decode cX1_cut 20 = .ok (.getfield 9, 3) := by decide +kernel
theorem dX1_cut_23 : decode cX1_cut 23 = .ok (.iconst 1, 1) := by decide +kernel
theorem dX1_cut_24 : decode cX1_cut 24 = .ok (.iadd, 1) := by decide +kernel
theorem dX1_cut_25 : decode cX1_cut 25 = .ok (.putfield 9, 3) := by decide +kernel
theorem dX1_cut_28 : decode cX1_cut 28 = .ok (.aload_n 0, 1) := by decide +kernel
theorem dX1_cut_29 : decode cX1_cut 29 = .ok (.iload_n 2, 1) := by decide +kernel
theorem dX1_cut_30 : decode cX1_cut 30 = .ok (.aload_n 1, 1) := by decide +kernel
theorem dX1_cut_31 : decode cX1_cut 31 = .ok (.getfield 63, 3) := by decide +kernel
theorem dX1_cut_34 : decode cX1_cut 34 = .ok (.aload_n 1, 1) := by decide +kernel
theorem dX1_cut_35 : decode cX1_cut 35 = .ok (.getfield 68, 3) := by decide +kernel
theorem dX1_cut_38 : decode cX1_cut 38 = .ok (.iload_n 3, 1) := by decide +kernel
theorem dX1_cut_39 : decode cX1_cut 39 = .ok (.iload 4, 2) := by decide +kernel
theorem dX1_cut_41 : decode cX1_cut 41 = .ok (.invokevirtual 71, 3) := by decide +kernel
theorem dX1_cut_44 : decode cX1_cut 44 = .ok (.return_, 1) := by decide +kernel
theorem dX1_cut_45 : decode cX1_cut 45 = .ok (.aload_n 0, 1) := by decide +kernel
theorem dX1_cut_46 : decode cX1_cut 46 = .ok (.getfield 22, 3) := by decide +kernel
theorem dX1_cut_49 : decode cX1_cut 49 = .ok (.iload 5, 2) := by decide +kernel
theorem dX1_cut_51 : decode cX1_cut 51 = .ok (.iaload, 1) := by decide +kernel
theorem dX1_cut_52 : decode cX1_cut 52 = .ok (.istore 6, 2) := by decide +kernel
theorem dX1_cut_54 : decode cX1_cut 54 = .ok (.aload_n 0, 1) := by decide +kernel
theorem dX1_cut_55 : decode cX1_cut 55 = .ok (.getfield 25, 3) := by decide +kernel
theorem dX1_cut_58 : decode cX1_cut 58 = .ok (.iload 5, 2) := by decide +kernel
theorem dX1_cut_60 : decode cX1_cut 60 = .ok (.iaload, 1) := by decide +kernel
theorem dX1_cut_61 : decode cX1_cut 61 = .ok (.istore 7, 2) := by decide +kernel
theorem dX1_cut_63 : decode cX1_cut 63 = .ok (.iload_n 2, 1) := by decide +kernel
theorem dX1_cut_64 : decode cX1_cut 64 = .ok (.ifCond .lt 22, 3) := by decide +kernel
theorem dX1_cut_67 : decode cX1_cut 67 = .ok (.iload_n 2, 1) := by decide +kernel
theorem dX1_cut_68 : decode cX1_cut 68 = .ok (.bipush 96, 2) := by decide +kernel
theorem dX1_cut_70 : decode cX1_cut 70 = .ok (.if_icmp .ge 16, 3) := by decide +kernel
theorem dX1_cut_73 : decode cX1_cut 73 = .ok (.aload_n 0, 1) := by decide +kernel
theorem dX1_cut_74 : decode cX1_cut 74 = .ok (.getfield 15, 3) := by decide +kernel
theorem dX1_cut_77 : decode cX1_cut 77 = .ok (.iload_n 2, 1) := by decide +kernel
theorem dX1_cut_78 : decode cX1_cut 78 = .ok (.aload_n 0, 1) := by decide +kernel
theorem dX1_cut_79 : decode cX1_cut 79 = .ok (.getfield 28, 3) := by decide +kernel
theorem dX1_cut_82 : decode cX1_cut 82 = .ok (.iload 5, 2) := by decide +kernel
theorem dX1_cut_84 : decode cX1_cut 84 = .ok (.iaload, 1) := by decide +kernel
theorem dX1_cut_85 : decode cX1_cut 85 = .ok (.iastore, 1) := by decide +kernel
theorem dX1_cut_86 : decode cX1_cut 86 = .ok (.aload_n 0, 1) := by decide +kernel
theorem dX1_cut_87 : decode cX1_cut 87 = .ok (.iload 5, 2) := by decide +kernel
theorem dX1_cut_89 : decode cX1_cut 89 = .ok (.invokevirtual 75, 3) := by decide +kernel
theorem dX1_cut_92 : decode cX1_cut 92 = .ok (.aload_n 0, 1) := by decide +kernel
theorem dX1_cut_93 : decode cX1_cut 93 = .ok (.iload_n 2, 1) := by decide +kernel
theorem dX1_cut_94 : decode cX1_cut 94 = .ok (.iload 6, 2) := by decide +kernel
theorem dX1_cut_96 : decode cX1_cut 96 = .ok (.iload 7, 2) := by decide +kernel
theorem dX1_cut_98 : decode cX1_cut 98 = .ok (.iload_n 3, 1) := by decide +kernel
theorem dX1_cut_99 : decode cX1_cut 99 = .ok (.iload 4, 2) := by decide +kernel
theorem dX1_cut_101 : decode cX1_cut 101 = .ok (.invokevirtual 71, 3) := by decide +kernel
theorem dX1_cut_104 : decode cX1_cut 104 = .ok (.return_, 1) := by decide +kernel
theorem dX1_bestRestFor_0 : decode cX1_bestRestFor 0 = .ok (.iconst (-1), 1) := by decide +kernel
theorem dX1_bestRestFor_1 : decode cX1_bestRestFor 1 = .ok (.istore_n 3, 1) := by decide +kernel
theorem dX1_bestRestFor_2 : decode cX1_bestRestFor 2 = .ok (.iconst 0, 1) := by decide +kernel
theorem dX1_bestRestFor_3 : decode cX1_bestRestFor 3 = .ok (.istore 4, 2) := by decide +kernel
theorem dX1_bestRestFor_5 : decode cX1_bestRestFor 5 = .ok (.iconst 0, 1) := by decide +kernel
theorem dX1_bestRestFor_6 : decode cX1_bestRestFor 6 = .ok (.istore 5, 2) := by decide +kernel
theorem dX1_bestRestFor_8 : decode cX1_bestRestFor 8 = .ok (.iload 5, 2) := by decide +kernel
theorem dX1_bestRestFor_10 : decode cX1_bestRestFor 10 = .ok (.aload_n 0, 1) := by decide +kernel
theorem dX1_bestRestFor_11 : decode cX1_bestRestFor 11 = .ok (.getfield 19, 3) := by decide +kernel
theorem dX1_bestRestFor_14 : decode cX1_bestRestFor 14 = .ok (.if_icmp .ge 86, 3) := by decide +kernel
theorem dX1_bestRestFor_17 : decode cX1_bestRestFor 17 = .ok (.iload 5, 2) := by decide +kernel
theorem dX1_bestRestFor_19 : decode cX1_bestRestFor 19 = .ok (.bipush 96, 2) := by decide +kernel
theorem dX1_bestRestFor_21 : decode cX1_bestRestFor 21 = .ok (.if_icmp .ge 79, 3) := by decide +kernel
theorem dX1_bestRestFor_24 : decode cX1_bestRestFor 24 = .ok (.aload_n 0, 1) := by decide +kernel
theorem dX1_bestRestFor_25 : decode cX1_bestRestFor 25 = .ok (.getfield 22, 3) := by decide +kernel
theorem dX1_bestRestFor_28 : decode cX1_bestRestFor 28 = .ok (.iload 5, 2) := by decide +kernel
theorem dX1_bestRestFor_30 : decode cX1_bestRestFor 30 = .ok (.iaload, 1) := by decide +kernel
theorem dX1_bestRestFor_31 : decode cX1_bestRestFor 31 = .ok (.iload_n 1, 1) := by decide +kernel
theorem dX1_bestRestFor_32 : decode cX1_bestRestFor 32 = .ok (.if_icmp .lt 18, 3) := by decide +kernel
theorem dX1_bestRestFor_35 : decode cX1_bestRestFor 35 = .ok (.aload_n 0, 1) := by decide +kernel
theorem dX1_bestRestFor_36 : decode cX1_bestRestFor 36 = .ok (.getfield 25, 3) := by decide +kernel
theorem dX1_bestRestFor_39 : decode cX1_bestRestFor 39 = .ok (.iload 5, 2) := by decide +kernel
theorem dX1_bestRestFor_41 : decode cX1_bestRestFor 41 = .ok (.iaload, 1) := by decide +kernel
theorem dX1_bestRestFor_42 : decode cX1_bestRestFor 42 = .ok (.iload_n 2, 1) := by decide +kernel
theorem dX1_bestRestFor_43 : decode cX1_bestRestFor 43 = .ok (.if_icmp .lt 7, 3) := by decide +kernel
theorem dX1_bestRestFor_46 : decode cX1_bestRestFor 46 = .ok (.iconst 1, 1) := by decide +kernel
theorem dX1_bestRestFor_47 : decode cX1_bestRestFor 47 = .ok (.goto 4, 3) := by decide +kernel
theorem dX1_bestRestFor_50 : decode cX1_bestRestFor 50 = .ok (.iconst 0, 1) := by decide +kernel
theorem dX1_bestRestFor_51 : decode cX1_bestRestFor 51 = .ok (.istore 6, 2) := by decide +kernel
theorem dX1_bestRestFor_53 : decode cX1_bestRestFor 53 = .ok (.aload_n 0, 1) := by decide +kernel
theorem dX1_bestRestFor_54 : decode cX1_bestRestFor 54 = .ok (.getfield 22, 3) := by decide +kernel
theorem dX1_bestRestFor_57 : decode cX1_bestRestFor 57 = .ok (.iload 5, 2) := by decide +kernel
theorem dX1_bestRestFor_59 : decode cX1_bestRestFor 59 = .ok (.iaload, 1) := by decide +kernel
theorem dX1_bestRestFor_60 : decode cX1_bestRestFor 60 = .ok (.aload_n 0, 1) := by decide +kernel
theorem dX1_bestRestFor_61 : decode cX1_bestRestFor 61 = .ok (.getfield 25, 3) := by decide +kernel
theorem dX1_bestRestFor_64 : decode cX1_bestRestFor 64 = .ok (.iload 5, 2) := by decide +kernel
theorem dX1_bestRestFor_66 : decode cX1_bestRestFor 66 = .ok (.iaload, 1) := by decide +kernel
theorem dX1_bestRestFor_67 : decode cX1_bestRestFor 67 = .ok (.imul, 1) := by decide +kernel
theorem dX1_bestRestFor_68 : decode cX1_bestRestFor 68 = .ok (.istore 7, 2) := by decide +kernel
theorem dX1_bestRestFor_70 : decode cX1_bestRestFor 70 = .ok (.iload 6, 2) := by decide +kernel
theorem dX1_bestRestFor_72 : decode cX1_bestRestFor 72 = .ok (.ifCond .eq 22, 3) := by decide +kernel
theorem dX1_bestRestFor_75 : decode cX1_bestRestFor 75 = .ok (.iload_n 3, 1) := by decide +kernel
theorem dX1_bestRestFor_76 : decode cX1_bestRestFor 76 = .ok (.iconst (-1), 1) := by decide +kernel
theorem dX1_bestRestFor_77 : decode cX1_bestRestFor 77 = .ok (.if_icmp .eq 10, 3) := by decide +kernel
theorem dX1_bestRestFor_80 : decode cX1_bestRestFor 80 = .ok (.iload 7, 2) := by decide +kernel
theorem dX1_bestRestFor_82 : decode cX1_bestRestFor 82 = .ok (.iload 4, 2) := by decide +kernel
theorem dX1_bestRestFor_84 : decode cX1_bestRestFor 84 = .ok (.if_icmp .ge 10, 3) := by decide +kernel
theorem dX1_bestRestFor_87 : decode cX1_bestRestFor 87 = .ok (.iload 5, 2) := by decide +kernel
theorem dX1_bestRestFor_89 : decode cX1_bestRestFor 89 = .ok (.istore_n 3, 1) := by decide +kernel
theorem dX1_bestRestFor_90 : decode cX1_bestRestFor 90 = .ok (.iload 7, 2) := by decide +kernel
theorem dX1_bestRestFor_92 : decode cX1_bestRestFor 92 = .ok (.istore 4, 2) := by decide +kernel
theorem dX1_bestRestFor_94 : decode cX1_bestRestFor 94 = .ok (.iinc 5 1, 3) := by decide +kernel
theorem dX1_bestRestFor_97 : decode cX1_bestRestFor 97 = .ok (.goto (-89), 3) := by decide +kernel
theorem dX1_bestRestFor_100 : decode cX1_bestRestFor 100 = .ok (.iload_n 3, 1) := by decide +kernel
theorem dX1_bestRestFor_101 : decode cX1_bestRestFor 101 = .ok (.ireturn, 1) := by decide +kernel
set_option maxRecDepth 20000 in
theorem ggX1_removeRest_X1_hasRest : GoodIn wsX1_removeRest wsX1_hasRest := goodIn_r _ [9, 1, 10, 11, 12, 13, 14, 15] (by decide +kernel) (by decide +kernel)
set_option maxRecDepth 20000 in
theorem gX1_removeRest_X1_hasRest : GoodIn wsX1_removeRest (wsV RX1 31 RX1 yX1_hasRest wsX1_hasRest) := goodIn_app (goodIn_of _ (by decide +kernel)) ggX1_removeRest_X1_hasRest
theorem dX1_removeRest_0 : decode cX1_removeRest 0 = .ok (.aload_n 0, 1) := by decide +kernel
theorem dX1_removeRest_1 : decode cX1_removeRest 1 = .ok (.iload_n 1, 1) := by decide +kernel
theorem dX1_removeRest_2 : decode cX1_removeRest 2 = .ok (.invokevirtual 31, 3) := by decide +kernel
theorem dX1_removeRest_5 : decode cX1_removeRest 5 = .ok (.ifCond .ne 4, 3) := by decide +kernel
theorem dX1_removeRest_8 : decode cX1_removeRest 8 = .ok (.return_, 1) := by decide +kernel
theorem dX1_removeRest_9 : decode cX1_removeRest 9 = .ok (.iload_n 1, 1) := by decide +kernel
theorem dX1_removeRest_10 : decode cX1_removeRest 10 = .ok (.iconst 1, 1) := by decide +kernel
theorem dX1_removeRest_11 : decode cX1_removeRest 11 = .ok (.iadd, 1) := by decide +kernel
theorem dX1_removeRest_12 : decode cX1_removeRest 12 = .ok (.istore_n 2, 1) := by decide +kernel
theorem dX1_removeRest_13 : decode cX1_removeRest 13 = .ok (.iload_n 2, 1) := by decide +kernel
theorem dX1_removeRest_14 : decode cX1_removeRest 14 = .ok (.aload_n 0, 1) := by decide +kernel
theorem dX1_removeRest_15 : decode cX1_removeRest 15 = .ok (.getfield 19, 3) := by decide +kernel
theorem dX1_removeRest_18 : decode cX1_removeRest 18 = .ok (.if_icmp .ge 57, 3) := by decide +kernel
theorem dX1_removeRest_21 : decode cX1_removeRest 21 = .ok (.iload_n 2, 1) := by decide +kernel
theorem dX1_removeRest_22 : decode cX1_removeRest 22 = .ok (.bipush 96, 2) := by decide +kernel
theorem dX1_removeRest_24 : decode cX1_removeRest 24 = .ok (.if_icmp .ge 51, 3) := by decide +kernel
theorem dX1_removeRest_27 : decode cX1_removeRest 27 = .ok (.aload_n 0, 1) := by decide +kernel
theorem dX1_removeRest_28 : decode cX1_removeRest 28 = .ok (.getfield 22, 3) := by decide +kernel
theorem dX1_removeRest_31 : decode cX1_removeRest 31 = .ok (.iload_n 2, 1) := by decide +kernel
theorem dX1_removeRest_32 : decode cX1_removeRest 32 = .ok (.iconst 1, 1) := by decide +kernel
theorem dX1_removeRest_33 : decode cX1_removeRest 33 = .ok (.isub, 1) := by decide +kernel
theorem dX1_removeRest_34 : decode cX1_removeRest 34 = .ok (.aload_n 0, 1) := by decide +kernel
theorem dX1_removeRest_35 : decode cX1_removeRest 35 = .ok (.getfield 22, 3) := by decide +kernel
theorem dX1_removeRest_38 : decode cX1_removeRest 38 = .ok (.iload_n 2, 1) := by decide +kernel
theorem dX1_removeRest_39 : decode cX1_removeRest 39 = .ok (.iaload, 1) := by decide +kernel
theorem dX1_removeRest_40 : decode cX1_removeRest 40 = .ok (.iastore, 1) := by decide +kernel
theorem dX1_removeRest_41 : decode cX1_removeRest 41 = .ok (.aload_n 0, 1) := by decide +kernel
theorem dX1_removeRest_42 : decode cX1_removeRest 42 = .ok (.getfield 25, 3) := by decide +kernel
theorem dX1_removeRest_45 : decode cX1_removeRest 45 = .ok (.iload_n 2, 1) := by decide +kernel
theorem dX1_removeRest_46 : decode cX1_removeRest 46 = .ok (.iconst 1, 1) := by decide +kernel
theorem dX1_removeRest_47 : decode cX1_removeRest 47 = .ok (.isub, 1) := by decide +kernel
theorem dX1_removeRest_48 : decode cX1_removeRest 48 = .ok (.aload_n 0, 1) := by decide +kernel
theorem dX1_removeRest_49 : decode cX1_removeRest 49 = .ok (.getfield 25, 3) := by decide +kernel
theorem dX1_removeRest_52 : decode cX1_removeRest 52 = .ok (.iload_n 2, 1) := by decide +kernel
theorem dX1_removeRest_53 : decode cX1_removeRest 53 = .ok (.iaload, 1) := by decide +kernel
theorem dX1_removeRest_54 : decode cX1_removeRest 54 = .ok (.iastore, 1) := by decide +kernel
theorem dX1_removeRest_55 : decode cX1_removeRest 55 = .ok (.aload_n 0, 1) := by decide +kernel
theorem dX1_removeRest_56 : decode cX1_removeRest 56 = .ok (.getfield 28, 3) := by decide +kernel
theorem dX1_removeRest_59 : decode cX1_removeRest 59 = .ok (.iload_n 2, 1) := by decide +kernel
theorem dX1_removeRest_60 : decode cX1_removeRest 60 = .ok (.iconst 1, 1) := by decide +kernel
theorem dX1_removeRest_61 : decode cX1_removeRest 61 = .ok (.isub, 1) := by decide +kernel
theorem dX1_removeRest_62 : decode cX1_removeRest 62 = .ok (.aload_n 0, 1) := by decide +kernel
theorem dX1_removeRest_63 : decode cX1_removeRest 63 = .ok (.getfield 28, 3) := by decide +kernel
theorem dX1_removeRest_66 : decode cX1_removeRest 66 = .ok (.iload_n 2, 1) := by decide +kernel
theorem dX1_removeRest_67 : decode cX1_removeRest 67 = .ok (.iaload, 1) := by decide +kernel
theorem dX1_removeRest_68 : decode cX1_removeRest 68 = .ok (.iastore, 1) := by decide +kernel
theorem dX1_removeRest_69 : decode cX1_removeRest 69 = .ok (.iinc 2 1, 3) := by decide +kernel
theorem dX1_removeRest_72 : decode cX1_removeRest 72 = .ok (.goto (-59), 3) := by decide +kernel
theorem dX1_removeRest_75 : decode cX1_removeRest 75 = .ok (.aload_n 0, 1) := by decide +kernel
theorem dX1_removeRest_76 : decode cX1_removeRest 76 = .ok (.dup, 1) := by decide +kernel
theorem dX1_removeRest_77 : decode cX1_removeRest 77 = .ok (.getfield 19, 3) := by decide +kernel
theorem dX1_removeRest_80 : decode cX1_removeRest 80 = .ok (.iconst 1, 1) := by decide +kernel
theorem dX1_removeRest_81 : decode cX1_removeRest 81 = .ok (.isub, 1) := by decide +kernel
theorem dX1_removeRest_82 : decode cX1_removeRest 82 = .ok (.putfield 19, 3) := by decide +kernel
theorem dX1_removeRest_85 : decode cX1_removeRest 85 = .ok (.return_, 1) := by decide +kernel
set_option maxRecDepth 20000 in
theorem ggX1_leave_X1_addRest : GoodIn wsX1_leave wsX1_addRest := goodIn_r _ [5, 6, 7, 8, 9, 10, 11, 12, 4, 13, 14, 15, 16, 17, 18, 19] (by decide +kernel) (by decide +kernel)
set_option maxRecDepth 20000 in
theorem gX1_leave_X1_addRest : GoodIn wsX1_leave (wsV RX1 79 RX1 yX1_addRest wsX1_addRest) := goodIn_app (goodIn_of _ (by decide +kernel)) ggX1_leave_X1_addRest
theorem dX1_leave_0 : decode cX1_leave 0 = .ok (.iload_n 2, 1) := by decide +kernel
theorem dX1_leave_1 : decode cX1_leave 1 = .ok (.iload 4, 2) := by decide +kernel
theorem dX1_leave_3 : decode cX1_leave 3 = .ok (.isub, 1) := by decide +kernel
theorem dX1_leave_4 : decode cX1_leave 4 = .ok (.iload_n 3, 1) := by decide +kernel
theorem dX1_leave_5 : decode cX1_leave 5 = .ok (.imul, 1) := by decide +kernel
theorem dX1_leave_6 : decode cX1_leave 6 = .ok (.istore 6, 2) := by decide +kernel
theorem dX1_leave_8 : decode cX1_leave 8 = .ok (.iload_n 2, 1) := by decide +kernel
theorem dX1_leave_9 : decode cX1_leave 9 = .ok (.iload_n 3, 1) := by decide +kernel
theorem dX1_leave_10 : decode cX1_leave 10 = .ok (.iload 5, 2) := by decide +kernel
theorem dX1_leave_12 : decode cX1_leave 12 = .ok (.isub, 1) := by decide +kernel
theorem dX1_leave_13 : decode cX1_leave 13 = .ok (.imul, 1) := by decide +kernel
theorem dX1_leave_14 : decode cX1_leave 14 = .ok (.istore 7, 2) := by decide +kernel
theorem dX1_leave_16 : decode cX1_leave 16 = .ok (.iload 6, 2) := by decide +kernel
theorem dX1_leave_18 : decode cX1_leave 18 = .ok (.ifCond .ne 9, 3) := by decide +kernel
theorem dX1_leave_21 : decode cX1_leave 21 = .ok (.iload 7, 2) := by decide +kernel
theorem dX1_leave_23 : decode cX1_leave 23 = .ok (.ifCond .ne 4, 3) := by decide +kernel
theorem dX1_leave_26 : decode cX1_leave 26 = .ok (.return_, 1) := by decide +kernel
theorem dX1_leave_27 : decode cX1_leave 27 = .ok (.iload 6, 2) := by decide +kernel
theorem dX1_leave_29 : decode cX1_leave 29 = .ok (.iload 7, 2) := by decide +kernel
theorem dX1_leave_31 : decode cX1_leave 31 = .ok (.if_icmp .lt 16, 3) := by decide +kernel
theorem dX1_leave_34 : decode cX1_leave 34 = .ok (.aload_n 0, 1) := by decide +kernel
theorem dX1_leave_35 : decode cX1_leave 35 = .ok (.iload_n 1, 1) := by decide +kernel
theorem dX1_leave_36 : decode cX1_leave 36 = .ok (.iload_n 2, 1) := by decide +kernel
theorem dX1_leave_37 : decode cX1_leave 37 = .ok (.iload 4, 2) := by decide +kernel
theorem dX1_leave_39 : decode cX1_leave 39 = .ok (.isub, 1) := by decide +kernel
theorem dX1_leave_40 : decode cX1_leave 40 = .ok (.iload_n 3, 1) := by decide +kernel
theorem dX1_leave_41 : decode cX1_leave 41 = .ok (.invokevirtual 79, 3) := by decide +kernel
theorem dX1_leave_44 : decode cX1_leave 44 = .ok (.goto 13, 3) := by decide +kernel
theorem dX1_leave_47 : decode cX1_leave 47 = .ok (.aload_n 0, 1) := by decide +kernel
theorem dX1_leave_48 : decode cX1_leave 48 = .ok (.iload_n 1, 1) := by decide +kernel
theorem dX1_leave_49 : decode cX1_leave 49 = .ok (.iload_n 2, 1) := by decide +kernel
theorem dX1_leave_50 : decode cX1_leave 50 = .ok (.iload_n 3, 1) := by decide +kernel
theorem dX1_leave_51 : decode cX1_leave 51 = .ok (.iload 5, 2) := by decide +kernel
theorem dX1_leave_53 : decode cX1_leave 53 = .ok (.isub, 1) := by decide +kernel
theorem dX1_leave_54 : decode cX1_leave 54 = .ok (.invokevirtual 79, 3) := by decide +kernel
theorem dX1_leave_57 : decode cX1_leave 57 = .ok (.return_, 1) := by decide +kernel
set_option maxRecDepth 20000 in
theorem ggX1_addRest_X1_hasRest : GoodIn wsX1_addRest wsX1_hasRest := goodIn_r _ [9, 1, 10, 11, 12, 13, 14, 15] (by decide +kernel) (by decide +kernel)
set_option maxRecDepth 20000 in
theorem gX1_addRest_X1_hasRest : GoodIn wsX1_addRest (wsV RX1 31 RX1 yX1_hasRest wsX1_hasRest) := goodIn_app (goodIn_of _ (by decide +kernel)) ggX1_addRest_X1_hasRest
theorem dX1_addRest_0 : decode cX1_addRest 0 = .ok (.aload_n 0, 1) := by decide +kernel
theorem dX1_addRest_1 : decode cX1_addRest 1 = .ok (.dup, 1) := by decide +kernel
theorem dX1_addRest_2 : decode cX1_addRest 2 = .ok (.getfield 19, 3) := by decide +kernel
theorem dX1_addRest_5 : decode cX1_addRest 5 = .ok (.dup_x1, 1) := by decide +kernel
theorem dX1_addRest_6 : decode cX1_addRest 6 = .ok (.iconst 1, 1) := by decide +kernel
theorem dX1_addRest_7 : decode cX1_addRest 7 = .ok (.iadd, 1) := by decide +kernel
theorem dX1_addRest_8 : decode cX1_addRest 8 = .ok (.putfield 19, 3) := by decide +kernel
theorem dX1_addRest_11 : decode cX1_addRest 11 = .ok (.istore 4, 2) := by decide +kernel
theorem dX1_addRest_13 : decode cX1_addRest 13 = .ok (.aload_n 0, 1) := by decide +kernel
theorem dX1_addRest_14 : decode cX1_addRest 14 = .ok (.iload 4, 2) := by decide +kernel
theorem dX1_addRest_16 : decode cX1_addRest 16 = .ok (.invokevirtual 31, 3) := by decide +kernel
theorem dX1_addRest_19 : decode cX1_addRest 19 = .ok (.ifCond .eq 27, 3) := by decide +kernel
theorem dX1_addRest_22 : decode cX1_addRest 22 = .ok (.aload_n 0, 1) := by decide +kernel
theorem dX1_addRest_23 : decode cX1_addRest 23 = .ok (.getfield 22, 3) := by decide +kernel
theorem dX1_addRest_26 : decode cX1_addRest 26 = .ok (.iload 4, 2) := by decide +kernel
theorem dX1_addRest_28 : decode cX1_addRest 28 = .ok (.iload_n 2, 1) := by decide +kernel
theorem dX1_addRest_29 : decode cX1_addRest 29 = .ok (.iastore, 1) := by decide +kernel
theorem dX1_addRest_30 : decode cX1_addRest 30 = .ok (.aload_n 0, 1) := by decide +kernel
theorem dX1_addRest_31 : decode cX1_addRest 31 = .ok (.getfield 25, 3) := by decide +kernel
theorem dX1_addRest_34 : decode cX1_addRest 34 = .ok (.iload 4, 2) := by decide +kernel
theorem dX1_addRest_36 : decode cX1_addRest 36 = .ok (.iload_n 3, 1) := by decide +kernel
theorem dX1_addRest_37 : decode cX1_addRest 37 = .ok (.iastore, 1) := by decide +kernel
theorem dX1_addRest_38 : decode cX1_addRest 38 = .ok (.aload_n 0, 1) := by decide +kernel
theorem dX1_addRest_39 : decode cX1_addRest 39 = .ok (.getfield 28, 3) := by decide +kernel
theorem dX1_addRest_42 : decode cX1_addRest 42 = .ok (.iload 4, 2) := by decide +kernel
theorem dX1_addRest_44 : decode cX1_addRest 44 = .ok (.iload_n 1, 1) := by decide +kernel
theorem dX1_addRest_45 : decode cX1_addRest 45 = .ok (.iastore, 1) := by decide +kernel
theorem dX1_addRest_46 : decode cX1_addRest 46 = .ok (.return_, 1) := by decide +kernel
theorem dX2_init_0 : decode cX2_init 0 = .ok (.aload_n 0, 1) := by decide +kernel
theorem dX2_init_1 : decode cX2_init 1 = .ok (.invokespecial 1, 3) := by decide +kernel
theorem dX2_init_4 : decode cX2_init 4 = .ok (.aload_n 0, 1) := by decide +kernel
theorem dX2_init_5 : decode cX2_init 5 = .ok (.iconst 0, 1) := by decide +kernel
theorem dX2_init_6 : decode cX2_init 6 = .ok (.putfield 7, 3) := by decide +kernel
theorem dX2_init_9 : decode cX2_init 9 = .ok (.aload_n 0, 1) := by decide +kernel
theorem dX2_init_10 : decode cX2_init 10 = .ok (.iconst 0, 1) := by decide +kernel
theorem dX2_init_11 : decode cX2_init 11 = .ok (.putfield 13, 3) := by decide +kernel
theorem dX2_init_14 : decode cX2_init 14 = .ok (.aload_n 0, 1) := by decide +kernel
theorem dX2_init_15 : decode cX2_init 15 = .ok (.iconst 0, 1) := by decide +kernel
theorem dX2_init_16 : decode cX2_init 16 = .ok (.putfield 16, 3) := by decide +kernel
theorem dX2_init_19 : decode cX2_init 19 = .ok (.aload_n 0, 1) := by decide +kernel
theorem dX2_init_20 : decode cX2_init 20 = .ok (.iconst 0, 1) := by decide +kernel
theorem dX2_init_21 : decode cX2_init 21 = .ok (.putfield 19, 3) := by decide +kernel
theorem dX2_init_24 : decode cX2_init 24 = .ok (.return_, 1) := by decide +kernel
theorem dX2_set_0 : decode cX2_set 0 = .ok (.aload_n 0, 1) := by decide +kernel
theorem dX2_set_1 : decode cX2_set 1 = .ok (.iload_n 1, 1) := by decide +kernel
theorem dX2_set_2 : decode cX2_set 2 = .ok (.putfield 7, 3) := by decide +kernel
theorem dX2_set_5 : decode cX2_set 5 = .ok (.aload_n 0, 1) := by decide +kernel
theorem dX2_set_6 : decode cX2_set 6 = .ok (.iload_n 2, 1) := by decide +kernel
theorem dX2_set_7 : decode cX2_set 7 = .ok (.putfield 13, 3) := by decide +kernel
theorem dX2_set_10 : decode cX2_set 10 = .ok (.aload_n 0, 1) := by decide +kernel
theorem dX2_set_11 : decode cX2_set 11 = .ok (.iload_n 3, 1) := by decide +kernel
theorem dX2_set_12 : decode cX2_set 12 = .ok (.putfield 16, 3) := by decide +kernel
theorem dX2_set_15 : decode cX2_set 15 = .ok (.aload_n 0, 1) := by decide +kernel
theorem dX2_set_16 : decode cX2_set 16 = .ok (.iload 4, 2) := by decide +kernel
theorem dX2_set_18 : decode cX2_set 18 = .ok (.putfield 19, 3) := by decide +kernel
theorem dX2_set_21 : decode cX2_set 21 = .ok (.return_, 1) := by decide +kernel
theorem dX3_init_0 : decode cX3_init 0 = .ok (.aload_n 0, 1) := by decide +kernel
theorem dX3_init_1 : decode cX3_init 1 = .ok (.invokespecial 3, 3) := by decide +kernel
theorem dX3_init_4 : decode cX3_init 4 = .ok (.aload_n 0, 1) := by decide +kernel
theorem dX3_init_5 : decode cX3_init 5 = .ok (.iconst 2, 1) := by decide +kernel
theorem dX3_init_6 : decode cX3_init 6 = .ok (.putfield 9, 3) := by decide +kernel
theorem dX3_init_9 : decode cX3_init 9 = .ok (.aload_n 0, 1) := by decide +kernel
theorem dX3_init_10 : decode cX3_init 10 = .ok (.iconst 2, 1) := by decide +kernel
theorem dX3_init_11 : decode cX3_init 11 = .ok (.putfield 15, 3) := by decide +kernel
theorem dX3_init_14 : decode cX3_init 14 = .ok (.aload_n 0, 1) := by decide +kernel
theorem dX3_init_15 : decode cX3_init 15 = .ok (.iconst 0, 1) := by decide +kernel
theorem dX3_init_16 : decode cX3_init 16 = .ok (.putfield 18, 3) := by decide +kernel
theorem dX3_init_19 : decode cX3_init 19 = .ok (.aload_n 0, 1) := by decide +kernel
theorem dX3_init_20 : decode cX3_init 20 = .ok (.iconst 0, 1) := by decide +kernel
theorem dX3_init_21 : decode cX3_init 21 = .ok (.putfield 21, 3) := by decide +kernel
theorem dX3_init_24 : decode cX3_init 24 = .ok (.return_, 1) := by decide +kernel
theorem dX3_set_0 : decode cX3_set 0 = .ok (.aload_n 0, 1) := by decide +kernel
theorem dX3_set_1 : decode cX3_set 1 = .ok (.iload_n 1, 1) := by decide +kernel
theorem dX3_set_2 : decode cX3_set 2 = .ok (.putfield 9, 3) := by decide +kernel
theorem dX3_set_5 : decode cX3_set 5 = .ok (.aload_n 0, 1) := by decide +kernel
theorem dX3_set_6 : decode cX3_set 6 = .ok (.iload_n 2, 1) := by decide +kernel
theorem dX3_set_7 : decode cX3_set 7 = .ok (.putfield 15, 3) := by decide +kernel
theorem dX3_set_10 : decode cX3_set 10 = .ok (.aload_n 0, 1) := by decide +kernel
theorem dX3_set_11 : decode cX3_set 11 = .ok (.iload_n 3, 1) := by decide +kernel
theorem dX3_set_12 : decode cX3_set 12 = .ok (.putfield 18, 3) := by decide +kernel
theorem dX3_set_15 : decode cX3_set 15 = .ok (.aload_n 0, 1) := by decide +kernel
theorem dX3_set_16 : decode cX3_set 16 = .ok (.iload 4, 2) := by decide +kernel
theorem dX3_set_18 : decode cX3_set 18 = .ok (.putfield 21, 3) := by decide +kernel
theorem dX3_set_21 : decode cX3_set 21 = .ok (.return_, 1) := by decide +kernel
set_option maxRecDepth 20000 in
theorem ggX3_isBorder_X3_rightBorder : GoodIn wsX3_isBorder wsX3_rightBorder := goodIn_r _ [6, 1, 11, 12, 13, 14] (by decide +kernel) (by decide +kernel)
set_option maxRecDepth 20000 in
theorem gX3_isBorder_X3_rightBorder : GoodIn wsX3_isBorder (wsV RX3 24 RX3 yX3_rightBorder wsX3_rightBorder) := goodIn_app (goodIn_of _ (by decide +kernel)) ggX3_isBorder_X3_rightBorder
set_option maxRecDepth 20000 in
theorem ggX3_isBorder_X3_lowerBorder : GoodIn wsX3_isBorder wsX3_lowerBorder := goodIn_r _ [10, 1, 11, 12, 13, 14] (by decide +kernel) (by decide +kernel)
set_option maxRecDepth 20000 in
theorem gX3_isBorder_X3_lowerBorder : GoodIn wsX3_isBorder (wsV RX3 28 RX3 yX3_lowerBorder wsX3_lowerBorder) := goodIn_app (goodIn_of _ (by decide +kernel)) ggX3_isBorder_X3_lowerBorder
theorem dX3_isBorder_0 : decode cX3_isBorder 0 = .ok (.iload_n 1, 1) := by decide +kernel
theorem dX3_isBorder_1 : decode cX3_isBorder 1 = .ok (.aload_n 0, 1) := by decide +kernel
theorem dX3_isBorder_2 : decode cX3_isBorder 2 = .ok (.getfield 18, 3) := by decide +kernel
theorem dX3_isBorder_5 : decode cX3_isBorder 5 = .ok (.if_icmp .lt 27, 3) := by decide +kernel
theorem dX3_isBorder_8 : decode cX3_isBorder 8 = .ok (.iload_n 1, 1) := by decide +kernel
theorem dX3_isBorder_9 : decode cX3_isBorder 9 = .ok (.aload_n 0, 1) := by decide +kernel
theorem dX3_isBorder_10 : decode cX3_isBorder 10 = .ok (.invokevirtual 24, 3) := by decide +kernel
theorem dX3_isBorder_13 : decode cX3_isBorder 13 = .ok (.if_icmp .ge 19, 3) := by decide +kernel
theorem dX3_isBorder_16 : decode cX3_isBorder 16 = .ok (.iload_n 2, 1) := by decide +kernel
theorem dX3_isBorder_17 : decode cX3_isBorder 17 = .ok (.aload_n 0, 1) := by decide +kernel
theorem dX3_isBorder_18 : decode cX3_isBorder 18 = .ok (.getfield 18, 3) := by decide +kernel
theorem dX3_isBorder_21 : decode cX3_isBorder 21 = .ok (.if_icmp .lt 11, 3) := by decide +kernel
theorem dX3_isBorder_24 : decode cX3_isBorder 24 = .ok (.iload_n 2, 1) := by decide +kernel
theorem dX3_isBorder_25 : decode cX3_isBorder 25 = .ok (.aload_n 0, 1) := by decide +kernel
theorem dX3_isBorder_26 : decode cX3_isBorder 26 = .ok (.invokevirtual 28, 3) := by decide +kernel
theorem dX3_isBorder_29 : decode cX3_isBorder 29 = .ok (.if_icmp .lt 7, 3) := by decide +kernel
theorem dX3_isBorder_32 : decode cX3_isBorder 32 = .ok (.iconst 1, 1) := by decide +kernel
theorem dX3_isBorder_33 : decode cX3_isBorder 33 = .ok (.goto 4, 3) := by decide +kernel
theorem dX3_isBorder_36 : decode cX3_isBorder 36 = .ok (.iconst 0, 1) := by decide +kernel
theorem dX3_isBorder_37 : decode cX3_isBorder 37 = .ok (.ireturn, 1) := by decide +kernel
theorem dX3_rightBorder_0 : decode cX3_rightBorder 0 = .ok (.bipush 12, 2) := by decide +kernel
theorem dX3_rightBorder_2 : decode cX3_rightBorder 2 = .ok (.aload_n 0, 1) := by decide +kernel
theorem dX3_rightBorder_3 : decode cX3_rightBorder 3 = .ok (.getfield 18, 3) := by decide +kernel
theorem dX3_rightBorder_6 : decode cX3_rightBorder 6 = .ok (.isub, 1) := by decide +kernel
theorem dX3_rightBorder_7 : decode cX3_rightBorder 7 = .ok (.ireturn, 1) := by decide +kernel
theorem dX3_lowerBorder_0 : decode cX3_lowerBorder 0 = .ok (.bipush 8, 2) := by decide +kernel
theorem dX3_lowerBorder_2 : decode cX3_lowerBorder 2 = .ok (.aload_n 0, 1) := by decide +kernel
theorem dX3_lowerBorder_3 : decode cX3_lowerBorder 3 = .ok (.getfield 18, 3) := by decide +kernel
theorem dX3_lowerBorder_6 : decode cX3_lowerBorder 6 = .ok (.isub, 1) := by decide +kernel
theorem dX3_lowerBorder_7 : decode cX3_lowerBorder 7 = .ok (.ireturn, 1) := by decide +kernel
set_option maxRecDepth 20000 in
theorem ggX3_courseOfRow_X7_timesIn : GoodIn wsX3_courseOfRow wsX7_timesIn := goodIn_r _ [5] (by decide +kernel) (by decide +kernel)
set_option maxRecDepth 20000 in
theorem gX3_courseOfRow_X7_timesIn_n31 : GoodIn wsX3_courseOfRow (wsX7_timesIn) := ggX3_courseOfRow_X7_timesIn
theorem dX3_courseOfRow_0 : decode cX3_courseOfRow 0 = .ok (.aload_n 0, 1) := by decide +kernel
theorem dX3_courseOfRow_1 : decode cX3_courseOfRow 1 = .ok (.getfield 15, 3) := by decide +kernel
theorem dX3_courseOfRow_4 : decode cX3_courseOfRow 4 = .ok (.iload_n 1, 1) := by decide +kernel
theorem dX3_courseOfRow_5 : decode cX3_courseOfRow 5 = .ok (.aload_n 0, 1) := by decide +kernel
theorem dX3_courseOfRow_6 : decode cX3_courseOfRow 6 = .ok (.getfield 18, 3) := by decide +kernel
theorem dX3_courseOfRow_9 : decode cX3_courseOfRow 9 = .ok (.isub, 1) := by decide +kernel
theorem dX3_courseOfRow_10 : decode cX3_courseOfRow 10 = .ok (.invokestatic 31, 3) := by decide +kernel
theorem dX3_courseOfRow_13 : decode cX3_courseOfRow 13 = .ok (.ireturn, 1) := by decide +kernel
set_option maxRecDepth 20000 in
theorem ggX3_countCourses_X3_lowerBorder : GoodIn wsX3_countCourses wsX3_lowerBorder := goodIn_r _ [5, 6, 15, 16, 17, 18] (by decide +kernel) (by decide +kernel)
set_option maxRecDepth 20000 in
theorem gX3_countCourses_X3_lowerBorder : GoodIn wsX3_countCourses (wsV RX3 28 RX3 yX3_lowerBorder wsX3_lowerBorder) := goodIn_app (goodIn_of _ (by decide +kernel)) ggX3_countCourses_X3_lowerBorder
set_option maxRecDepth 20000 in
theorem ggX3_countCourses_X3_courseOfRow : GoodIn wsX3_countCourses wsX3_courseOfRow := goodIn_r _ [10, 11, 6, 12, 13, 14, 15, 16, 17, 18] (by decide +kernel) (by decide +kernel)
set_option maxRecDepth 20000 in
theorem gX3_countCourses_X3_courseOfRow : GoodIn wsX3_countCourses (wsV RX3 35 RX3 yX3_courseOfRow wsX3_courseOfRow) := goodIn_app (goodIn_of _ (by decide +kernel)) ggX3_countCourses_X3_courseOfRow
theorem dX3_countCourses_0 : decode cX3_countCourses 0 = .ok (.aload_n 0, 1) := by decide +kernel
theorem dX3_countCourses_1 : decode cX3_countCourses 1 = .ok (.aload_n 0, 1) := by decide +kernel
theorem dX3_countCourses_2 : decode cX3_countCourses 2 = .ok (.invokevirtual 28, 3) := by decide +kernel
theorem dX3_countCourses_5 : decode cX3_countCourses 5 = .ok (.iconst 1, 1) := by decide +kernel
theorem dX3_countCourses_6 : decode cX3_countCourses 6 = .ok (.isub, 1) := by decide +kernel
theorem dX3_countCourses_7 : decode cX3_countCourses 7 = .ok (.invokevirtual 35, 3) := by decide +kernel
theorem dX3_countCourses_10 : decode cX3_countCourses 10 = .ok (.iconst 1, 1) := by decide +kernel
theorem dX3_countCourses_11 : decode cX3_countCourses 11 = .ok (.iadd, 1) := by decide +kernel
theorem dX3_countCourses_12 : decode cX3_countCourses 12 = .ok (.ireturn, 1) := by decide +kernel
set_option maxRecDepth 20000 in
theorem ggX3_countStrips_X3_countCourses : GoodIn wsX3_countStrips wsX3_countCourses := goodIn_r _ [6, 7, 8, 9, 5, 10, 1, 11, 12, 13, 14, 15, 16, 17, 18, 19, 20, 21, 22] (by decide +kernel) (by decide +kernel)
set_option maxRecDepth 20000 in
theorem gX3_countStrips_X3_countCourses : GoodIn wsX3_countStrips (wsV RX3 39 RX3 yX3_countCourses wsX3_countCourses) := goodIn_app (goodIn_of _ (by decide +kernel)) ggX3_countStrips_X3_countCourses
theorem dX3_countStrips_0 : decode cX3_countStrips 0 = .ok (.aload_n 0, 1) := by decide +kernel
theorem dX3_countStrips_1 : decode cX3_countStrips 1 = .ok (.getfield 18, 3) := by decide +kernel
theorem dX3_countStrips_4 : decode cX3_countStrips 4 = .ok (.aload_n 0, 1) := by decide +kernel
theorem dX3_countStrips_5 : decode cX3_countStrips 5 = .ok (.invokevirtual 39, 3) := by decide +kernel
theorem dX3_countStrips_8 : decode cX3_countStrips 8 = .ok (.iadd, 1) := by decide +kernel
theorem dX3_countStrips_9 : decode cX3_countStrips 9 = .ok (.aload_n 0, 1) := by decide +kernel
theorem dX3_countStrips_10 : decode cX3_countStrips 10 = .ok (.getfield 18, 3) := by decide +kernel
theorem dX3_countStrips_13 : decode cX3_countStrips 13 = .ok (.iadd, 1) := by decide +kernel
theorem dX3_countStrips_14 : decode cX3_countStrips 14 = .ok (.ireturn, 1) := by decide +kernel
set_option maxRecDepth 20000 in
theorem ggX3_hasStrip_X3_countStrips : GoodIn wsX3_hasStrip wsX3_countStrips := goodIn_r _ [5, 6, 7, 8, 9, 4, 10, 11, 12, 13, 14, 15, 16, 17, 18, 19, 20, 21, 22, 23, 24, 25, 26] (by decide +kernel) (by decide +kernel)
set_option maxRecDepth 20000 in
theorem gX3_hasStrip_X3_countStrips : GoodIn wsX3_hasStrip (wsV RX3 42 RX3 yX3_countStrips wsX3_countStrips) := goodIn_app (goodIn_of _ (by decide +kernel)) ggX3_hasStrip_X3_countStrips
theorem dX3_hasStrip_0 : decode cX3_hasStrip 0 = .ok (.iload_n 1, 1) := by decide +kernel
theorem dX3_hasStrip_1 : decode cX3_hasStrip 1 = .ok (.ifCond .lt 15, 3) := by decide +kernel
theorem dX3_hasStrip_4 : decode cX3_hasStrip 4 = .ok (.iload_n 1, 1) := by decide +kernel
theorem dX3_hasStrip_5 : decode cX3_hasStrip 5 = .ok (.aload_n 0, 1) := by decide +kernel
theorem dX3_hasStrip_6 : decode cX3_hasStrip 6 = .ok (.invokevirtual 42, 3) := by decide +kernel
theorem dX3_hasStrip_9 : decode cX3_hasStrip 9 = .ok (.if_icmp .ge 7, 3) := by decide +kernel
theorem dX3_hasStrip_12 : decode cX3_hasStrip 12 = .ok (.iconst 1, 1) := by decide +kernel
theorem dX3_hasStrip_13 : decode cX3_hasStrip 13 = .ok (.goto 4, 3) := by decide +kernel
theorem dX3_hasStrip_16 : decode cX3_hasStrip 16 = .ok (.iconst 0, 1) := by decide +kernel
theorem dX3_hasStrip_17 : decode cX3_hasStrip 17 = .ok (.ireturn, 1) := by decide +kernel
set_option maxRecDepth 20000 in
theorem ggX3_stripOfRow_X3_lowerBorder : GoodIn wsX3_stripOfRow wsX3_lowerBorder := goodIn_r _ [6, 1, 19, 20, 21, 22] (by decide +kernel) (by decide +kernel)
set_option maxRecDepth 20000 in
theorem gX3_stripOfRow_X3_lowerBorder : GoodIn wsX3_stripOfRow (wsV RX3 28 RX3 yX3_lowerBorder wsX3_lowerBorder) := goodIn_app (goodIn_of _ (by decide +kernel)) ggX3_stripOfRow_X3_lowerBorder
set_option maxRecDepth 20000 in
theorem ggX3_stripOfRow_X3_countCourses : GoodIn wsX3_stripOfRow wsX3_countCourses := goodIn_r _ [10, 2, 3, 4, 5, 6, 1, 11, 12, 13, 14, 15, 16, 17, 18, 19, 20, 21, 22] (by decide +kernel) (by decide +kernel)
set_option maxRecDepth 20000 in
theorem gX3_stripOfRow_X3_countCourses : GoodIn wsX3_stripOfRow (wsV RX3 39 RX3 yX3_countCourses wsX3_countCourses) := goodIn_app (goodIn_of _ (by decide +kernel)) ggX3_stripOfRow_X3_countCourses
set_option maxRecDepth 20000 in
theorem ggX3_stripOfRow_X3_courseOfRow : GoodIn wsX3_stripOfRow wsX3_courseOfRow := goodIn_r _ [14, 15, 1, 16, 17, 18, 19, 20, 21, 22] (by decide +kernel) (by decide +kernel)
set_option maxRecDepth 20000 in
theorem gX3_stripOfRow_X3_courseOfRow : GoodIn wsX3_stripOfRow (wsV RX3 35 RX3 yX3_courseOfRow wsX3_courseOfRow) := goodIn_app (goodIn_of _ (by decide +kernel)) ggX3_stripOfRow_X3_courseOfRow
theorem dX3_stripOfRow_0 : decode cX3_stripOfRow 0 = .ok (.iload_n 1, 1) := by decide +kernel
theorem dX3_stripOfRow_1 : decode cX3_stripOfRow 1 = .ok (.aload_n 0, 1) := by decide +kernel
theorem dX3_stripOfRow_2 : decode cX3_stripOfRow 2 = .ok (.getfield 18, 3) := by decide +kernel
theorem dX3_stripOfRow_5 : decode cX3_stripOfRow 5 = .ok (.if_icmp .ge 5, 3) := by decide +kernel
theorem dX3_stripOfRow_8 : decode cX3_stripOfRow 8 = .ok (.iload_n 1, 1) := by decide +kernel
theorem dX3_stripOfRow_9 : decode cX3_stripOfRow 9 = .ok (.ireturn, 1) := by decide +kernel
theorem dX3_stripOfRow_10 : decode cX3_stripOfRow 10 = .ok (.iload_n 1, 1) := by decide +kernel
theorem dX3_stripOfRow_11 : decode cX3_stripOfRow 11 = .ok (.aload_n 0, 1) := by decide +kernel
theorem dX3_stripOfRow_12 : decode cX3_stripOfRow 12 = .ok (.invokevirtual 28, 3) := by decide +kernel
theorem dX3_stripOfRow_15 : decode cX3_stripOfRow 15 = .ok (.if_icmp .lt 20, 3) := by decide +kernel
theorem dX3_stripOfRow_18 : decode cX3_stripOfRow 18 = .ok (.aload_n 0, 1) := by decide +kernel
theorem dX3_stripOfRow_19 : decode cX3_stripOfRow 19 = .ok (.getfield 18, 3) := by decide +kernel
theorem dX3_stripOfRow_22 : decode cX3_stripOfRow 22 = .ok (.aload_n 0, 1) := by decide +kernel
theorem dX3_stripOfRow_23 : decode cX3_stripOfRow 23 = .ok (.invokevirtual 39, 3) := by decide +kernel
theorem dX3_stripOfRow_26 : decode cX3_stripOfRow 26 = .ok (.iadd, 1) := by decide +kernel
theorem dX3_stripOfRow_27 : decode cX3_stripOfRow 27 = .ok (.iload_n 1, 1) := by decide +kernel
theorem dX3_stripOfRow_28 : decode cX3_stripOfRow 28 = .ok (.iadd, 1) := by decide +kernel
theorem dX3_stripOfRow_29 : decode cX3_stripOfRow 29 = .ok (.aload_n 0, 1) := by decide +kernel
theorem dX3_stripOfRow_30 : decode cX3_stripOfRow 30 = .ok (.invokevirtual 28, 3) := by decide +kernel
theorem dX3_stripOfRow_33 : decode cX3_stripOfRow 33 = .ok (.isub, 1) := by decide +kernel
theorem dX3_stripOfRow_34 : decode cX3_stripOfRow 34 = .ok (.ireturn, 1) := by decide +kernel
theorem dX3_stripOfRow_35 : decode cX3_stripOfRow 35 = .ok (.aload_n 0, 1) := by decide +kernel
theorem dX3_stripOfRow_36 : decode cX3_stripOfRow 36 = .ok (.getfield 18, 3) := by decide +kernel
theorem dX3_stripOfRow_39 : decode cX3_stripOfRow 39 = .ok (.aload_n 0, 1) := by decide +kernel
theorem dX3_stripOfRow_40 : decode cX3_stripOfRow 40 = .ok (.iload_n 1, 1) := by decide +kernel
theorem dX3_stripOfRow_41 : decode cX3_stripOfRow 41 = .ok (.invokevirtual 35, 3) := by decide +kernel
theorem dX3_stripOfRow_44 : decode cX3_stripOfRow 44 = .ok (.iadd, 1) := by decide +kernel
theorem dX3_stripOfRow_45 : decode cX3_stripOfRow 45 = .ok (.ireturn, 1) := by decide +kernel
set_option maxRecDepth 20000 in
theorem ggX3_frame_X3_isBorder : GoodIn wsX3_frame wsX3_isBorder := goodIn_r _ [16, 2, 17, 18, 19, 15, 20, 21, 22, 23, 24, 41, 42, 43, 44] (by decide +kernel) (by decide +kernel)
set_option maxRecDepth 20000 in
theorem gX3_frame_X3_isBorder : GoodIn wsX3_frame (wsV RX3 45 RX3 yX3_isBorder wsX3_isBorder) := goodIn_app (goodIn_of _ (by decide +kernel)) ggX3_frame_X3_isBorder
set_option maxRecDepth 20000 in
theorem ggX3_frame_X2_set : GoodIn wsX3_frame wsX2_set := goodIn_r _ [29, 30, 31, 32, 33, 45, 46, 47, 48] (by decide +kernel) (by decide +kernel)
set_option maxRecDepth 20000 in
theorem gX3_frame_X2_set : GoodIn wsX3_frame (wsV RX3 49 RX2 yX2_set wsX2_set) := goodIn_app (goodIn_of _ (by decide +kernel)) ggX3_frame_X2_set
set_option maxRecDepth 20000 in
theorem ggX3_frame_X3_courseOfRow : GoodIn wsX3_frame wsX3_courseOfRow := goodIn_r _ [37, 4, 2, 38, 39, 40, 41, 42, 43, 44] (by decide +kernel) (by decide +kernel)
set_option maxRecDepth 20000 in
theorem gX3_frame_X3_courseOfRow : GoodIn wsX3_frame (wsV RX3 35 RX3 yX3_courseOfRow wsX3_courseOfRow) := goodIn_app (goodIn_of _ (by decide +kernel)) ggX3_frame_X3_courseOfRow
set_option maxRecDepth 20000 in
theorem ggX3_frame_X7_timesIn : GoodIn wsX3_frame wsX7_timesIn := goodIn_r _ [40] (by decide +kernel) (by decide +kernel)
set_option maxRecDepth 20000 in
theorem gX3_frame_X7_timesIn_n31 : GoodIn wsX3_frame (wsX7_timesIn) := ggX3_frame_X7_timesIn
set_option maxRecDepth 20000 in
theorem ggX3_frame_X3_rightBorder : GoodIn wsX3_frame wsX3_rightBorder := goodIn_r _ [20, 2, 41, 42, 43, 44] (by decide +kernel) (by decide +kernel)
set_option maxRecDepth 20000 in
theorem gX3_frame_X3_rightBorder : GoodIn wsX3_frame (wsV RX3 24 RX3 yX3_rightBorder wsX3_rightBorder) := goodIn_app (goodIn_of _ (by decide +kernel)) ggX3_frame_X3_rightBorder
set_option maxRecDepth 20000 in
theorem ggX3_frame_X3_lowerBorder : GoodIn wsX3_frame wsX3_lowerBorder := goodIn_r _ [24, 2, 41, 42, 43, 44] (by decide +kernel) (by decide +kernel)
set_option maxRecDepth 20000 in
theorem gX3_frame_X3_lowerBorder : GoodIn wsX3_frame (wsV RX3 28 RX3 yX3_lowerBorder wsX3_lowerBorder) := goodIn_app (goodIn_of _ (by decide +kernel)) ggX3_frame_X3_lowerBorder
theorem dX3_frame_0 : decode cX3_frame 0 = .ok (.aload_n 0, 1) := by decide +kernel
theorem dX3_frame_1 : decode cX3_frame 1 = .ok (.iload_n 1, 1) := by decide +kernel
theorem dX3_frame_2 : decode cX3_frame 2 = .ok (.iload_n 2, 1) := by decide +kernel
theorem dX3_frame_3 : decode cX3_frame 3 = .ok (.invokevirtual 45, 3) := by decide +kernel
theorem dX3_frame_6 : decode cX3_frame 6 = .ok (.ifCond .eq 16, 3) := by decide +kernel
theorem dX3_frame_9 : decode cX3_frame 9 = .ok (.aload_n 3, 1) := by decide +kernel
theorem dX3_frame_10 : decode cX3_frame 10 = .ok (.iload_n 1, 1) := by decide +kernel
theorem dX3_frame_11 : decode cX3_frame 11 = .ok (.iload_n 1, 1) := by decide +kernel
theorem dX3_frame_12 : decode cX3_frame 12 = .ok (.iconst 1, 1) := by decide +kernel
theorem dX3_frame_13 : decode cX3_frame 13 = .ok (.iadd, 1) := by decide +kernel
theorem dX3_frame_14 : decode cX3_frame 14 = .ok (.iload_n 2, 1) := by decide +kernel
theorem dX3_frame_15 : decode cX3_frame 15 = .ok (.iload_n 2, 1) := by decide +kernel
theorem dX3_frame_16 : decode cX3_frame 16 = .ok (.iconst 1, 1) := by decide +kernel
theorem dX3_frame_17 : decode cX3_frame 17 = .ok (.iadd, 1) := by decide +kernel
theorem dX3_frame_18 : decode cX3_frame 18 = .ok (.invokevirtual 49, 3) := by decide +kernel
theorem dX3_frame_21 : decode cX3_frame 21 = .ok (.return_, 1) := by decide +kernel
theorem dX3_frame_22 : decode cX3_frame 22 = .ok (.aload_n 0, 1) := by decide +kernel
theorem dX3_frame_23 : decode cX3_frame 23 = .ok (.iload_n 2, 1) := by decide +kernel
theorem dX3_frame_24 : decode cX3_frame 24 = .ok (.invokevirtual 35, 3) := by decide +kernel
theorem dX3_frame_27 : decode cX3_frame 27 = .ok (.istore 4, 2) := by decide +kernel
theorem dX3_frame_29 : decode cX3_frame 29 = .ok (.aload_n 0, 1) := by decide +kernel
theorem dX3_frame_30 : decode cX3_frame 30 = .ok (.getfield 21, 3) := by decide +kernel
theorem dX3_frame_33 : decode cX3_frame 33 = .ok (.iconst 1, 1) := by decide +kernel
theorem dX3_frame_34 : decode cX3_frame 34 = .ok (.if_icmp .ne 15, 3) := by decide +kernel
theorem dX3_frame_37 : decode cX3_frame 37 = .ok (.iload 4, 2) := by decide +kernel
theorem dX3_frame_39 : decode cX3_frame 39 = .ok (.iconst 1, 1) := by decide +kernel
theorem dX3_frame_40 : decode cX3_frame 40 = .ok (.iand, 1) := by decide +kernel
theorem dX3_frame_41 : decode cX3_frame 41 = .ok (.iconst 1, 1) := by decide +kernel
theorem dX3_frame_42 : decode cX3_frame 42 = .ok (.if_icmp .ne 7, 3) := by decide +kernel
theorem dX3_frame_45 : decode cX3_frame 45 = .ok (.iconst 1, 1) := by decide +kernel
theorem dX3_frame_46 : decode cX3_frame 46 = .ok (.goto 4, 3) := by decide +kernel
theorem dX3_frame_49 : decode cX3_frame 49 = .ok (.iconst 0, 1) := by decide +kernel
theorem dX3_frame_50 : decode cX3_frame 50 = .ok (.istore 5, 2) := by decide +kernel
theorem dX3_frame_52 : decode cX3_frame 52 = .ok (.aload_n 0, 1) := by decide +kernel
theorem dX3_frame_53 : decode cX3_frame 53 = .ok (.getfield 18, 3) := by decide +kernel
theorem dX3_frame_56 : decode cX3_frame 56 = .ok (.iload 5, 2) := by decide +kernel
theorem dX3_frame_58 : decode cX3_frame 58 = .ok (.ifCond .eq 12, 3) := by decide +kernel
theorem dX3_frame_61 : decode cX3_frame 61 = .ok (.aload_n 0, 1) := by decide +kernel
theorem dX3_frame_62 : decode cX3_frame 62 = .ok (.getfield 9, 3) := by decide +kernel
theorem dX3_frame_65 : decode cX3_frame 65 = .ok (.iconst 1, 1) := by decide +kernel
theorem dX3_frame_66 : decode cX3_frame 66 = .ok (.ishr, 1) := by decide +kernel
theorem dX3_frame_67 : decode cX3_frame 67 = .ok (.goto 4, 3) := by decide +kernel
theorem dX3_frame_70 : decode cX3_frame 70 = .ok (.iconst 0, 1) := by decide +kernel
theorem dX3_frame_71 : decode cX3_frame 71 = .ok (.isub, 1) := by decide +kernel
theorem dX3_frame_72 : decode cX3_frame 72 = .ok (.istore 6, 2) := by decide +kernel
theorem dX3_frame_74 : decode cX3_frame 74 = .ok (.iload 6, 2) := by decide +kernel
theorem dX3_frame_76 : decode cX3_frame 76 = .ok (.aload_n 0, 1) := by decide +kernel
theorem dX3_frame_77 : decode cX3_frame 77 = .ok (.getfield 9, 3) := by decide +kernel
theorem dX3_frame_80 : decode cX3_frame 80 = .ok (.iload_n 1, 1) := by decide +kernel
theorem dX3_frame_81 : decode cX3_frame 81 = .ok (.iload 6, 2) := by decide +kernel
theorem dX3_frame_83 : decode cX3_frame 83 = .ok (.isub, 1) := by decide +kernel
theorem dX3_frame_84 : decode cX3_frame 84 = .ok (.invokestatic 31, 3) := by decide +kernel
theorem dX3_frame_87 : decode cX3_frame 87 = .ok (.aload_n 0, 1) := by decide +kernel
theorem dX3_frame_88 : decode cX3_frame 88 = .ok (.getfield 9, 3) := by decide +kernel
theorem dX3_frame_91 : decode cX3_frame 91 = .ok (.imul, 1) := by decide +kernel
theorem dX3_frame_92 : decode cX3_frame 92 = .ok (.iadd, 1) := by decide +kernel
theorem dX3_frame_93 : decode cX3_frame 93 = .ok (.istore 7, 2) := by decide +kernel
theorem dX3_frame_95 : decode cX3_frame 95 = .ok (.aload_n 0, 1) := by decide +kernel
theorem dX3_frame_96 : decode cX3_frame 96 = .ok (.getfield 18, 3) := by decide +kernel
theorem dX3_frame_99 : decode cX3_frame 99 = .ok (.iload 4, 2) := by decide +kernel
theorem dX3_frame_101 : decode cX3_frame 101 = .ok (.aload_n 0, 1) := by decide +kernel
theorem dX3_frame_102 : decode cX3_frame 102 = .ok (.getfield 15, 3) := by decide +kernel
theorem dX3_frame_105 : decode cX3_frame 105 = .ok (.imul, 1) := by decide +kernel
theorem dX3_frame_106 : decode cX3_frame 106 = .ok (.iadd, 1) := by decide +kernel
theorem dX3_frame_107 : decode cX3_frame 107 = .ok (.istore 8, 2) := by decide +kernel
theorem dX3_frame_109 : decode cX3_frame 109 = .ok (.aload_n 3, 1) := by decide +kernel
theorem dX3_frame_110 : decode cX3_frame 110 = .ok (.iload 7, 2) := by decide +kernel
theorem dX3_frame_112 : decode cX3_frame 112 = .ok (.aload_n 0, 1) := by decide +kernel
theorem dX3_frame_113 : decode cX3_frame 113 = .ok (.getfield 18, 3) := by decide +kernel
theorem dX3_frame_116 : decode cX3_frame 116 = .ok (.invokestatic 55, 3) := by decide +kernel
theorem dX3_frame_119 : decode cX3_frame 119 = .ok (.iload 7, 2) := by decide +kernel
theorem dX3_frame_121 : decode cX3_frame 121 = .ok (.aload_n 0, 1) := by decide +kernel
theorem dX3_frame_122 : decode cX3_frame 122 = .ok (.getfield 9, 3) := by decide +kernel
theorem dX3_frame_125 : decode cX3_frame 125 = .ok (.iadd, 1) := by decide +kernel
theorem dX3_frame_126 : decode cX3_frame 126 = .ok (.aload_n 0, 1) := by decide +kernel
theorem dX3_frame_127 : decode cX3_frame 127 = .ok (.invokevirtual 24, 3) := by decide +kernel
theorem dX3_frame_130 : decode cX3_frame 130 = .ok (.invokestatic 60, 3) := by decide +kernel
theorem dX3_frame_133 : decode cX3_frame 133 = .ok (.iload 8, 2) := by decide +kernel
theorem dX3_frame_135 : decode cX3_frame 135 = .ok (.iload 8, 2) := by decide +kernel
theorem dX3_frame_137 : decode cX3_frame 137 = .ok (.aload_n 0, 1) := by decide +kernel
theorem dX3_frame_138 : decode cX3_frame 138 = .ok (.getfield 15, 3) := by decide +kernel
theorem dX3_frame_141 : decode cX3_frame 141 = .ok (.iadd, 1) := by decide +kernel
theorem dX3_frame_142 : decode cX3_frame 142 = .ok (.aload_n 0, 1) := by decide +kernel
theorem dX3_frame_143 : decode cX3_frame 143 = .ok (.invokevirtual 28, 3) := by decide +kernel
theorem dX3_frame_146 : decode cX3_frame 146 = .ok (.invokestatic 60, 3) := by decide +kernel
theorem dX3_frame_149 : decode cX3_frame 149 = .ok (.invokevirtual 49, 3) := by decide +kernel
theorem dX3_frame_152 : decode cX3_frame 152 = .ok (.return_, 1) := by decide +kernel
set_option maxRecDepth 20000 in
theorem ggX4_init_X2_init : GoodIn wsX4_init wsX2_init := goodIn_r _ [18, 19, 2, 3, 20, 21, 22, 23, 33, 34, 35, 36] (by decide +kernel) (by decide +kernel)
set_option maxRecDepth 20000 in
theorem gX4_init_X2_init_n39 : GoodIn wsX4_init (wsX2_init) := ggX4_init_X2_init
theorem dX4_init_0 : decode cX4_init 0 = .ok (.aload_n 0, 1) := by decide +kernel
theorem dX4_init_1 : decode cX4_init 1 = .ok (.invokespecial 3, 3) := by decide +kernel
theorem dX4_init_4 : decode cX4_init 4 = .ok (.aload_n 0, 1) := by decide +kernel
theorem dX4_init_5 : decode cX4_init 5 = .ok (.iconst 0, 1) := by decide +kernel
theorem dX4_init_6 : decode cX4_init 6 = .ok (.putfield 9, 3) := by decide +kernel
theorem dX4_init_9 : decode cX4_init 9 = .ok (.aload_n 0, 1) := by decide +kernel
theorem dX4_init_10 : decode cX4_init 10 = .ok (.bipush 96, 2) := by decide +kernel
theorem dX4_init_12 : decode cX4_init 12 = .ok (.newarray .int, 2) := by decide +kernel
theorem dX4_init_14 : decode cX4_init 14 = .ok (.putfield 15, 3) := by decide +kernel
theorem dX4_init_17 : decode cX4_init 17 = .ok (.aload_n 0, 1) := by decide +kernel
theorem dX4_init_18 : decode cX4_init 18 = .ok (.bipush 96, 2) := by decide +kernel
theorem dX4_init_20 : decode cX4_init 20 = .ok (.newarray .int, 2) := by decide +kernel
theorem dX4_init_22 : decode cX4_init 22 = .ok (.putfield 19, 3) := by decide +kernel
theorem dX4_init_25 : decode cX4_init 25 = .ok (.aload_n 0, 1) := by decide +kernel
theorem dX4_init_26 : decode cX4_init 26 = .ok (.bipush 96, 2) := by decide +kernel
theorem dX4_init_28 : decode cX4_init 28 = .ok (.newarray .int, 2) := by decide +kernel
theorem dX4_init_30 : decode cX4_init 30 = .ok (.putfield 22, 3) := by decide +kernel
theorem dX4_init_33 : decode cX4_init 33 = .ok (.aload_n 0, 1) := by decide +kernel
theorem dX4_init_34 : decode cX4_init 34 = .ok (.bipush 96, 2) := by decide +kernel
theorem dX4_init_36 : decode cX4_init 36 = .ok (.newarray .int, 2) := by decide +kernel
theorem dX4_init_38 : decode cX4_init 38 = .ok (.putfield 25, 3) := by decide +kernel
theorem dX4_init_41 : decode cX4_init 41 = .ok (.aload_n 0, 1) := by decide +kernel
theorem dX4_init_42 : decode cX4_init 42 = .ok (.bipush 96, 2) := by decide +kernel
theorem dX4_init_44 : decode cX4_init 44 = .ok (.newarray .int, 2) := by decide +kernel
theorem dX4_init_46 : decode cX4_init 46 = .ok (.putfield 28, 3) := by decide +kernel
theorem dX4_init_49 : decode cX4_init 49 = .ok (.aload_n 0, 1) := by decide +kernel
theorem dX4_init_50 : decode cX4_init 50 = .ok (.bipush 96, 2) := by decide +kernel
theorem dX4_init_52 : decode cX4_init 52 = .ok (.newarray .int, 2) := by decide +kernel
theorem dX4_init_54 : decode cX4_init 54 = .ok (.putfield 31, 3) := by decide +kernel
theorem dX4_init_57 : decode cX4_init 57 = .ok (.aload_n 0, 1) := by decide +kernel
theorem dX4_init_58 : decode cX4_init 58 = .ok (.bipush 96, 2) := by decide +kernel
theorem dX4_init_60 : decode cX4_init 60 = .ok (.newarray .int, 2) := by decide +kernel
theorem dX4_init_62 : decode cX4_init 62 = .ok (.putfield 34, 3) := by decide +kernel
theorem dX4_init_65 : decode cX4_init 65 = .ok (.aload_n 0, 1) := by decide +kernel
theorem dX4_init_66 : decode cX4_init 66 = .ok (.new 37, 3) := by decide +kernel
theorem dX4_init_69 : decode cX4_init 69 = .ok (.dup, 1) := by decide +kernel
theorem dX4_init_70 : decode cX4_init 70 = .ok (.invokespecial 39, 3) := by decide +kernel
theorem dX4_init_73 : decode cX4_init 73 = .ok (.putfield 40, 3) := by decide +kernel
theorem dX4_init_76 : decode cX4_init 76 = .ok (.return_, 1) := by decide +kernel
theorem dX4_has_0 : decode cX4_has 0 = .ok (.iload_n 1, 1) := by decide +kernel
theorem dX4_has_1 : decode cX4_has 1 = .ok (.ifCond .lt 21, 3) := by decide +kernel
theorem dX4_has_4 : decode cX4_has 4 = .ok (.iload_n 1, 1) := by decide +kernel
theorem dX4_has_5 : decode cX4_has 5 = .ok (.aload_n 0, 1) := by decide +kernel
theorem dX4_has_6 : decode cX4_has 6 = .ok (.getfield 9, 3) := by decide +kernel
theorem dX4_has_9 : decode cX4_has 9 = .ok (.if_icmp .ge 13, 3) := by decide +kernel
theorem dX4_has_12 : decode cX4_has 12 = .ok (.iload_n 1, 1) := by decide +kernel
theorem dX4_has_13 : decode cX4_has 13 = .ok (.bipush 96, 2) := by decide +kernel
theorem dX4_has_15 : decode cX4_has 15 = .ok (.if_icmp .ge 7, 3) := by decide +kernel
theorem dX4_has_18 : decode cX4_has 18 = .ok (.iconst 1, 1) := by decide +kernel
theorem dX4_has_19 : decode cX4_has 19 = .ok (.goto 4, 3) := by decide +kernel
theorem dX4_has_22 : decode cX4_has 22 = .ok (.iconst 0, 1) := by decide +kernel
theorem dX4_has_23 : decode cX4_has 23 = .ok (.ireturn, 1) := by decide +kernel
set_option maxRecDepth 20000 in
theorem ggX4_find_J7_fill_53178 : GoodIn wsX4_find wsJ7_fill_53178 := goodIn_r _ [6] (by decide +kernel) (by decide +kernel)
set_option maxRecDepth 20000 in
theorem gX4_find_J7_fill_53178 : GoodIn wsX4_find (va_wsS RX4 44 yJ7_fill_53178 wsJ7_fill_53178) := goodIn_app (goodIn_of _ (by decide +kernel)) ggX4_find_J7_fill_53178
set_option maxRecDepth 20000 in
theorem ggX4_find_X7_cellAt : GoodIn wsX4_find wsX7_cellAt := goodIn_r _ [9] (by decide +kernel) (by decide +kernel)
set_option maxRecDepth 20000 in
theorem gX4_find_X7_cellAt_n50 : GoodIn wsX4_find (wsX7_cellAt) := ggX4_find_X7_cellAt
set_option maxRecDepth 20000 in
theorem ggX4_find_X0_areAt : GoodIn wsX4_find wsX0_areAt := goodIn_r _ [14, 15, 16, 8, 17, 7, 9, 99, 100, 101] (by decide +kernel) (by decide +kernel)
set_option maxRecDepth 20000 in
theorem gX4_find_X0_areAt : GoodIn wsX4_find (wsV RX4 54 RX0 yX0_areAt wsX0_areAt) := goodIn_app (goodIn_of _ (by decide +kernel)) ggX4_find_X0_areAt
set_option maxRecDepth 20000 in
theorem ggX4_find_X4_add : GoodIn wsX4_find wsX4_add := goodIn_r _ [22, 1, 23, 24, 25, 26, 27, 28, 29, 30, 31, 32, 21, 33, 34, 35, 36, 37, 38, 39, 40, 41, 42, 43, 44, 45, 46, 47, 48, 49, 50, 51, 52, 53, 54, 55, 56, 57, 58, 59, 60, 61, 62, 63, 64, 65, 66, 67, 68, 69, 70, 71, 72, 73, 74, 75, 8, 76, 77, 78, 79, 80, 81, 82, 83, 84, 2, 85, 86, 87, 88, 16, 17, 10, 11, 12, 13, 14, 15, 7, 9, 89, 90, 91, 92, 93, 94, 95, 96, 97, 98, 102, 103, 104, 105, 106, 107, 108, 109, 99, 100, 101] (by decide +kernel) (by decide +kernel)
set_option maxRecDepth 20000 in
theorem gX4_find_X4_add : GoodIn wsX4_find (wsV RX4 60 RX4 yX4_add wsX4_add) := goodIn_app (goodIn_of _ (by decide +kernel)) ggX4_find_X4_add
theorem dX4_find_0 : decode cX4_find 0 = .ok (.aload_n 0, 1) := by decide +kernel
theorem dX4_find_1 : decode cX4_find 1 = .ok (.iconst 0, 1) := by decide +kernel
theorem dX4_find_2 : decode cX4_find 2 = .ok (.putfield 9, 3) := by decide +kernel
theorem dX4_find_5 : decode cX4_find 5 = .ok (.aload_n 0, 1) := by decide +kernel
theorem dX4_find_6 : decode cX4_find 6 = .ok (.getfield 15, 3) := by decide +kernel
theorem dX4_find_9 : decode cX4_find 9 = .ok (.iconst (-1), 1) := by decide +kernel
theorem dX4_find_10 : decode cX4_find 10 = .ok (.invokestatic 44, 3) := by decide +kernel
theorem dX4_find_13 : decode cX4_find 13 = .ok (.iconst 0, 1) := by decide +kernel
theorem dX4_find_14 : decode cX4_find 14 = .ok (.istore_n 3, 1) := by decide +kernel
theorem dX4_find_15 : decode cX4_find 15 = .ok (.iload_n 3, 1) := by decide +kernel
theorem dX4_find_16 : decode cX4_find 16 = .ok (.bipush 8, 2) := by decide +kernel
theorem dX4_find_18 : decode cX4_find 18 = .ok (.if_icmp .ge 80, 3) := by decide +kernel
theorem dX4_find_21 : decode cX4_find 21 = .ok (.iconst 0, 1) := by decide +kernel
theorem dX4_find_22 : decode cX4_find 22 = .ok (.istore 4, 2) := by decide +kernel
theorem dX4_find_24 : decode cX4_find 24 = .ok (.iload 4, 2) := by decide +kernel
theorem dX4_find_26 : decode cX4_find 26 = .ok (.bipush 12, 2) := by decide +kernel
theorem dX4_find_28 : decode cX4_find 28 = .ok (.if_icmp .ge 64, 3) := by decide +kernel
theorem dX4_find_31 : decode cX4_find 31 = .ok (.aload_n 0, 1) := by decide +kernel
theorem dX4_find_32 : decode cX4_find 32 = .ok (.getfield 15, 3) := by decide +kernel
theorem dX4_find_35 : decode cX4_find 35 = .ok (.iload 4, 2) := by decide +kernel
theorem dX4_find_37 : decode cX4_find 37 = .ok (.iload_n 3, 1) := by decide +kernel
theorem dX4_find_38 : decode cX4_find 38 = .ok (.invokestatic 50, 3) := by decide +kernel
theorem dX4_find_41 : decode cX4_find 41 = .ok (.iaload, 1) := by decide +kernel
theorem dX4_find_42 : decode cX4_find 42 = .ok (.iconst (-1), 1) := by decide +kernel
theorem dX4_find_43 : decode cX4_find 43 = .ok (.if_icmp .ne 17, 3) := by decide +kernel
theorem dX4_find_46 : decode cX4_find 46 = .ok (.aload_n 2, 1) := by decide +kernel
theorem dX4_find_47 : decode cX4_find 47 = .ok (.iload 4, 2) := by decide +kernel
theorem dX4_find_49 : decode cX4_find 49 = .ok (.iload_n 3, 1) := by decide +kernel
theorem dX4_find_50 : decode cX4_find 50 = .ok (.invokevirtual 54, 3) := by decide +kernel
theorem dX4_find_53 : decode cX4_find 53 = .ok (.ifCond .ne 7, 3) := by decide +kernel
theorem dX4_find_56 : decode cX4_find 56 = .ok (.iconst 1, 1) := by decide +kernel
theorem dX4_find_57 : decode cX4_find 57 = .ok (.goto 4, 3) := by decide +kernel
theorem dX4_find_60 : decode cX4_find 60 = .ok (.iconst 0, 1) := by decide +kernel
theorem dX4_find_61 : decode cX4_find 61 = .ok (.istore 5, 2) := by decide +kernel
theorem dX4_find_63 : decode cX4_find 63 = .ok (.iload 5, 2) := by decide +kernel
theorem dX4_find_65 : decode cX4_find 65 = .ok (.ifCond .eq 21, 3) := by decide +kernel
theorem dX4_find_68 : decode cX4_find 68 = .ok (.aload_n 0, 1) := by decide +kernel
theorem dX4_find_69 : decode cX4_find 69 = .ok (.getfield 9, 3) := by decide +kernel
theorem dX4_find_72 : decode cX4_find 72 = .ok (.bipush 96, 2) := by decide +kernel
theorem dX4_find_74 : decode cX4_find 74 = .ok (.if_icmp .ge 12, 3) := by decide +kernel
theorem dX4_find_77 : decode cX4_find 77 = .ok (.aload_n 0, 1) := by decide +kernel
theorem dX4_find_78 : decode cX4_find 78 = .ok (.aload_n 1, 1) := by decide +kernel
theorem dX4_find_79 : decode cX4_find 79 = .ok (.aload_n 2, 1) := by decide +kernel
theorem dX4_find_80 : decode cX4_find 80 = .ok (.iload 4, 2) := by decide +kernel
theorem dX4_find_82 : decode cX4_find 82 = .ok (.iload_n 3, 1) := by decide +kernel
theorem dX4_find_83 : decode cX4_find 83 = .ok (.invokevirtual 60, 3) := by decide +kernel
theorem dX4_find_86 : decode cX4_find 86 = .ok (.iinc 4 1, 3) := by decide +kernel
theorem dX4_find_89 : decode cX4_find 89 = .ok (.goto (-65), 3) := by decide +kernel
theorem dX4_find_92 : decode cX4_find 92 = .ok (.iinc 3 1, 3) := by decide +kernel
theorem dX4_find_95 : decode cX4_find 95 = .ok (.goto (-80), 3) := by decide +kernel
theorem dX4_find_98 : decode cX4_find 98 = .ok (.return_, 1) := by decide +kernel
set_option maxRecDepth 20000 in
theorem ggX4_add_X4_has : GoodIn wsX4_add wsX4_has := goodIn_r _ [13, 1, 82, 83, 84, 85, 86, 87, 88, 89, 90] (by decide +kernel) (by decide +kernel)
set_option maxRecDepth 20000 in
theorem gX4_add_X4_has : GoodIn wsX4_add (wsV RX4 64 RX4 yX4_has wsX4_has) := goodIn_app (goodIn_of _ (by decide +kernel)) ggX4_add_X4_has
set_option maxRecDepth 20000 in
theorem ggX4_add_X3_frame : GoodIn wsX4_add wsX3_frame := goodIn_r _ [18, 19, 20, 21, 22, 23, 24, 25, 26, 27, 28, 29, 30, 31, 32, 17, 33, 34, 35, 36, 37, 38, 39, 40, 41, 42, 43, 44, 45, 46, 47, 48, 49, 50, 51, 52, 53, 54, 55, 56, 57, 91, 92, 93, 94, 95, 96, 97, 98] (by decide +kernel) (by decide +kernel)
set_option maxRecDepth 20000 in
theorem gX4_add_X3_frame : GoodIn wsX4_add (wsV RX4 68 RX3 yX3_frame wsX3_frame) := goodIn_app (goodIn_of _ (by decide +kernel)) ggX4_add_X3_frame
set_option maxRecDepth 20000 in
theorem ggX4_add_X4_measure : GoodIn wsX4_add wsX4_measure := goodIn_r _ [61, 4, 62, 63, 64, 3, 65, 66, 67, 28, 25, 29, 68, 24, 26, 6, 69, 70, 9, 10, 11, 12, 13, 1, 71, 56, 72, 73, 74, 75, 76, 77, 78, 79, 80, 82, 83, 84, 85, 86, 87, 88, 89, 90, 95, 96, 97, 98, 99, 100, 101] (by decide +kernel) (by decide +kernel)
set_option maxRecDepth 20000 in
theorem gX4_add_X4_measure : GoodIn wsX4_add (wsV RX4 73 RX4 yX4_measure wsX4_measure) := goodIn_app (goodIn_of _ (by decide +kernel)) ggX4_add_X4_measure
set_option maxRecDepth 20000 in
theorem ggX4_add_X3_isBorder : GoodIn wsX4_add wsX3_isBorder := goodIn_r _ [33, 20, 34, 35, 36, 17, 37, 38, 39, 40, 41, 91, 92, 93, 94] (by decide +kernel) (by decide +kernel)
set_option maxRecDepth 20000 in
theorem gX4_add_X3_isBorder : GoodIn wsX4_add (wsV RX4 77 RX3 yX3_isBorder wsX3_isBorder) := goodIn_app (goodIn_of _ (by decide +kernel)) ggX4_add_X3_isBorder
theorem dX4_add_0 : decode cX4_add 0 = .ok (.aload_n 0, 1) := by decide +kernel
theorem dX4_add_1 : decode cX4_add 1 = .ok (.dup, 1) := by decide +kernel
theorem dX4_add_2 : decode cX4_add 2 = .ok (.getfield 9, 3) := by decide +kernel
theorem dX4_add_5 : decode cX4_add 5 = .ok (.dup_x1, 1) := by decide +kernel
theorem dX4_add_6 : decode cX4_add 6 = .ok (.iconst 1, 1) := by decide +kernel
theorem dX4_add_7 : decode cX4_add 7 = .ok (.iadd, 1) := by decide +kernel
theorem dX4_add_8 : decode cX4_add 8 = .ok (.putfield 9, 3) := by decide +kernel
theorem dX4_add_11 : decode cX4_add 11 = .ok (.istore 5, 2) := by decide +kernel
theorem dX4_add_13 : decode cX4_add 13 = .ok (.aload_n 0, 1) := by decide +kernel
theorem dX4_add_14 : decode cX4_add 14 = .ok (.iload 5, 2) := by decide +kernel
theorem dX4_add_16 : decode cX4_add 16 = .ok (.invokevirtual 64, 3) := by decide +kernel
theorem dX4_add_19 : decode cX4_add 19 = .ok (.ifCond .ne 4, 3) := by decide +kernel
theorem dX4_add_22 : decode cX4_add 22 = .ok (.return_, 1) := by decide +kernel
theorem dX4_add_23 : decode cX4_add 23 = .ok (.aload_n 0, 1) := by decide +kernel
theorem dX4_add_24 : decode cX4_add 24 = .ok (.getfield 22, 3) := by decide +kernel
theorem dX4_add_27 : decode cX4_add 27 = .ok (.iload 5, 2) := by decide +kernel
theorem dX4_add_29 : decode cX4_add 29 = .ok (.iload_n 3, 1) := by decide +kernel
theorem dX4_add_30 : decode cX4_add 30 = .ok (.iastore, 1) := by decide +kernel
theorem dX4_add_31 : decode cX4_add 31 = .ok (.aload_n 0, 1) := by decide +kernel
theorem dX4_add_32 : decode cX4_add 32 = .ok (.getfield 25, 3) := by decide +kernel
theorem dX4_add_35 : decode cX4_add 35 = .ok (.iload 5, 2) := by decide +kernel
theorem dX4_add_37 : decode cX4_add 37 = .ok (.iload 4, 2) := by decide +kernel
theorem dX4_add_39 : decode cX4_add 39 = .ok (.iastore, 1) := by decide +kernel
theorem dX4_add_40 : decode cX4_add 40 = .ok (.aload_n 1, 1) := by decide +kernel
theorem dX4_add_41 : decode cX4_add 41 = .ok (.iload_n 3, 1) := by decide +kernel
theorem dX4_add_42 : decode cX4_add 42 = .ok (.iload 4, 2) := by decide +kernel
theorem dX4_add_44 : decode cX4_add 44 = .ok (.aload_n 0, 1) := by decide +kernel
theorem dX4_add_45 : decode cX4_add 45 = .ok (.getfield 40, 3) := by decide +kernel
theorem dX4_add_48 : decode cX4_add 48 = .ok (.invokevirtual 68, 3) := by decide +kernel
theorem dX4_add_51 : decode cX4_add 51 = .ok (.aload_n 0, 1) := by decide +kernel
theorem dX4_add_52 : decode cX4_add 52 = .ok (.aload_n 2, 1) := by decide +kernel
theorem dX4_add_53 : decode cX4_add 53 = .ok (.iload 5, 2) := by decide +kernel
theorem dX4_add_55 : decode cX4_add 55 = .ok (.invokevirtual 73, 3) := by decide +kernel
theorem dX4_add_58 : decode cX4_add 58 = .ok (.aload_n 1, 1) := by decide +kernel
theorem dX4_add_59 : decode cX4_add 59 = .ok (.iload_n 3, 1) := by decide +kernel
theorem dX4_add_60 : decode cX4_add 60 = .ok (.iload 4, 2) := by decide +kernel
theorem dX4_add_62 : decode cX4_add 62 = .ok (.invokevirtual 77, 3) := by decide +kernel
theorem dX4_add_65 : decode cX4_add 65 = .ok (.ifCond .eq 14, 3) := by decide +kernel
theorem dX4_add_68 : decode cX4_add 68 = .ok (.aload_n 0, 1) := by decide +kernel
theorem dX4_add_69 : decode cX4_add 69 = .ok (.getfield 19, 3) := by decide +kernel
theorem dX4_add_72 : decode cX4_add 72 = .ok (.iload 5, 2) := by decide +kernel
theorem dX4_add_74 : decode cX4_add 74 = .ok (.iconst 2, 1) := by decide +kernel
theorem dX4_add_75 : decode cX4_add 75 = .ok (.iastore, 1) := by decide +kernel
theorem dX4_add_76 : decode cX4_add 76 = .ok (.goto 34, 3) := by decide +kernel
theorem dX4_add_79 : decode cX4_add 79 = .ok (.aload_n 0, 1) := by decide +kernel
theorem dX4_add_80 : decode cX4_add 80 = .ok (.getfield 19, 3) := by decide +kernel
theorem dX4_add_83 : decode cX4_add 83 = .ok (.iload 5, 2) := by decide +kernel
theorem dX4_add_85 : decode cX4_add 85 = .ok (.aload_n 0, 1) := by decide +kernel
theorem dX4_add_86 : decode cX4_add 86 = .ok (.getfield 28, 3) := by decide +kernel
theorem dX4_add_89 : decode cX4_add 89 = .ok (.iload 5, 2) := by decide +kernel
theorem dX4_add_91 : decode cX4_add 91 = .ok (.iaload, 1) := by decide +kernel
theorem dX4_add_92 : decode cX4_add 92 = .ok (.aload_n 1, 1) := by decide +kernel
theorem dX4_add_93 : decode cX4_add 93 = .ok (.getfield 80, 3) := by decide +kernel
theorem dX4_add_96 : decode cX4_add 96 = .ok (.aload_n 1, 1) := by decide +kernel
theorem dX4_add_97 : decode cX4_add 97 = .ok (.getfield 83, 3) := by decide +kernel
theorem dX4_add_100 : decode cX4_add 100 = .ok (.imul, 1) := by decide +kernel
theorem dX4_add_101 : decode cX4_add 101 = .ok (.if_icmp .ne 7, 3) := by decide +kernel
theorem dX4_add_104 : decode cX4_add 104 = .ok (.iconst 0, 1) := by decide +kernel
theorem dX4_add_105 : decode cX4_add 105 = .ok (.goto 4, 3) := by decide +kernel
theorem dX4_add_108 : decode cX4_add 108 = .ok (.iconst 1, 1) := by decide +kernel
theorem dX4_add_109 : decode cX4_add 109 = .ok (.iastore, 1) := by decide +kernel
theorem dX4_add_110 : decode cX4_add 110 = .ok (.return_, 1) := by decide +kernel
set_option maxRecDepth 20000 in
theorem ggX4_measure_X4_has : GoodIn wsX4_measure wsX4_has := goodIn_r _ [22, 23, 35, 36, 37, 38, 39, 40, 41, 42, 43] (by decide +kernel) (by decide +kernel)
set_option maxRecDepth 20000 in
theorem gX4_measure_X4_has : GoodIn wsX4_measure (wsV RX4 64 RX4 yX4_has wsX4_has) := goodIn_app (goodIn_of _ (by decide +kernel)) ggX4_measure_X4_has
set_option maxRecDepth 20000 in
theorem ggX4_measure_X7_isCell : GoodIn wsX4_measure wsX7_isCell := goodIn_r _ [26] (by decide +kernel) (by decide +kernel)
set_option maxRecDepth 20000 in
theorem gX4_measure_X7_isCell_n98 : GoodIn wsX4_measure (wsX7_isCell) := ggX4_measure_X7_isCell
set_option maxRecDepth 20000 in
theorem ggX4_measure_X0_areAt : GoodIn wsX4_measure wsX0_areAt := goodIn_r _ [31, 32, 24, 25, 26, 33, 34, 48, 49, 50] (by decide +kernel) (by decide +kernel)
set_option maxRecDepth 20000 in
theorem gX4_measure_X0_areAt : GoodIn wsX4_measure (wsV RX4 54 RX0 yX0_areAt wsX0_areAt) := goodIn_app (goodIn_of _ (by decide +kernel)) ggX4_measure_X0_areAt
set_option maxRecDepth 20000 in
theorem ggX4_measure_X7_cellAt : GoodIn wsX4_measure wsX7_cellAt := goodIn_r _ [34] (by decide +kernel) (by decide +kernel)
set_option maxRecDepth 20000 in
theorem gX4_measure_X7_cellAt_n50 : GoodIn wsX4_measure (wsX7_cellAt) := ggX4_measure_X7_cellAt
theorem dX4_measure_0 : decode cX4_measure 0 = .ok (.aload_n 0, 1) := by decide +kernel
theorem dX4_measure_1 : decode cX4_measure 1 = .ok (.iload_n 2, 1) := by decide +kernel
theorem dX4_measure_2 : decode cX4_measure 2 = .ok (.invokevirtual 64, 3) := by decide +kernel
theorem dX4_measure_5 : decode cX4_measure 5 = .ok (.ifCond .ne 4, 3) := by decide +kernel
theorem dX4_measure_8 : decode cX4_measure 8 = .ok (.return_, 1) := by decide +kernel
theorem dX4_measure_9 : decode cX4_measure 9 = .ok (.iconst 0, 1) := by decide +kernel
theorem dX4_measure_10 : decode cX4_measure 10 = .ok (.istore_n 3, 1) := by decide +kernel
theorem dX4_measure_11 : decode cX4_measure 11 = .ok (.aload_n 0, 1) := by decide +kernel
theorem dX4_measure_12 : decode cX4_measure 12 = .ok (.getfield 40, 3) := by decide +kernel
theorem dX4_measure_15 : decode cX4_measure 15 = .ok (.getfield 86, 3) := by decide +kernel
theorem dX4_measure_18 : decode cX4_measure 18 = .ok (.istore 4, 2) := by decide +kernel
theorem dX4_measure_20 : decode cX4_measure 20 = .ok (.aload_n 0, 1) := by decide +kernel
theorem dX4_measure_21 : decode cX4_measure 21 = .ok (.getfield 40, 3) := by decide +kernel
theorem dX4_measure_24 : decode cX4_measure 24 = .ok (.getfield 89, 3) := by decide +kernel
theorem dX4_measure_27 : decode cX4_measure 27 = .ok (.istore 5, 2) := by decide +kernel
theorem dX4_measure_29 : decode cX4_measure 29 = .ok (.aload_n 0, 1) := by decide +kernel
theorem dX4_measure_30 : decode cX4_measure 30 = .ok (.getfield 40, 3) := by decide +kernel
theorem dX4_measure_33 : decode cX4_measure 33 = .ok (.getfield 92, 3) := by decide +kernel
theorem dX4_measure_36 : decode cX4_measure 36 = .ok (.istore 6, 2) := by decide +kernel
theorem dX4_measure_38 : decode cX4_measure 38 = .ok (.aload_n 0, 1) := by decide +kernel
theorem dX4_measure_39 : decode cX4_measure 39 = .ok (.getfield 25, 3) := by decide +kernel
theorem dX4_measure_42 : decode cX4_measure 42 = .ok (.iload_n 2, 1) := by decide +kernel
theorem dX4_measure_43 : decode cX4_measure 43 = .ok (.iaload, 1) := by decide +kernel
theorem dX4_measure_44 : decode cX4_measure 44 = .ok (.istore 7, 2) := by decide +kernel
theorem dX4_measure_46 : decode cX4_measure 46 = .ok (.iload 7, 2) := by decide +kernel
theorem dX4_measure_48 : decode cX4_measure 48 = .ok (.aload_n 0, 1) := by decide +kernel
theorem dX4_measure_49 : decode cX4_measure 49 = .ok (.getfield 40, 3) := by decide +kernel
theorem dX4_measure_52 : decode cX4_measure 52 = .ok (.getfield 95, 3) := by decide +kernel
theorem dX4_measure_55 : decode cX4_measure 55 = .ok (.if_icmp .ge 95, 3) := by decide +kernel
theorem dX4_measure_58 : decode cX4_measure 58 = .ok (.aload_n 0, 1) := by decide +kernel
theorem dX4_measure_59 : decode cX4_measure 59 = .ok (.getfield 40, 3) := by decide +kernel
theorem dX4_measure_62 : decode cX4_measure 62 = .ok (.getfield 89, 3) := by decide +kernel
theorem dX4_measure_65 : decode cX4_measure 65 = .ok (.istore 8, 2) := by decide +kernel
theorem dX4_measure_67 : decode cX4_measure 67 = .ok (.iload 8, 2) := by decide +kernel
theorem dX4_measure_69 : decode cX4_measure 69 = .ok (.aload_n 0, 1) := by decide +kernel
theorem dX4_measure_70 : decode cX4_measure 70 = .ok (.getfield 40, 3) := by decide +kernel
theorem dX4_measure_73 : decode cX4_measure 73 = .ok (.getfield 86, 3) := by decide +kernel
theorem dX4_measure_76 : decode cX4_measure 76 = .ok (.if_icmp .ge 68, 3) := by decide +kernel
theorem dX4_measure_79 : decode cX4_measure 79 = .ok (.iload 8, 2) := by decide +kernel
theorem dX4_measure_81 : decode cX4_measure 81 = .ok (.iload 7, 2) := by decide +kernel
theorem dX4_measure_83 : decode cX4_measure 83 = .ok (.invokestatic 98, 3) := by decide +kernel
theorem dX4_measure_86 : decode cX4_measure 86 = .ok (.ifCond .eq 52, 3) := by decide +kernel
theorem dX4_measure_89 : decode cX4_measure 89 = .ok (.aload_n 1, 1) := by decide +kernel
theorem dX4_measure_90 : decode cX4_measure 90 = .ok (.iload 8, 2) := by decide +kernel
theorem dX4_measure_92 : decode cX4_measure 92 = .ok (.iload 7, 2) := by decide +kernel
theorem dX4_measure_94 : decode cX4_measure 94 = .ok (.invokevirtual 54, 3) := by decide +kernel
theorem dX4_measure_97 : decode cX4_measure 97 = .ok (.ifCond .ne 41, 3) := by decide +kernel
theorem dX4_measure_100 : decode cX4_measure 100 = .ok (.aload_n 0, 1) := by decide +kernel
theorem dX4_measure_101 : decode cX4_measure 101 = .ok (.getfield 15, 3) := by decide +kernel
theorem dX4_measure_104 : decode cX4_measure 104 = .ok (.iload 8, 2) := by decide +kernel
theorem dX4_measure_106 : decode cX4_measure 106 = .ok (.iload 7, 2) := by decide +kernel
theorem dX4_measure_108 : decode cX4_measure 108 = .ok (.invokestatic 50, 3) := by decide +kernel
theorem dX4_measure_111 : decode cX4_measure 111 = .ok (.iload_n 2, 1) := by decide +kernel
theorem dX4_measure_112 : decode cX4_measure 112 = .ok (.iastore, 1) := by decide +kernel
theorem dX4_measure_113 : decode cX4_measure 113 = .ok (.iinc 3 1, 3) := by decide +kernel
theorem dX4_measure_116 : decode cX4_measure 116 = .ok (.iload 4, 2) := by decide +kernel
theorem dX4_measure_118 : decode cX4_measure 118 = .ok (.iload 8, 2) := by decide +kernel
theorem dX4_measure_120 : decode cX4_measure 120 = .ok (.invokestatic 101, 3) := by decide +kernel
theorem dX4_measure_123 : decode cX4_measure 123 = .ok (.istore 4, 2) := by decide +kernel
theorem dX4_measure_125 : decode cX4_measure 125 = .ok (.iload 5, 2) := by decide +kernel
theorem dX4_measure_127 : decode cX4_measure 127 = .ok (.iload 8, 2) := by decide +kernel
theorem dX4_measure_129 : decode cX4_measure 129 = .ok (.invokestatic 106, 3) := by decide +kernel
theorem dX4_measure_132 : decode cX4_measure 132 = .ok (.istore 5, 2) := by decide +kernel
theorem dX4_measure_134 : decode cX4_measure 134 = .ok (.iload 7, 2) := by decide +kernel
theorem dX4_measure_136 : decode cX4_measure 136 = .ok (.istore 6, 2) := by decide +kernel
theorem dX4_measure_138 : decode cX4_measure 138 = .ok (.iinc 8 1, 3) := by decide +kernel
theorem dX4_measure_141 : decode cX4_measure 141 = .ok (.goto (-74), 3) := by decide +kernel
theorem dX4_measure_144 : decode cX4_measure 144 = .ok (.iinc 7 1, 3) := by decide +kernel
theorem dX4_measure_147 : decode cX4_measure 147 = .ok (.goto (-101), 3) := by decide +kernel
theorem dX4_measure_150 : decode cX4_measure 150 = .ok (.aload_n 0, 1) := by decide +kernel
theorem dX4_measure_151 : decode cX4_measure 151 = .ok (.getfield 28, 3) := by decide +kernel
theorem dX4_measure_154 : decode cX4_measure 154 = .ok (.iload_n 2, 1) := by decide +kernel
theorem dX4_measure_155 : decode cX4_measure 155 = .ok (.iload_n 3, 1) := by decide +kernel
theorem dX4_measure_156 : decode cX4_measure 156 = .ok (.iastore, 1) := by decide +kernel
theorem dX4_measure_157 : decode cX4_measure 157 = .ok (.aload_n 0, 1) := by decide +kernel
theorem dX4_measure_158 : decode cX4_measure 158 = .ok (.getfield 31, 3) := by decide +kernel
theorem dX4_measure_161 : decode cX4_measure 161 = .ok (.iload_n 2, 1) := by decide +kernel
theorem dX4_measure_162 : decode cX4_measure 162 = .ok (.iload 5, 2) := by decide +kernel
theorem dX4_measure_164 : decode cX4_measure 164 = .ok (.iload 4, 2) := by decide +kernel
theorem dX4_measure_166 : decode cX4_measure 166 = .ok (.isub, 1) := by decide +kernel
theorem dX4_measure_167 : decode cX4_measure 167 = .ok (.iconst 1, 1) := by decide +kernel
theorem dX4_measure_168 : decode cX4_measure 168 = .ok (.iadd, 1) := by decide +kernel
theorem dX4_measure_169 : decode cX4_measure 169 = .ok (.iastore, 1) := by decide +kernel
theorem dX4_measure_170 : decode cX4_measure 170 = .ok (.aload_n 0, 1) := by decide +kernel
theorem dX4_measure_171 : decode cX4_measure 171 = .ok (.getfield 34, 3) := by decide +kernel
theorem dX4_measure_174 : decode cX4_measure 174 = .ok (.iload_n 2, 1) := by decide +kernel
theorem dX4_measure_175 : decode cX4_measure 175 = .ok (.iload 6, 2) := by decide +kernel
theorem dX4_measure_177 : decode cX4_measure 177 = .ok (.aload_n 0, 1) := by decide +kernel
theorem dX4_measure_178 : decode cX4_measure 178 = .ok (.getfield 25, 3) := by decide +kernel
theorem dX4_measure_181 : decode cX4_measure 181 = .ok (.iload_n 2, 1) := by decide +kernel
theorem dX4_measure_182 : decode cX4_measure 182 = .ok (.iaload, 1) := by decide +kernel
theorem dX4_measure_183 : decode cX4_measure 183 = .ok (.isub, 1) := by decide +kernel
theorem dX4_measure_184 : decode cX4_measure 184 = .ok (.iconst 1, 1) := by decide +kernel
theorem dX4_measure_185 : decode cX4_measure 185 = .ok (.iadd, 1) := by decide +kernel
theorem dX4_measure_186 : decode cX4_measure 186 = .ok (.iastore, 1) := by decide +kernel
theorem dX4_measure_187 : decode cX4_measure 187 = .ok (.return_, 1) := by decide +kernel
theorem dX5_init_0 : decode cX5_init 0 = .ok (.aload_n 0, 1) := by decide +kernel
theorem dX5_init_1 : decode cX5_init 1 = .ok (.invokespecial 3, 3) := by decide +kernel
theorem dX5_init_4 : decode cX5_init 4 = .ok (.aload_n 0, 1) := by decide +kernel
theorem dX5_init_5 : decode cX5_init 5 = .ok (.iconst 0, 1) := by decide +kernel
theorem dX5_init_6 : decode cX5_init 6 = .ok (.putfield 9, 3) := by decide +kernel
theorem dX5_init_9 : decode cX5_init 9 = .ok (.aload_n 0, 1) := by decide +kernel
theorem dX5_init_10 : decode cX5_init 10 = .ok (.iconst 0, 1) := by decide +kernel
theorem dX5_init_11 : decode cX5_init 11 = .ok (.putfield 15, 3) := by decide +kernel
theorem dX5_init_14 : decode cX5_init 14 = .ok (.aload_n 0, 1) := by decide +kernel
theorem dX5_init_15 : decode cX5_init 15 = .ok (.bipush 20, 2) := by decide +kernel
theorem dX5_init_17 : decode cX5_init 17 = .ok (.newarray .int, 2) := by decide +kernel
theorem dX5_init_19 : decode cX5_init 19 = .ok (.putfield 18, 3) := by decide +kernel
theorem dX5_init_22 : decode cX5_init 22 = .ok (.aload_n 0, 1) := by decide +kernel
theorem dX5_init_23 : decode cX5_init 23 = .ok (.bipush 20, 2) := by decide +kernel
theorem dX5_init_25 : decode cX5_init 25 = .ok (.newarray .int, 2) := by decide +kernel
theorem dX5_init_27 : decode cX5_init 27 = .ok (.putfield 22, 3) := by decide +kernel
theorem dX5_init_30 : decode cX5_init 30 = .ok (.return_, 1) := by decide +kernel
theorem dX5_isFull_0 : decode cX5_isFull 0 = .ok (.aload_n 0, 1) := by decide +kernel
theorem dX5_isFull_1 : decode cX5_isFull 1 = .ok (.getfield 9, 3) := by decide +kernel
theorem dX5_isFull_4 : decode cX5_isFull 4 = .ok (.bipush 20, 2) := by decide +kernel
theorem dX5_isFull_6 : decode cX5_isFull 6 = .ok (.if_icmp .lt 7, 3) := by decide +kernel
theorem dX5_isFull_9 : decode cX5_isFull 9 = .ok (.iconst 1, 1) := by decide +kernel
theorem dX5_isFull_10 : decode cX5_isFull 10 = .ok (.goto 4, 3) := by decide +kernel
theorem dX5_isFull_13 : decode cX5_isFull 13 = .ok (.iconst 0, 1) := by decide +kernel
theorem dX5_isFull_14 : decode cX5_isFull 14 = .ok (.ireturn, 1) := by decide +kernel
theorem dX5_put_0 : decode cX5_put 0 = .ok (.aload_n 0, 1) := by decide +kernel
theorem dX5_put_1 : decode cX5_put 1 = .ok (.getfield 9, 3) := by decide +kernel
theorem dX5_put_4 : decode cX5_put 4 = .ok (.ifCond .lt 42, 3) := by decide +kernel
theorem dX5_put_7 : decode cX5_put 7 = .ok (.aload_n 0, 1) := by decide +kernel
theorem dX5_put_8 : decode cX5_put 8 = .ok (.getfield 9, 3) := by decide +kernel
theorem dX5_put_11 : decode cX5_put 11 = .ok (.bipush 20, 2) := by decide +kernel
theorem dX5_put_13 : decode cX5_put 13 = .ok (.if_icmp .ge 33, 3) := by decide +kernel
theorem dX5_put_16 : decode cX5_put 16 = .ok (.aload_n 0, 1) := by decide +kernel
theorem dX5_put_17 : decode cX5_put 17 = .ok (.getfield 18, 3) := by decide +kernel
theorem dX5_put_20 : decode cX5_put 20 = .ok (.aload_n 0, 1) := by decide +kernel
theorem dX5_put_21 : decode cX5_put 21 = .ok (.getfield 9, 3) := by decide +kernel
theorem dX5_put_24 : decode cX5_put 24 = .ok (.iload_n 1, 1) := by decide +kernel
theorem dX5_put_25 : decode cX5_put 25 = .ok (.iastore, 1) := by decide +kernel
theorem dX5_put_26 : decode cX5_put 26 = .ok (.aload_n 0, 1) := by decide +kernel
theorem dX5_put_27 : decode cX5_put 27 = .ok (.getfield 22, 3) := by decide +kernel
theorem dX5_put_30 : decode cX5_put 30 = .ok (.aload_n 0, 1) := by decide +kernel
theorem dX5_put_31 : decode cX5_put 31 = .ok (.getfield 9, 3) := by decide +kernel
theorem dX5_put_34 : decode cX5_put 34 = .ok (.iload_n 2, 1) := by decide +kernel
theorem dX5_put_35 : decode cX5_put 35 = .ok (.iastore, 1) := by decide +kernel
theorem dX5_put_36 : decode cX5_put 36 = .ok (.aload_n 0, 1) := by decide +kernel
theorem dX5_put_37 : decode cX5_put 37 = .ok (.dup, 1) := by decide +kernel
theorem dX5_put_38 : decode cX5_put 38 = .ok (.getfield 9, 3) := by decide +kernel
theorem dX5_put_41 : decode cX5_put 41 = .ok (.iconst 1, 1) := by decide +kernel
theorem dX5_put_42 : decode cX5_put 42 = .ok (.iadd, 1) := by decide +kernel
theorem dX5_put_43 : decode cX5_put 43 = .ok (.putfield 9, 3) := by decide +kernel
theorem dX5_put_46 : decode cX5_put 46 = .ok (.return_, 1) := by decide +kernel
set_option maxRecDepth 20000 in
theorem ggX5_takeTopmostFor_X5_has : GoodIn wsX5_takeTopmostFor wsX5_has := goodIn_r _ [8, 1, 14, 15, 16, 17] (by decide +kernel) (by decide +kernel)
set_option maxRecDepth 20000 in
theorem gX5_takeTopmostFor_X5_has : GoodIn wsX5_takeTopmostFor (wsV RX5 25 RX5 yX5_has wsX5_has) := goodIn_app (goodIn_of _ (by decide +kernel)) ggX5_takeTopmostFor_X5_has
set_option maxRecDepth 20000 in
theorem ggX5_takeTopmostFor_X5_remove : GoodIn wsX5_takeTopmostFor wsX5_remove := goodIn_r _ [12, 1, 2, 3, 13, 4, 5, 6, 7, 8, 14, 15, 16, 17] (by decide +kernel) (by decide +kernel)
set_option maxRecDepth 20000 in
theorem gX5_takeTopmostFor_X5_remove : GoodIn wsX5_takeTopmostFor (wsV RX5 29 RX5 yX5_remove wsX5_remove) := goodIn_app (goodIn_of _ (by decide +kernel)) ggX5_takeTopmostFor_X5_remove
theorem dX5_takeTopmostFor_0 : decode cX5_takeTopmostFor 0 = .ok (.aload_n 0, 1) := by decide +kernel
theorem dX5_takeTopmostFor_1 : decode cX5_takeTopmostFor 1 = .ok (.getfield 9, 3) := by decide +kernel
theorem dX5_takeTopmostFor_4 : decode cX5_takeTopmostFor 4 = .ok (.iconst 1, 1) := by decide +kernel
theorem dX5_takeTopmostFor_5 : decode cX5_takeTopmostFor 5 = .ok (.isub, 1) := by decide +kernel
theorem dX5_takeTopmostFor_6 : decode cX5_takeTopmostFor 6 = .ok (.istore_n 2, 1) := by decide +kernel
theorem dX5_takeTopmostFor_7 : decode cX5_takeTopmostFor 7 = .ok (.iload_n 2, 1) := by decide +kernel
theorem dX5_takeTopmostFor_8 : decode cX5_takeTopmostFor 8 = .ok (.ifCond .lt 41, 3) := by decide +kernel
theorem dX5_takeTopmostFor_11 : decode cX5_takeTopmostFor 11 = .ok (.aload_n 0, 1) := by decide +kernel
theorem dX5_takeTopmostFor_12 : decode cX5_takeTopmostFor 12 = .ok (.iload_n 2, 1) := by decide +kernel
theorem dX5_takeTopmostFor_13 : decode cX5_takeTopmostFor 13 = .ok (.invokevirtual 25, 3) := by decide +kernel
theorem dX5_takeTopmostFor_16 : decode cX5_takeTopmostFor 16 = .ok (.ifCond .eq 27, 3) := by decide +kernel
theorem dX5_takeTopmostFor_19 : decode cX5_takeTopmostFor 19 = .ok (.aload_n 0, 1) := by decide +kernel
theorem dX5_takeTopmostFor_20 : decode cX5_takeTopmostFor 20 = .ok (.getfield 18, 3) := by decide +kernel
theorem dX5_takeTopmostFor_23 : decode cX5_takeTopmostFor 23 = .ok (.iload_n 2, 1) := by decide +kernel
theorem dX5_takeTopmostFor_24 : decode cX5_takeTopmostFor 24 = .ok (.iaload, 1) := by decide +kernel
theorem dX5_takeTopmostFor_25 : decode cX5_takeTopmostFor 25 = .ok (.iload_n 1, 1) := by decide +kernel
theorem dX5_takeTopmostFor_26 : decode cX5_takeTopmostFor 26 = .ok (.if_icmp .ne 17, 3) := by decide +kernel
theorem dX5_takeTopmostFor_29 : decode cX5_takeTopmostFor 29 = .ok (.aload_n 0, 1) := by decide +kernel
theorem dX5_takeTopmostFor_30 : decode cX5_takeTopmostFor 30 = .ok (.getfield 22, 3) := by decide +kernel
theorem dX5_takeTopmostFor_33 : decode cX5_takeTopmostFor 33 = .ok (.iload_n 2, 1) := by decide +kernel
theorem dX5_takeTopmostFor_34 : decode cX5_takeTopmostFor 34 = .ok (.iaload, 1) := by decide +kernel
theorem dX5_takeTopmostFor_35 : decode cX5_takeTopmostFor 35 = .ok (.istore_n 3, 1) := by decide +kernel
theorem dX5_takeTopmostFor_36 : decode cX5_takeTopmostFor 36 = .ok (.aload_n 0, 1) := by decide +kernel
theorem dX5_takeTopmostFor_37 : decode cX5_takeTopmostFor 37 = .ok (.iload_n 2, 1) := by decide +kernel
theorem dX5_takeTopmostFor_38 : decode cX5_takeTopmostFor 38 = .ok (.invokevirtual 29, 3) := by decide +kernel
theorem dX5_takeTopmostFor_41 : decode cX5_takeTopmostFor 41 = .ok (.iload_n 3, 1) := by decide +kernel
theorem dX5_takeTopmostFor_42 : decode cX5_takeTopmostFor 42 = .ok (.ireturn, 1) := by decide +kernel
theorem dX5_takeTopmostFor_43 : decode cX5_takeTopmostFor 43 = .ok (.iinc 2 (-1), 3) := by decide +kernel
theorem dX5_takeTopmostFor_46 : decode cX5_takeTopmostFor 46 = .ok (.goto (-39), 3) := by decide +kernel
theorem dX5_takeTopmostFor_49 : decode cX5_takeTopmostFor 49 = .ok (.iconst (-1), 1) := by decide +kernel
theorem dX5_takeTopmostFor_50 : decode cX5_takeTopmostFor 50 = .ok (.ireturn, 1) := by decide +kernel
theorem dX5_has_0 : decode cX5_has 0 = .ok (.iload_n 1, 1) := by decide +kernel
theorem dX5_has_1 : decode cX5_has 1 = .ok (.ifCond .lt 21, 3) := by decide +kernel
theorem dX5_has_4 : decode cX5_has 4 = .ok (.iload_n 1, 1) := by decide +kernel
theorem dX5_has_5 : decode cX5_has 5 = .ok (.aload_n 0, 1) := by decide +kernel
theorem dX5_has_6 : decode cX5_has 6 = .ok (.getfield 9, 3) := by decide +kernel
theorem dX5_has_9 : decode cX5_has 9 = .ok (.if_icmp .ge 13, 3) := by decide +kernel
theorem dX5_has_12 : decode cX5_has 12 = .ok (.iload_n 1, 1) := by decide +kernel
theorem dX5_has_13 : decode cX5_has 13 = .ok (.bipush 20, 2) := by decide +kernel
theorem dX5_has_15 : decode cX5_has 15 = .ok (.if_icmp .ge 7, 3) := by decide +kernel
theorem dX5_has_18 : decode cX5_has 18 = .ok (.iconst 1, 1) := by decide +kernel
theorem dX5_has_19 : decode cX5_has 19 = .ok (.goto 4, 3) := by decide +kernel
theorem dX5_has_22 : decode cX5_has 22 = .ok (.iconst 0, 1) := by decide +kernel
theorem dX5_has_23 : decode cX5_has 23 = .ok (.ireturn, 1) := by decide +kernel
set_option maxRecDepth 20000 in
theorem ggX5_remove_X5_has : GoodIn wsX5_remove wsX5_has := goodIn_r _ [9, 1, 10, 11, 12, 13] (by decide +kernel) (by decide +kernel)
set_option maxRecDepth 20000 in
theorem gX5_remove_X5_has : GoodIn wsX5_remove (wsV RX5 25 RX5 yX5_has wsX5_has) := goodIn_app (goodIn_of _ (by decide +kernel)) ggX5_remove_X5_has
theorem dX5_remove_0 : decode cX5_remove 0 = .ok (.aload_n 0, 1) := by decide +kernel
theorem dX5_remove_1 : decode cX5_remove 1 = .ok (.iload_n 1, 1) := by decide +kernel
theorem dX5_remove_2 : decode cX5_remove 2 = .ok (.invokevirtual 25, 3) := by decide +kernel
theorem dX5_remove_5 : decode cX5_remove 5 = .ok (.ifCond .ne 4, 3) := by decide +kernel
theorem dX5_remove_8 : decode cX5_remove 8 = .ok (.return_, 1) := by decide +kernel
theorem dX5_remove_9 : decode cX5_remove 9 = .ok (.iload_n 1, 1) := by decide +kernel
theorem dX5_remove_10 : decode cX5_remove 10 = .ok (.iconst 1, 1) := by decide +kernel
theorem dX5_remove_11 : decode cX5_remove 11 = .ok (.iadd, 1) := by decide +kernel
theorem dX5_remove_12 : decode cX5_remove 12 = .ok (.istore_n 2, 1) := by decide +kernel
theorem dX5_remove_13 : decode cX5_remove 13 = .ok (.iload_n 2, 1) := by decide +kernel
theorem dX5_remove_14 : decode cX5_remove 14 = .ok (.aload_n 0, 1) := by decide +kernel
theorem dX5_remove_15 : decode cX5_remove 15 = .ok (.getfield 9, 3) := by decide +kernel
theorem dX5_remove_18 : decode cX5_remove 18 = .ok (.if_icmp .ge 53, 3) := by decide +kernel
theorem dX5_remove_21 : decode cX5_remove 21 = .ok (.iload_n 2, 1) := by decide +kernel
theorem dX5_remove_22 : decode cX5_remove 22 = .ok (.bipush 20, 2) := by decide +kernel
theorem dX5_remove_24 : decode cX5_remove 24 = .ok (.if_icmp .ge 47, 3) := by decide +kernel
theorem dX5_remove_27 : decode cX5_remove 27 = .ok (.aload_n 0, 1) := by decide +kernel
theorem dX5_remove_28 : decode cX5_remove 28 = .ok (.getfield 18, 3) := by decide +kernel
theorem dX5_remove_31 : decode cX5_remove 31 = .ok (.iload_n 2, 1) := by decide +kernel
theorem dX5_remove_32 : decode cX5_remove 32 = .ok (.iconst 1, 1) := by decide +kernel
theorem dX5_remove_33 : decode cX5_remove 33 = .ok (.isub, 1) := by decide +kernel
theorem dX5_remove_34 : decode cX5_remove 34 = .ok (.aload_n 0, 1) := by decide +kernel
theorem dX5_remove_35 : decode cX5_remove 35 = .ok (.getfield 18, 3) := by decide +kernel
theorem dX5_remove_38 : decode cX5_remove 38 = .ok (.iload_n 2, 1) := by decide +kernel
theorem dX5_remove_39 : decode cX5_remove 39 = .ok (.iaload, 1) := by decide +kernel
theorem dX5_remove_40 : decode cX5_remove 40 = .ok (.iastore, 1) := by decide +kernel
theorem dX5_remove_41 : decode cX5_remove 41 = .ok (.aload_n 0, 1) := by decide +kernel
theorem dX5_remove_42 : decode cX5_remove 42 = .ok (.getfield 22, 3) := by decide +kernel
theorem dX5_remove_45 : decode cX5_remove 45 = .ok (.iload_n 2, 1) := by decide +kernel
theorem dX5_remove_46 : decode cX5_remove 46 = .ok (.iconst 1, 1) := by decide +kernel
theorem dX5_remove_47 : decode cX5_remove 47 = .ok (.isub, 1) := by decide +kernel
theorem dX5_remove_48 : decode cX5_remove 48 = .ok (.aload_n 0, 1) := by decide +kernel
theorem dX5_remove_49 : decode cX5_remove 49 = .ok (.getfield 22, 3) := by decide +kernel
theorem dX5_remove_52 : decode cX5_remove 52 = .ok (.iload_n 2, 1) := by decide +kernel
theorem dX5_remove_53 : decode cX5_remove 53 = .ok (.iaload, 1) := by decide +kernel
theorem dX5_remove_54 : decode cX5_remove 54 = .ok (.iastore, 1) := by decide +kernel
theorem dX5_remove_55 : decode cX5_remove 55 = .ok (.aload_n 0, 1) := by decide +kernel
theorem dX5_remove_56 : decode cX5_remove 56 = .ok (.dup, 1) := by decide +kernel
theorem dX5_remove_57 : decode cX5_remove 57 = .ok (.getfield 15, 3) := by decide +kernel
theorem dX5_remove_60 : decode cX5_remove 60 = .ok (.iconst 2, 1) := by decide +kernel
theorem dX5_remove_61 : decode cX5_remove 61 = .ok (.iadd, 1) := by decide +kernel
theorem dX5_remove_62 : decode cX5_remove 62 = .ok (.putfield 15, 3) := by decide +kernel
theorem dX5_remove_65 : decode cX5_remove 65 = .ok (.iinc 2 1, 3) := by decide +kernel
theorem dX5_remove_68 : decode cX5_remove 68 = .ok (.goto (-55), 3) := by decide +kernel
theorem dX5_remove_71 : decode cX5_remove 71 = .ok (.aload_n 0, 1) := by decide +kernel
theorem dX5_remove_72 : decode cX5_remove 72 = .ok (.dup, 1) := by decide +kernel
theorem dX5_remove_73 : decode cX5_remove 73 = .ok (.getfield 9, 3) := by decide +kernel
theorem dX5_remove_76 : decode cX5_remove 76 = .ok (.iconst 1, 1) := by decide +kernel
theorem dX5_remove_77 : decode cX5_remove 77 = .ok (.isub, 1) := by decide +kernel
theorem dX5_remove_78 : decode cX5_remove 78 = .ok (.putfield 9, 3) := by decide +kernel
theorem dX5_remove_81 : decode cX5_remove 81 = .ok (.return_, 1) := by decide +kernel
theorem dX6_init_0 : decode cX6_init 0 = .ok (.aload_n 0, 1) := by decide +kernel
theorem dX6_init_1 : decode cX6_init 1 = .ok (.invokespecial 3, 3) := by decide +kernel
theorem dX6_init_4 : decode cX6_init 4 = .ok (.aload_n 0, 1) := by decide +kernel
theorem dX6_init_5 : decode cX6_init 5 = .ok (.iconst 0, 1) := by decide +kernel
theorem dX6_init_6 : decode cX6_init 6 = .ok (.putfield 9, 3) := by decide +kernel
theorem dX6_init_9 : decode cX6_init 9 = .ok (.aload_n 0, 1) := by decide +kernel
theorem dX6_init_10 : decode cX6_init 10 = .ok (.bipush 6, 2) := by decide +kernel
theorem dX6_init_12 : decode cX6_init 12 = .ok (.putfield 15, 3) := by decide +kernel
theorem dX6_init_15 : decode cX6_init 15 = .ok (.aload_n 0, 1) := by decide +kernel
theorem dX6_init_16 : decode cX6_init 16 = .ok (.iconst 0, 1) := by decide +kernel
theorem dX6_init_17 : decode cX6_init 17 = .ok (.putfield 18, 3) := by decide +kernel
theorem dX6_init_20 : decode cX6_init 20 = .ok (.aload_n 0, 1) := by decide +kernel
theorem dX6_init_21 : decode cX6_init 21 = .ok (.bipush 8, 2) := by decide +kernel
theorem dX6_init_23 : decode cX6_init 23 = .ok (.newarray .boolean, 2) := by decide +kernel
theorem dX6_init_25 : decode cX6_init 25 = .ok (.putfield 22, 3) := by decide +kernel
theorem dX6_init_28 : decode cX6_init 28 = .ok (.aload_n 0, 1) := by decide +kernel
theorem dX6_init_29 : decode cX6_init 29 = .ok (.bipush 8, 2) := by decide +kernel
theorem dX6_init_31 : decode cX6_init 31 = .ok (.newarray .int, 2) := by decide +kernel
theorem dX6_init_33 : decode cX6_init 33 = .ok (.putfield 26, 3) := by decide +kernel
theorem dX6_init_36 : decode cX6_init 36 = .ok (.return_, 1) := by decide +kernel
theorem dX6_isLaid_0 : decode cX6_isLaid 0 = .ok (.iload_n 1, 1) := by decide +kernel
theorem dX6_isLaid_1 : decode cX6_isLaid 1 = .ok (.ifCond .lt 22, 3) := by decide +kernel
theorem dX6_isLaid_4 : decode cX6_isLaid 4 = .ok (.iload_n 1, 1) := by decide +kernel
theorem dX6_isLaid_5 : decode cX6_isLaid 5 = .ok (.bipush 8, 2) := by decide +kernel
theorem dX6_isLaid_7 : decode cX6_isLaid 7 = .ok (.if_icmp .ge 16, 3) := by decide +kernel
theorem dX6_isLaid_10 : decode cX6_isLaid 10 = .ok (.aload_n 0, 1) := by decide +kernel
theorem dX6_isLaid_11 : decode cX6_isLaid 11 = .ok (.getfield 22, 3) := by decide +kernel
theorem dX6_isLaid_14 : decode cX6_isLaid 14 = .ok (.iload_n 1, 1) := by decide +kernel
theorem dX6_isLaid_15 : decode cX6_isLaid 15 = .ok (.baload, 1) := by decide +kernel
theorem dX6_isLaid_16 : decode cX6_isLaid 16 = .ok (.ifCond .eq 7, 3) := by decide +kernel
theorem dX6_isLaid_19 : decode cX6_isLaid 19 = .ok (.iconst 1, 1) := by decide +kernel
theorem dX6_isLaid_20 : decode cX6_isLaid 20 = .ok (.goto 4, 3) := by decide +kernel
theorem dX6_isLaid_23 : decode cX6_isLaid 23 = .ok (.iconst 0, 1) := by decide +kernel
theorem dX6_isLaid_24 : decode cX6_isLaid 24 = .ok (.ireturn, 1) := by decide +kernel
set_option maxRecDepth 20000 in
theorem ggX6_dryHourOf_X6_isLaid : GoodIn wsX6_dryHourOf wsX6_isLaid := goodIn_r _ [6, 7, 8, 9, 10, 11, 12] (by decide +kernel) (by decide +kernel)
set_option maxRecDepth 20000 in
theorem gX6_dryHourOf_X6_isLaid : GoodIn wsX6_dryHourOf (wsV RX6 30 RX6 yX6_isLaid wsX6_isLaid) := goodIn_app (goodIn_of _ (by decide +kernel)) ggX6_dryHourOf_X6_isLaid
theorem dX6_dryHourOf_0 : decode cX6_dryHourOf 0 = .ok (.aload_n 0, 1) := by decide +kernel
theorem dX6_dryHourOf_1 : decode cX6_dryHourOf 1 = .ok (.iload_n 1, 1) := by decide +kernel
theorem dX6_dryHourOf_2 : decode cX6_dryHourOf 2 = .ok (.invokevirtual 30, 3) := by decide +kernel
theorem dX6_dryHourOf_5 : decode cX6_dryHourOf 5 = .ok (.ifCond .eq 12, 3) := by decide +kernel
theorem dX6_dryHourOf_8 : decode cX6_dryHourOf 8 = .ok (.aload_n 0, 1) := by decide +kernel
theorem dX6_dryHourOf_9 : decode cX6_dryHourOf 9 = .ok (.getfield 26, 3) := by decide +kernel
theorem dX6_dryHourOf_12 : decode cX6_dryHourOf 12 = .ok (.iload_n 1, 1) := by decide +kernel
theorem dX6_dryHourOf_13 : decode cX6_dryHourOf 13 = .ok (.iaload, 1) := by decide +kernel
theorem dX6_dryHourOf_14 : decode cX6_dryHourOf 14 = .ok (.goto 4, 3) := by decide +kernel
theorem dX6_dryHourOf_17 : decode cX6_dryHourOf 17 = .ok (.iconst (-1), 1) := by decide +kernel
theorem dX6_dryHourOf_18 : decode cX6_dryHourOf 18 = .ok (.ireturn, 1) := by decide +kernel
set_option maxRecDepth 20000 in
theorem ggX6_canStart_X6_isLaid : GoodIn wsX6_canStart wsX6_isLaid := goodIn_r _ [8, 1, 9, 10, 11, 12, 13] (by decide +kernel) (by decide +kernel)
set_option maxRecDepth 20000 in
theorem gX6_canStart_X6_isLaid : GoodIn wsX6_canStart (wsV RX6 30 RX6 yX6_isLaid wsX6_isLaid) := goodIn_app (goodIn_of _ (by decide +kernel)) ggX6_canStart_X6_isLaid
theorem dX6_canStart_0 : decode cX6_canStart 0 = .ok (.aload_n 0, 1) := by decide +kernel
theorem dX6_canStart_1 : decode cX6_canStart 1 = .ok (.iload_n 1, 1) := by decide +kernel
theorem dX6_canStart_2 : decode cX6_canStart 2 = .ok (.invokevirtual 30, 3) := by decide +kernel
theorem dX6_canStart_5 : decode cX6_canStart 5 = .ok (.ifCond .eq 5, 3) := by decide +kernel
theorem dX6_canStart_8 : decode cX6_canStart 8 = .ok (.iconst 0, 1) := by decide +kernel
theorem dX6_canStart_9 : decode cX6_canStart 9 = .ok (.ireturn, 1) := by decide +kernel
theorem dX6_canStart_10 : decode cX6_canStart 10 = .ok (.iconst 0, 1) := by decide +kernel
theorem dX6_canStart_11 : decode cX6_canStart 11 = .ok (.istore_n 2, 1) := by decide +kernel
theorem dX6_canStart_12 : decode cX6_canStart 12 = .ok (.iload_n 2, 1) := by decide +kernel
theorem dX6_canStart_13 : decode cX6_canStart 13 = .ok (.iload_n 1, 1) := by decide +kernel
theorem dX6_canStart_14 : decode cX6_canStart 14 = .ok (.if_icmp .ge 39, 3) := by decide +kernel
theorem dX6_canStart_17 : decode cX6_canStart 17 = .ok (.iload_n 2, 1) := by decide +kernel
theorem dX6_canStart_18 : decode cX6_canStart 18 = .ok (.bipush 8, 2) := by decide +kernel
theorem dX6_canStart_20 : decode cX6_canStart 20 = .ok (.if_icmp .ge 33, 3) := by decide +kernel
theorem dX6_canStart_23 : decode cX6_canStart 23 = .ok (.aload_n 0, 1) := by decide +kernel
theorem dX6_canStart_24 : decode cX6_canStart 24 = .ok (.getfield 22, 3) := by decide +kernel
theorem dX6_canStart_27 : decode cX6_canStart 27 = .ok (.iload_n 2, 1) := by decide +kernel
theorem dX6_canStart_28 : decode cX6_canStart 28 = .ok (.baload, 1) := by decide +kernel
theorem dX6_canStart_29 : decode cX6_canStart 29 = .ok (.ifCond .eq 18, 3) := by decide +kernel
theorem dX6_canStart_32 : decode cX6_canStart 32 = .ok (.aload_n 0, 1) := by decide +kernel
theorem dX6_canStart_33 : decode cX6_canStart 33 = .ok (.getfield 9, 3) := by decide +kernel
theorem dX6_canStart_36 : decode cX6_canStart 36 = .ok (.aload_n 0, 1) := by decide +kernel
theorem dX6_canStart_37 : decode cX6_canStart 37 = .ok (.getfield 26, 3) := by decide +kernel
theorem dX6_canStart_40 : decode cX6_canStart 40 = .ok (.iload_n 2, 1) := by decide +kernel
theorem dX6_canStart_41 : decode cX6_canStart 41 = .ok (.iaload, 1) := by decide +kernel
theorem dX6_canStart_42 : decode cX6_canStart 42 = .ok (.if_icmp .ge 5, 3) := by decide +kernel
theorem dX6_canStart_45 : decode cX6_canStart 45 = .ok (.iconst 0, 1) := by decide +kernel
theorem dX6_canStart_46 : decode cX6_canStart 46 = .ok (.ireturn, 1) := by decide +kernel
theorem dX6_canStart_47 : decode cX6_canStart 47 = .ok (.iinc 2 1, 3) := by decide +kernel
theorem dX6_canStart_50 : decode cX6_canStart 50 = .ok (.goto (-38), 3) := by decide +kernel
theorem dX6_canStart_53 : decode cX6_canStart 53 = .ok (.iconst 1, 1) := by decide +kernel
theorem dX6_canStart_54 : decode cX6_canStart 54 = .ok (.ireturn, 1) := by decide +kernel
set_option maxRecDepth 20000 in
theorem ggX6_finish_X7_timesIn : GoodIn wsX6_finish wsX7_timesIn := goodIn_r _ [8] (by decide +kernel) (by decide +kernel)
set_option maxRecDepth 20000 in
theorem gX6_finish_X7_timesIn_n34 : GoodIn wsX6_finish (wsX7_timesIn) := ggX6_finish_X7_timesIn
theorem dX6_finish_0 : decode cX6_finish 0 = .ok (.iload_n 1, 1) := by decide +kernel
theorem dX6_finish_1 : decode cX6_finish 1 = .ok (.ifCond .lt 9, 3) := by decide +kernel
theorem dX6_finish_4 : decode cX6_finish 4 = .ok (.iload_n 1, 1) := by decide +kernel
theorem dX6_finish_5 : decode cX6_finish 5 = .ok (.bipush 8, 2) := by decide +kernel
theorem dX6_finish_7 : decode cX6_finish 7 = .ok (.if_icmp .lt 4, 3) := by decide +kernel
theorem dX6_finish_10 : decode cX6_finish 10 = .ok (.return_, 1) := by decide +kernel
theorem dX6_finish_11 : decode cX6_finish 11 = .ok (.aload_n 0, 1) := by decide +kernel
theorem dX6_finish_12 : decode cX6_finish 12 = .ok (.dup, 1) := by decide +kernel
theorem dX6_finish_13 : decode cX6_finish 13 = .ok (.getfield 9, 3) := by decide +kernel
theorem dX6_finish_16 : decode cX6_finish 16 = .ok (.iconst 4, 1) := by decide +kernel
theorem dX6_finish_17 : decode cX6_finish 17 = .ok (.iload_n 2, 1) := by decide +kernel
theorem dX6_finish_18 : decode cX6_finish 18 = .ok (.iconst 4, 1) := by decide +kernel
theorem dX6_finish_19 : decode cX6_finish 19 = .ok (.iadd, 1) := by decide +kernel
theorem dX6_finish_20 : decode cX6_finish 20 = .ok (.iconst 1, 1) := by decide +kernel
theorem dX6_finish_21 : decode cX6_finish 21 = .ok (.isub, 1) := by decide +kernel
theorem dX6_finish_22 : decode cX6_finish 22 = .ok (.invokestatic 34, 3) := by decide +kernel
theorem dX6_finish_25 : decode cX6_finish 25 = .ok (.iadd, 1) := by decide +kernel
theorem dX6_finish_26 : decode cX6_finish 26 = .ok (.putfield 9, 3) := by decide +kernel
theorem dX6_finish_29 : decode cX6_finish 29 = .ok (.aload_n 0, 1) := by decide +kernel
theorem dX6_finish_30 : decode cX6_finish 30 = .ok (.getfield 22, 3) := by decide +kernel
theorem dX6_finish_33 : decode cX6_finish 33 = .ok (.iload_n 1, 1) := by decide +kernel
theorem dX6_finish_34 : decode cX6_finish 34 = .ok (.iconst 1, 1) := by decide +kernel
theorem dX6_finish_35 : decode cX6_finish 35 = .ok (.bastore, 1) := by decide +kernel
theorem dX6_finish_36 : decode cX6_finish 36 = .ok (.aload_n 0, 1) := by decide +kernel
theorem dX6_finish_37 : decode cX6_finish 37 = .ok (.getfield 26, 3) := by decide +kernel
theorem dX6_finish_40 : decode cX6_finish 40 = .ok (.iload_n 1, 1) := by decide +kernel
theorem dX6_finish_41 : decode cX6_finish 41 = .ok (.aload_n 0, 1) := by decide +kernel
theorem dX6_finish_42 : decode cX6_finish 42 = .ok (.getfield 9, 3) := by decide +kernel
theorem dX6_finish_45 : decode cX6_finish 45 = .ok (.aload_n 0, 1) := by decide +kernel
theorem dX6_finish_46 : decode cX6_finish 46 = .ok (.getfield 15, 3) := by decide +kernel
theorem dX6_finish_49 : decode cX6_finish 49 = .ok (.iadd, 1) := by decide +kernel
theorem dX6_finish_50 : decode cX6_finish 50 = .ok (.iastore, 1) := by decide +kernel
theorem dX6_finish_51 : decode cX6_finish 51 = .ok (.aload_n 0, 1) := by decide +kernel
theorem dX6_finish_52 : decode cX6_finish 52 = .ok (.iconst 1, 1) := by decide +kernel
theorem dX6_finish_53 : decode cX6_finish 53 = .ok (.putfield 18, 3) := by decide +kernel
theorem dX6_finish_56 : decode cX6_finish 56 = .ok (.return_, 1) := by decide +kernel
set_option maxRecDepth 20000 in
theorem ggX7_init_X3_init : GoodIn wsX7_init wsX3_init := goodIn_r _ [33, 34, 2, 3, 35, 36, 37, 38, 225, 226, 227, 228] (by decide +kernel) (by decide +kernel)
set_option maxRecDepth 20000 in
theorem gX7_init_X3_init_n11 : GoodIn wsX7_init (wsX3_init) := ggX7_init_X3_init
set_option maxRecDepth 20000 in
theorem ggX7_init_X0_init : GoodIn wsX7_init wsX0_init := goodIn_r _ [40, 41, 2, 3, 42, 43, 44, 45, 236, 237, 238] (by decide +kernel) (by decide +kernel)
set_option maxRecDepth 20000 in
theorem gX7_init_X0_init_n18 : GoodIn wsX7_init (wsX0_init) := ggX7_init_X0_init
set_option maxRecDepth 20000 in
theorem ggX7_init_X4_init : GoodIn wsX7_init wsX4_init := goodIn_r _ [47, 48, 2, 3, 49, 50, 51, 52, 53, 54, 55, 56, 57, 58, 29, 30, 59, 60, 61, 62, 63, 64, 65, 66, 239, 240, 241, 242, 243, 244, 245, 246, 247, 263, 264, 265, 266] (by decide +kernel) (by decide +kernel)
set_option maxRecDepth 20000 in
theorem gX7_init_X4_init_n25 : GoodIn wsX7_init (wsX4_init) := ggX7_init_X4_init
set_option maxRecDepth 20000 in
theorem ggX7_init_X1_init : GoodIn wsX7_init wsX1_init := goodIn_r _ [68, 69, 2, 3, 70, 50, 71, 72, 73, 74, 75, 248, 249, 250, 251, 252, 253] (by decide +kernel) (by decide +kernel)
set_option maxRecDepth 20000 in
theorem gX7_init_X1_init_n32 : GoodIn wsX7_init (wsX1_init) := ggX7_init_X1_init
set_option maxRecDepth 20000 in
theorem ggX7_init_X5_init : GoodIn wsX7_init wsX5_init := goodIn_r _ [77, 78, 2, 3, 79, 80, 50, 81, 82, 254, 255, 256, 257] (by decide +kernel) (by decide +kernel)
set_option maxRecDepth 20000 in
theorem gX7_init_X5_init_n39 : GoodIn wsX7_init (wsX5_init) := ggX7_init_X5_init
set_option maxRecDepth 20000 in
theorem ggX7_init_X6_init : GoodIn wsX7_init wsX6_init := goodIn_r _ [84, 85, 2, 3, 86, 87, 88, 42, 89, 50, 90, 258, 259, 260, 261, 262] (by decide +kernel) (by decide +kernel)
set_option maxRecDepth 20000 in
theorem gX7_init_X6_init_n46 : GoodIn wsX7_init (wsX6_init) := ggX7_init_X6_init
set_option maxRecDepth 20000 in
theorem ggX7_init_X2_init : GoodIn wsX7_init wsX2_init := goodIn_r _ [61, 62, 2, 3, 63, 64, 65, 66, 263, 264, 265, 266] (by decide +kernel) (by decide +kernel)
set_option maxRecDepth 20000 in
theorem gX7_init_X2_init_n53 : GoodIn wsX7_init (wsX2_init) := ggX7_init_X2_init
set_option maxRecDepth 20000 in
theorem ggX7_init_X7_renew : GoodIn wsX7_init wsX7_renew := goodIn_r _ [95, 11, 7, 27, 15, 19, 96, 97, 98, 10, 99, 100, 101, 102, 6, 103, 37, 104, 105, 106, 107, 108, 109, 110, 111, 112, 113, 114, 115, 36, 116, 94, 117, 118, 119, 120, 26, 121, 89, 122, 123, 124, 125, 44, 43, 126, 127, 128, 129, 130, 131, 132, 133, 45, 134, 135, 136, 14, 137, 49, 51, 138, 139, 140, 141, 142, 143, 144, 145, 146, 147, 148, 149, 53, 54, 59, 52, 55, 150, 151, 152, 153, 154, 155, 156, 157, 158, 159, 38, 35, 160, 161, 162, 163, 164, 165, 166, 167, 168, 169, 170, 171, 172, 173, 174, 175, 176, 177, 30, 178, 63, 64, 65, 66, 179, 180, 181, 182, 183, 184, 185, 186, 187, 188, 56, 57, 189, 190, 191, 192, 18, 193, 70, 72, 71, 194, 195, 196, 197, 198, 199, 200, 201, 202, 203, 204, 73, 74, 75, 205, 206, 207, 208, 209, 210, 211, 212, 213, 214, 215, 216, 217, 218, 219, 220, 221, 222, 223, 224, 229, 230, 231, 232, 233, 234, 235, 225, 226, 227, 228, 258, 259, 260, 261, 262, 236, 237, 238, 239, 240, 241, 242, 243, 244, 245, 246, 247, 263, 264, 265, 266, 248, 249, 250, 251, 252, 253] (by decide +kernel) (by decide +kernel)
set_option maxRecDepth 20000 in
theorem gX7_init_X7_renew : GoodIn wsX7_init (wsV RX7 58 RX7 yX7_renew wsX7_renew) := goodIn_app (goodIn_of _ (by decide +kernel)) ggX7_init_X7_renew
theorem dX7_init_0 : decode cX7_init 0 = .ok (.aload_n 0, 1) := by decide +kernel
theorem dX7_init_1 : decode cX7_init 1 = .ok (.invokespecial 3, 3) := by decide +kernel
theorem dX7_init_4 : decode cX7_init 4 = .ok (.aload_n 0, 1) := by decide +kernel
theorem dX7_init_5 : decode cX7_init 5 = .ok (.new 9, 3) := by decide +kernel
theorem dX7_init_8 : decode cX7_init 8 = .ok (.dup, 1) := by decide +kernel
theorem dX7_init_9 : decode cX7_init 9 = .ok (.invokespecial 11, 3) := by decide +kernel
theorem dX7_init_12 : decode cX7_init 12 = .ok (.putfield 12, 3) := by decide +kernel
theorem dX7_init_15 : decode cX7_init 15 = .ok (.aload_n 0, 1) := by decide +kernel
theorem dX7_init_16 : decode cX7_init 16 = .ok (.new 16, 3) := by decide +kernel
theorem dX7_init_19 : decode cX7_init 19 = .ok (.dup, 1) := by decide +kernel
theorem dX7_init_20 : decode cX7_init 20 = .ok (.invokespecial 18, 3) := by decide +kernel
theorem dX7_init_23 : decode cX7_init 23 = .ok (.putfield 19, 3) := by decide +kernel
theorem dX7_init_26 : decode cX7_init 26 = .ok (.aload_n 0, 1) := by decide +kernel
theorem dX7_init_27 : decode cX7_init 27 = .ok (.new 23, 3) := by decide +kernel
theorem dX7_init_30 : decode cX7_init 30 = .ok (.dup, 1) := by decide +kernel
theorem dX7_init_31 : decode cX7_init 31 = .ok (.invokespecial 25, 3) := by decide +kernel
theorem dX7_init_34 : decode cX7_init 34 = .ok (.putfield 26, 3) := by decide +kernel
theorem dX7_init_37 : decode cX7_init 37 = .ok (.aload_n 0, 1) := by decide +kernel
theorem dX7_init_38 : decode cX7_init 38 = .ok (.new 30, 3) := by decide +kernel
theorem dX7_init_41 : decode cX7_init 41 = .ok (.dup, 1) := by decide +kernel
theorem dX7_init_42 : decode cX7_init 42 = .ok (.invokespecial 32, 3) := by decide +kernel
theorem dX7_init_45 : decode cX7_init 45 = .ok (.putfield 33, 3) := by decide +kernel
theorem dX7_init_48 : decode cX7_init 48 = .ok (.aload_n 0, 1) := by decide +kernel
theorem dX7_init_49 : decode cX7_init 49 = .ok (.new 37, 3) := by decide +kernel
theorem dX7_init_52 : decode cX7_init 52 = .ok (.dup, 1) := by decide +kernel
theorem dX7_init_53 : decode cX7_init 53 = .ok (.invokespecial 39, 3) := by decide +kernel
theorem dX7_init_56 : decode cX7_init 56 = .ok (.putfield 40, 3) := by decide +kernel
theorem dX7_init_59 : decode cX7_init 59 = .ok (.aload_n 0, 1) := by decide +kernel
theorem dX7_init_60 : decode cX7_init 60 = .ok (.new 44, 3) := by decide +kernel
theorem dX7_init_63 : decode cX7_init 63 = .ok (.dup, 1) := by decide +kernel
theorem dX7_init_64 : decode cX7_init 64 = .ok (.invokespecial 46, 3) := by decide +kernel
theorem dX7_init_67 : decode cX7_init 67 = .ok (.putfield 47, 3) := by decide +kernel
theorem dX7_init_70 : decode cX7_init 70 = .ok (.aload_n 0, 1) := by decide +kernel
theorem dX7_init_71 : decode cX7_init 71 = .ok (.new 51, 3) := by decide +kernel
theorem dX7_init_74 : decode cX7_init 74 = .ok (.dup, 1) := by decide +kernel
theorem dX7_init_75 : decode cX7_init 75 = .ok (.invokespecial 53, 3) := by decide +kernel
theorem dX7_init_78 : decode cX7_init 78 = .ok (.putfield 54, 3) := by decide +kernel
theorem dX7_init_81 : decode cX7_init 81 = .ok (.aload_n 0, 1) := by decide +kernel
theorem dX7_init_82 : decode cX7_init 82 = .ok (.invokevirtual 58, 3) := by decide +kernel
theorem dX7_init_85 : decode cX7_init 85 = .ok (.return_, 1) := by decide +kernel
set_option maxRecDepth 20000 in
theorem ggX7_plan_X7_isWithin : GoodIn wsX7_plan wsX7_isWithin := goodIn_r _ [13] (by decide +kernel) (by decide +kernel)
set_option maxRecDepth 20000 in
theorem gX7_plan_X7_isWithin : GoodIn wsX7_plan (va_wsS RX7 61 yX7_isWithin wsX7_isWithin) := goodIn_app (goodIn_of _ (by decide +kernel)) ggX7_plan_X7_isWithin
set_option maxRecDepth 20000 in
theorem ggX7_plan_X3_set : GoodIn wsX7_plan wsX3_set := goodIn_r _ [18, 19, 20, 21, 22, 207, 208, 209, 210] (by decide +kernel) (by decide +kernel)
set_option maxRecDepth 20000 in
theorem gX7_plan_X3_set : GoodIn wsX7_plan (wsV RX7 85 RX3 yX3_set wsX3_set) := goodIn_app (goodIn_of _ (by decide +kernel)) ggX7_plan_X3_set
set_option maxRecDepth 20000 in
theorem ggX7_plan_X7_renew : GoodIn wsX7_plan wsX7_renew := goodIn_r _ [26, 27, 7, 5, 8, 28, 29, 30, 31, 32, 33, 34, 35, 36, 17, 37, 21, 38, 39, 40, 41, 42, 43, 44, 45, 46, 47, 48, 49, 20, 50, 12, 51, 52, 53, 54, 55, 56, 57, 58, 59, 60, 61, 62, 63, 64, 65, 66, 67, 68, 69, 70, 71, 72, 73, 74, 75, 76, 77, 78, 79, 80, 81, 82, 83, 84, 85, 86, 87, 88, 89, 90, 91, 92, 93, 94, 95, 96, 97, 98, 99, 100, 101, 102, 103, 104, 105, 106, 22, 19, 107, 108, 109, 110, 111, 112, 113, 114, 115, 116, 117, 118, 119, 120, 121, 122, 123, 124, 125, 126, 127, 128, 129, 130, 131, 132, 133, 134, 135, 136, 137, 138, 139, 140, 141, 142, 143, 144, 145, 146, 147, 148, 149, 150, 151, 152, 153, 154, 155, 156, 157, 158, 159, 160, 161, 162, 163, 164, 165, 166, 167, 168, 169, 170, 171, 172, 173, 174, 175, 176, 177, 178, 179, 180, 181, 182, 183, 184, 185, 186, 187, 188, 189, 190, 191, 192, 207, 208, 209, 210, 193, 194, 195, 196, 197, 211, 212, 213, 198, 199, 200, 201, 202, 203, 204, 205, 206, 214, 215, 216, 217, 218, 219, 220, 221, 222, 223] (by decide +kernel) (by decide +kernel)
set_option maxRecDepth 20000 in
theorem gX7_plan_X7_renew : GoodIn wsX7_plan (wsV RX7 58 RX7 yX7_renew wsX7_renew) := goodIn_app (goodIn_of _ (by decide +kernel)) ggX7_plan_X7_renew
theorem dX7_plan_0 : decode cX7_plan 0 = .ok (.iload_n 1, 1) := by decide +kernel
theorem dX7_plan_1 : decode cX7_plan 1 = .ok (.iconst 1, 1) := by decide +kernel
theorem dX7_plan_2 : decode cX7_plan 2 = .ok (.iconst 4, 1) := by decide +kernel
theorem dX7_plan_3 : decode cX7_plan 3 = .ok (.invokestatic 61, 3) := by decide +kernel
theorem dX7_plan_6 : decode cX7_plan 6 = .ok (.ifCond .eq 12, 3) := by decide +kernel
theorem dX7_plan_9 : decode cX7_plan 9 = .ok (.iload_n 2, 1) := by decide +kernel
theorem dX7_plan_10 : decode cX7_plan 10 = .ok (.iconst 1, 1) := by decide +kernel
theorem dX7_plan_11 : decode cX7_plan 11 = .ok (.iconst 4, 1) := by decide +kernel
theorem dX7_plan_12 : decode cX7_plan 12 = .ok (.invokestatic 61, 3) := by decide +kernel
theorem dX7_plan_15 : decode cX7_plan 15 = .ok (.ifCond .ne 13, 3) := by decide +kernel
theorem dX7_plan_18 : decode cX7_plan 18 = .ok (.new 65, 3) := by decide +kernel
theorem dX7_plan_21 : decode cX7_plan 21 = .ok (.dup, 1) := by decide +kernel
theorem dX7_plan_22 : decode cX7_plan 22 = .ok (.ldc 67, 2) := by decide +kernel
theorem dX7_plan_24 : decode cX7_plan 24 = .ok (.invokespecial 69, 3) := by decide +kernel
theorem dX7_plan_27 : decode cX7_plan 27 = .ok (.athrow, 1) := by decide +kernel
theorem dX7_plan_28 : decode cX7_plan 28 = .ok (.iload_n 3, 1) := by decide +kernel
theorem dX7_plan_29 : decode cX7_plan 29 = .ok (.iconst 0, 1) := by decide +kernel
theorem dX7_plan_30 : decode cX7_plan 30 = .ok (.iconst 2, 1) := by decide +kernel
theorem dX7_plan_31 : decode cX7_plan 31 = .ok (.invokestatic 61, 3) := by decide +kernel
theorem dX7_plan_34 : decode cX7_plan 34 = .ok (.ifCond .ne 13, 3) := by decide +kernel
theorem dX7_plan_37 : decode cX7_plan 37 = .ok (.new 65, 3) := by decide +kernel
theorem dX7_plan_40 : decode cX7_plan 40 = .ok (.dup, 1) := by decide +kernel
theorem dX7_plan_41 : decode cX7_plan 41 = .ok (.ldc 72, 2) := by decide +kernel
theorem dX7_plan_43 : decode cX7_plan 43 = .ok (.invokespecial 69, 3) := by decide +kernel
theorem dX7_plan_46 : decode cX7_plan 46 = .ok (.athrow, 1) := by decide +kernel
theorem dX7_plan_47 : decode cX7_plan 47 = .ok (.iload 4, 2) := by decide +kernel
theorem dX7_plan_49 : decode cX7_plan 49 = .ok (.ifCond .eq 19, 3) := by decide +kernel
theorem dX7_plan_52 : decode cX7_plan 52 = .ok (.iload 4, 2) := by decide +kernel
theorem dX7_plan_54 : decode cX7_plan 54 = .ok (.iconst 1, 1) := by decide +kernel
theorem dX7_plan_55 : decode cX7_plan 55 = .ok (.if_icmp .eq 13, 3) := by decide +kernel
theorem dX7_plan_58 : decode cX7_plan 58 = .ok (.new 65, 3) := by decide +kernel
theorem dX7_plan_61 : decode cX7_plan 61 = .ok (.dup, 1) := by decide +kernel
theorem dX7_plan_62 : decode cX7_plan 62 = .ok (.ldc 74, 2) := by decide +kernel
theorem dX7_plan_64 : decode cX7_plan 64 = .ok (.invokespecial 69, 3) := by decide +kernel
theorem dX7_plan_67 : decode cX7_plan 67 = .ok (.athrow, 1) := by decide +kernel
theorem dX7_plan_68 : decode cX7_plan 68 = .ok (.aload_n 0, 1) := by decide +kernel
theorem dX7_plan_69 : decode cX7_plan 69 = .ok (.getfield 47, 3) := by decide +kernel
theorem dX7_plan_72 : decode cX7_plan 72 = .ok (.getfield 76, 3) := by decide +kernel
theorem dX7_plan_75 : decode cX7_plan 75 = .ok (.ifCond .eq 13, 3) := by decide +kernel
theorem dX7_plan_78 : decode cX7_plan 78 = .ok (.new 80, 3) := by decide +kernel
theorem dX7_plan_81 : decode cX7_plan 81 = .ok (.dup, 1) := by decide +kernel
theorem dX7_plan_82 : decode cX7_plan 82 = .ok (.ldc 82, 2) := by decide +kernel
theorem dX7_plan_84 : decode cX7_plan 84 = .ok (.invokespecial 84, 3) := by decide +kernel
theorem dX7_plan_87 : decode cX7_plan 87 = .ok (.athrow, 1) := by decide +kernel
theorem dX7_plan_88 : decode cX7_plan 88 = .ok (.aload_n 0, 1) := by decide +kernel
theorem dX7_plan_89 : decode cX7_plan 89 = .ok (.getfield 12, 3) := by decide +kernel
theorem dX7_plan_92 : decode cX7_plan 92 = .ok (.iload_n 1, 1) := by decide +kernel
theorem dX7_plan_93 : decode cX7_plan 93 = .ok (.iload_n 2, 1) := by decide +kernel
theorem dX7_plan_94 : decode cX7_plan 94 = .ok (.iload_n 3, 1) := by decide +kernel
theorem dX7_plan_95 : decode cX7_plan 95 = .ok (.iload 4, 2) := by decide +kernel
theorem dX7_plan_97 : decode cX7_plan 97 = .ok (.invokevirtual 85, 3) := by decide +kernel
theorem dX7_plan_100 : decode cX7_plan 100 = .ok (.aload_n 0, 1) := by decide +kernel
theorem dX7_plan_101 : decode cX7_plan 101 = .ok (.invokevirtual 58, 3) := by decide +kernel
theorem dX7_plan_104 : decode cX7_plan 104 = .ok (.aload_n 0, 1) := by decide +kernel
theorem dX7_plan_105 : decode cX7_plan 105 = .ok (.getfield 26, 3) := by decide +kernel
theorem dX7_plan_108 : decode cX7_plan 108 = .ok (.getfield 89, 3) := by decide +kernel
theorem dX7_plan_111 : decode cX7_plan 111 = .ok (.ireturn, 1) := by decide +kernel
set_option maxRecDepth 20000 in
theorem ggX7_pillar_X7_isCell : GoodIn wsX7_pillar wsX7_isCell := goodIn_r _ [11] (by decide +kernel) (by decide +kernel)
set_option maxRecDepth 20000 in
theorem gX7_pillar_X7_isCell : GoodIn wsX7_pillar (va_wsS RX7 93 yX7_isCell wsX7_isCell) := goodIn_app (goodIn_of _ (by decide +kernel)) ggX7_pillar_X7_isCell
set_option maxRecDepth 20000 in
theorem ggX7_pillar_X0_setPillar : GoodIn wsX7_pillar wsX0_setPillar := goodIn_r _ [16, 17, 9, 10, 11, 18, 19, 195, 196, 197] (by decide +kernel) (by decide +kernel)
set_option maxRecDepth 20000 in
theorem gX7_pillar_X0_setPillar : GoodIn wsX7_pillar (wsV RX7 102 RX0 yX0_setPillar wsX0_setPillar) := goodIn_app (goodIn_of _ (by decide +kernel)) ggX7_pillar_X0_setPillar
set_option maxRecDepth 20000 in
theorem ggX7_pillar_X7_renew : GoodIn wsX7_pillar wsX7_renew := goodIn_r _ [23, 7, 24, 5, 25, 26, 27, 28, 29, 15, 30, 31, 32, 33, 34, 35, 36, 37, 38, 39, 40, 41, 42, 43, 44, 45, 46, 47, 48, 49, 50, 10, 51, 52, 53, 54, 55, 56, 57, 58, 59, 60, 61, 62, 17, 9, 11, 18, 19, 63, 64, 65, 66, 67, 68, 69, 70, 71, 72, 73, 74, 75, 76, 77, 78, 79, 80, 81, 82, 83, 84, 85, 86, 87, 88, 89, 90, 91, 92, 93, 94, 95, 96, 97, 98, 99, 100, 101, 102, 103, 104, 105, 106, 107, 108, 109, 110, 111, 112, 113, 114, 115, 116, 117, 118, 119, 120, 121, 122, 123, 124, 125, 126, 127, 128, 129, 130, 131, 132, 133, 134, 135, 136, 137, 138, 139, 140, 141, 142, 143, 144, 145, 146, 147, 148, 149, 150, 151, 152, 153, 154, 155, 156, 157, 158, 159, 160, 161, 162, 163, 164, 165, 166, 167, 168, 169, 170, 171, 172, 173, 174, 175, 176, 177, 178, 179, 180, 181, 182, 183, 184, 185, 186, 187, 188, 189, 198, 199, 200, 201, 190, 191, 192, 193, 194, 195, 196, 197, 202, 203, 204, 205, 206, 207, 208, 209, 210, 211, 212, 213, 214, 215, 216, 217, 218, 219, 220] (by decide +kernel) (by decide +kernel)
set_option maxRecDepth 20000 in
theorem gX7_pillar_X7_renew : GoodIn wsX7_pillar (wsV RX7 58 RX7 yX7_renew wsX7_renew) := goodIn_app (goodIn_of _ (by decide +kernel)) ggX7_pillar_X7_renew
theorem dX7_pillar_0 : decode cX7_pillar 0 = .ok (.iload_n 1, 1) := by decide +kernel
theorem dX7_pillar_1 : decode cX7_pillar 1 = .ok (.iload_n 2, 1) := by decide +kernel
theorem dX7_pillar_2 : decode cX7_pillar 2 = .ok (.invokestatic 93, 3) := by decide +kernel
theorem dX7_pillar_5 : decode cX7_pillar 5 = .ok (.ifCond .ne 13, 3) := by decide +kernel
theorem dX7_pillar_8 : decode cX7_pillar 8 = .ok (.new 97, 3) := by decide +kernel
theorem dX7_pillar_11 : decode cX7_pillar 11 = .ok (.dup, 1) := by decide +kernel
theorem dX7_pillar_12 : decode cX7_pillar 12 = .ok (.ldc 99, 2) := by decide +kernel
theorem dX7_pillar_14 : decode cX7_pillar 14 = .ok (.invokespecial 101, 3) := by decide +kernel
theorem dX7_pillar_17 : decode cX7_pillar 17 = .ok (.athrow, 1) := by decide +kernel
theorem dX7_pillar_18 : decode cX7_pillar 18 = .ok (.aload_n 0, 1) := by decide +kernel
theorem dX7_pillar_19 : decode cX7_pillar 19 = .ok (.getfield 47, 3) := by decide +kernel
theorem dX7_pillar_22 : decode cX7_pillar 22 = .ok (.getfield 76, 3) := by decide +kernel
theorem dX7_pillar_25 : decode cX7_pillar 25 = .ok (.ifCond .eq 13, 3) := by decide +kernel
theorem dX7_pillar_28 : decode cX7_pillar 28 = .ok (.new 80, 3) := by decide +kernel
theorem dX7_pillar_31 : decode cX7_pillar 31 = .ok (.dup, 1) := by decide +kernel
theorem dX7_pillar_32 : decode cX7_pillar 32 = .ok (.ldc 82, 2) := by decide +kernel
theorem dX7_pillar_34 : decode cX7_pillar 34 = .ok (.invokespecial 84, 3) := by decide +kernel
theorem dX7_pillar_37 : decode cX7_pillar 37 = .ok (.athrow, 1) := by decide +kernel
theorem dX7_pillar_38 : decode cX7_pillar 38 = .ok (.aload_n 0, 1) := by decide +kernel
theorem dX7_pillar_39 : decode cX7_pillar 39 = .ok (.getfield 19, 3) := by decide +kernel
theorem dX7_pillar_42 : decode cX7_pillar 42 = .ok (.iload_n 1, 1) := by decide +kernel
theorem dX7_pillar_43 : decode cX7_pillar 43 = .ok (.iload_n 2, 1) := by decide +kernel
theorem dX7_pillar_44 : decode cX7_pillar 44 = .ok (.iload_n 3, 1) := by decide +kernel
theorem dX7_pillar_45 : decode cX7_pillar 45 = .ok (.invokevirtual 102, 3) := by decide +kernel
theorem dX7_pillar_48 : decode cX7_pillar 48 = .ok (.istore 4, 2) := by decide +kernel
theorem dX7_pillar_50 : decode cX7_pillar 50 = .ok (.aload_n 0, 1) := by decide +kernel
theorem dX7_pillar_51 : decode cX7_pillar 51 = .ok (.invokevirtual 58, 3) := by decide +kernel
theorem dX7_pillar_54 : decode cX7_pillar 54 = .ok (.iload 4, 2) := by decide +kernel
theorem dX7_pillar_56 : decode cX7_pillar 56 = .ok (.ireturn, 1) := by decide +kernel
set_option maxRecDepth 20000 in
theorem ggX7_door_X7_isWithin : GoodIn wsX7_door wsX7_isWithin := goodIn_r _ [10] (by decide +kernel) (by decide +kernel)
set_option maxRecDepth 20000 in
theorem gX7_door_X7_isWithin : GoodIn wsX7_door (va_wsS RX7 61 yX7_isWithin wsX7_isWithin) := goodIn_app (goodIn_of _ (by decide +kernel)) ggX7_door_X7_isWithin
set_option maxRecDepth 20000 in
theorem ggX7_door_X7_renew : GoodIn wsX7_door wsX7_renew := goodIn_r _ [14, 3, 15, 16, 5, 17, 18, 19, 20, 21, 22, 23, 24, 25, 26, 27, 28, 29, 30, 31, 32, 33, 34, 35, 36, 37, 38, 39, 40, 41, 42, 9, 43, 44, 45, 46, 47, 48, 49, 50, 51, 52, 53, 54, 55, 56, 57, 58, 59, 60, 61, 62, 63, 64, 65, 66, 67, 68, 69, 70, 71, 72, 73, 74, 75, 76, 77, 78, 79, 80, 81, 82, 83, 84, 85, 86, 87, 88, 89, 90, 91, 92, 93, 94, 95, 96, 97, 98, 99, 100, 101, 102, 103, 104, 105, 106, 107, 108, 109, 110, 111, 112, 113, 114, 115, 116, 117, 118, 119, 120, 121, 122, 123, 124, 125, 126, 127, 128, 129, 130, 131, 132, 133, 134, 135, 136, 137, 138, 139, 140, 141, 142, 143, 144, 145, 146, 147, 148, 149, 150, 151, 152, 153, 154, 155, 156, 157, 158, 159, 160, 161, 162, 163, 164, 165, 166, 167, 168, 169, 170, 171, 172, 173, 174, 175, 176, 177, 178, 179, 180, 181, 182, 183, 184, 185, 186, 199, 200, 201, 202, 203, 204, 205, 206, 207, 187, 188, 189, 190, 191, 192, 193, 194, 195, 196, 197, 198, 208, 209, 210, 211, 212, 213, 214, 215, 216, 217] (by decide +kernel) (by decide +kernel)
set_option maxRecDepth 20000 in
theorem gX7_door_X7_renew : GoodIn wsX7_door (wsV RX7 58 RX7 yX7_renew wsX7_renew) := goodIn_app (goodIn_of _ (by decide +kernel)) ggX7_door_X7_renew
theorem dX7_door_0 : decode cX7_door 0 = .ok (.iload_n 1, 1) := by decide +kernel
theorem dX7_door_1 : decode cX7_door 1 = .ok (.iconst 0, 1) := by decide +kernel
theorem dX7_door_2 : decode cX7_door 2 = .ok (.bipush 10, 2) := by decide +kernel
theorem dX7_door_4 : decode cX7_door 4 = .ok (.invokestatic 61, 3) := by decide +kernel
theorem dX7_door_7 : decode cX7_door 7 = .ok (.ifCond .ne 13, 3) := by decide +kernel
theorem dX7_door_10 : decode cX7_door 10 = .ok (.new 97, 3) := by decide +kernel
theorem dX7_door_13 : decode cX7_door 13 = .ok (.dup, 1) := by decide +kernel
theorem dX7_door_14 : decode cX7_door 14 = .ok (.ldc 106, 2) := by decide +kernel
theorem dX7_door_16 : decode cX7_door 16 = .ok (.invokespecial 101, 3) := by decide +kernel
theorem dX7_door_19 : decode cX7_door 19 = .ok (.athrow, 1) := by decide +kernel
theorem dX7_door_20 : decode cX7_door 20 = .ok (.aload_n 0, 1) := by decide +kernel
theorem dX7_door_21 : decode cX7_door 21 = .ok (.getfield 19, 3) := by decide +kernel
theorem dX7_door_24 : decode cX7_door 24 = .ok (.iload_n 1, 1) := by decide +kernel
theorem dX7_door_25 : decode cX7_door 25 = .ok (.putfield 108, 3) := by decide +kernel
theorem dX7_door_28 : decode cX7_door 28 = .ok (.aload_n 0, 1) := by decide +kernel
theorem dX7_door_29 : decode cX7_door 29 = .ok (.invokevirtual 58, 3) := by decide +kernel
theorem dX7_door_32 : decode cX7_door 32 = .ok (.aload_n 0, 1) := by decide +kernel
theorem dX7_door_33 : decode cX7_door 33 = .ok (.getfield 26, 3) := by decide +kernel
theorem dX7_door_36 : decode cX7_door 36 = .ok (.getfield 89, 3) := by decide +kernel
theorem dX7_door_39 : decode cX7_door 39 = .ok (.ireturn, 1) := by decide +kernel
set_option maxRecDepth 20000 in
theorem ggX7_ofPiece_X4_has : GoodIn wsX7_ofPiece wsX4_has := goodIn_r _ [17, 18, 51, 52, 53, 54, 55, 56, 57, 58, 59] (by decide +kernel) (by decide +kernel)
set_option maxRecDepth 20000 in
theorem gX7_ofPiece_X4_has : GoodIn wsX7_ofPiece (wsV RX7 111 RX4 yX4_has wsX4_has) := goodIn_app (goodIn_of _ (by decide +kernel)) ggX7_ofPiece_X4_has
set_option maxRecDepth 20000 in
theorem ggX7_ofPiece_X7_isWithin : GoodIn wsX7_ofPiece wsX7_isWithin := goodIn_r _ [22] (by decide +kernel) (by decide +kernel)
set_option maxRecDepth 20000 in
theorem gX7_ofPiece_X7_isWithin : GoodIn wsX7_ofPiece (va_wsS RX7 61 yX7_isWithin wsX7_isWithin) := goodIn_app (goodIn_of _ (by decide +kernel)) ggX7_ofPiece_X7_isWithin
set_option maxRecDepth 20000 in
theorem ggX7_ofPiece_X3_stripOfRow : GoodIn wsX7_ofPiece wsX3_stripOfRow := goodIn_r _ [27, 28, 29, 30, 31, 26, 32, 33, 34, 35, 36, 37, 38, 39, 40, 41, 42, 21, 43, 66, 67, 68, 69] (by decide +kernel) (by decide +kernel)
set_option maxRecDepth 20000 in
theorem gX7_ofPiece_X3_stripOfRow : GoodIn wsX7_ofPiece (wsV RX7 132 RX3 yX3_stripOfRow wsX3_stripOfRow) := goodIn_app (goodIn_of _ (by decide +kernel)) ggX7_ofPiece_X3_stripOfRow
theorem dX7_ofPiece_0 : decode cX7_ofPiece 0 = .ok (.aload_n 0, 1) := by decide +kernel
theorem dX7_ofPiece_1 : decode cX7_ofPiece 1 = .ok (.getfield 26, 3) := by decide +kernel
theorem dX7_ofPiece_4 : decode cX7_ofPiece 4 = .ok (.iload_n 1, 1) := by decide +kernel
theorem dX7_ofPiece_5 : decode cX7_ofPiece 5 = .ok (.invokevirtual 111, 3) := by decide +kernel
theorem dX7_ofPiece_8 : decode cX7_ofPiece 8 = .ok (.ifCond .ne 13, 3) := by decide +kernel
theorem dX7_ofPiece_11 : decode cX7_ofPiece 11 = .ok (.new 97, 3) := by decide +kernel
theorem dX7_ofPiece_14 : decode cX7_ofPiece 14 = .ok (.dup, 1) := by decide +kernel
theorem dX7_ofPiece_15 : decode cX7_ofPiece 15 = .ok (.ldc 115, 2) := by decide +kernel
theorem dX7_ofPiece_17 : decode cX7_ofPiece 17 = .ok (.invokespecial 101, 3) := by decide +kernel
theorem dX7_ofPiece_20 : decode cX7_ofPiece 20 = .ok (.athrow, 1) := by decide +kernel
theorem dX7_ofPiece_21 : decode cX7_ofPiece 21 = .ok (.iload_n 2, 1) := by decide +kernel
theorem dX7_ofPiece_22 : decode cX7_ofPiece 22 = .ok (.iconst 0, 1) := by decide +kernel
theorem dX7_ofPiece_23 : decode cX7_ofPiece 23 = .ok (.iconst 5, 1) := by decide +kernel
theorem dX7_ofPiece_24 : decode cX7_ofPiece 24 = .ok (.invokestatic 61, 3) := by decide +kernel
theorem dX7_ofPiece_27 : decode cX7_ofPiece 27 = .ok (.ifCond .ne 13, 3) := by decide +kernel
theorem dX7_ofPiece_30 : decode cX7_ofPiece 30 = .ok (.new 65, 3) := by decide +kernel
theorem dX7_ofPiece_33 : decode cX7_ofPiece 33 = .ok (.dup, 1) := by decide +kernel
theorem dX7_ofPiece_34 : decode cX7_ofPiece 34 = .ok (.ldc 117, 2) := by decide +kernel
theorem dX7_ofPiece_36 : decode cX7_ofPiece 36 = .ok (.invokespecial 69, 3) := by decide +kernel
theorem dX7_ofPiece_39 : decode cX7_ofPiece 39 = .ok (.athrow, 1) := by decide +kernel
theorem dX7_ofPiece_40 : decode cX7_ofPiece 40 = .ok (.iload_n 2, 1) := by decide +kernel
theorem dX7_ofPiece_41 : decode cX7_ofPiece 41 = .ok (.tableswitch 92 0 4 #[35, 45, 55, 65, 75], 35) := by decide +kernel
theorem dX7_ofPiece_76 : decode cX7_ofPiece 76 = .ok (.aload_n 0, 1) := by decide +kernel
theorem dX7_ofPiece_77 : decode cX7_ofPiece 77 = .ok (.getfield 26, 3) := by decide +kernel
theorem dX7_ofPiece_80 : decode cX7_ofPiece 80 = .ok (.getfield 119, 3) := by decide +kernel
theorem dX7_ofPiece_83 : decode cX7_ofPiece 83 = .ok (.iload_n 1, 1) := by decide +kernel
theorem dX7_ofPiece_84 : decode cX7_ofPiece 84 = .ok (.iaload, 1) := by decide +kernel
theorem dX7_ofPiece_85 : decode cX7_ofPiece 85 = .ok (.ireturn, 1) := by decide +kernel
theorem dX7_ofPiece_86 : decode cX7_ofPiece 86 = .ok (.aload_n 0, 1) := by decide +kernel
theorem dX7_ofPiece_87 : decode cX7_ofPiece 87 = .ok (.getfield 26, 3) := by decide +kernel
theorem dX7_ofPiece_90 : decode cX7_ofPiece 90 = .ok (.getfield 123, 3) := by decide +kernel
theorem dX7_ofPiece_93 : decode cX7_ofPiece 93 = .ok (.iload_n 1, 1) := by decide +kernel
theorem dX7_ofPiece_94 : decode cX7_ofPiece 94 = .ok (.iaload, 1) := by decide +kernel
theorem dX7_ofPiece_95 : decode cX7_ofPiece 95 = .ok (.ireturn, 1) := by decide +kernel
theorem dX7_ofPiece_96 : decode cX7_ofPiece 96 = .ok (.aload_n 0, 1) := by decide +kernel
theorem dX7_ofPiece_97 : decode cX7_ofPiece 97 = .ok (.getfield 26, 3) := by decide +kernel
theorem dX7_ofPiece_100 : decode cX7_ofPiece 100 = .ok (.getfield 126, 3) := by decide +kernel
theorem dX7_ofPiece_103 : decode cX7_ofPiece 103 = .ok (.iload_n 1, 1) := by decide +kernel
theorem dX7_ofPiece_104 : decode cX7_ofPiece 104 = .ok (.iaload, 1) := by decide +kernel
theorem dX7_ofPiece_105 : decode cX7_ofPiece 105 = .ok (.ireturn, 1) := by decide +kernel
theorem dX7_ofPiece_106 : decode cX7_ofPiece 106 = .ok (.aload_n 0, 1) := by decide +kernel
theorem dX7_ofPiece_107 : decode cX7_ofPiece 107 = .ok (.getfield 26, 3) := by decide +kernel
theorem dX7_ofPiece_110 : decode cX7_ofPiece 110 = .ok (.getfield 129, 3) := by decide +kernel
theorem dX7_ofPiece_113 : decode cX7_ofPiece 113 = .ok (.iload_n 1, 1) := by decide +kernel
theorem dX7_ofPiece_114 : decode cX7_ofPiece 114 = .ok (.iaload, 1) := by decide +kernel
theorem dX7_ofPiece_115 : decode cX7_ofPiece 115 = .ok (.ireturn, 1) := by decide +kernel
theorem dX7_ofPiece_116 : decode cX7_ofPiece 116 = .ok (.aload_n 0, 1) := by decide +kernel
theorem dX7_ofPiece_117 : decode cX7_ofPiece 117 = .ok (.getfield 12, 3) := by decide +kernel
theorem dX7_ofPiece_120 : decode cX7_ofPiece 120 = .ok (.aload_n 0, 1) := by decide +kernel
theorem dX7_ofPiece_121 : decode cX7_ofPiece 121 = .ok (.getfield 26, 3) := by decide +kernel
theorem dX7_ofPiece_124 : decode cX7_ofPiece 124 = .ok (.getfield 126, 3) := by decide +kernel
theorem dX7_ofPiece_127 : decode cX7_ofPiece 127 = .ok (.iload_n 1, 1) := by decide +kernel
theorem dX7_ofPiece_128 : decode cX7_ofPiece 128 = .ok (.iaload, 1) := by decide +kernel
theorem dX7_ofPiece_129 : decode cX7_ofPiece 129 = .ok (.invokevirtual 132, 3) := by decide +kernel
theorem dX7_ofPiece_132 : decode cX7_ofPiece 132 = .ok (.ireturn, 1) := by decide +kernel
theorem dX7_ofPiece_133 : decode cX7_ofPiece 133 = .ok (.aload_n 0, 1) := by decide +kernel
theorem dX7_ofPiece_134 : decode cX7_ofPiece 134 = .ok (.getfield 33, 3) := by decide +kernel
theorem dX7_ofPiece_137 : decode cX7_ofPiece 137 = .ok (.getfield 136, 3) := by decide +kernel
theorem dX7_ofPiece_140 : decode cX7_ofPiece 140 = .ok (.iload_n 1, 1) := by decide +kernel
theorem dX7_ofPiece_141 : decode cX7_ofPiece 141 = .ok (.iaload, 1) := by decide +kernel
theorem dX7_ofPiece_142 : decode cX7_ofPiece 142 = .ok (.ireturn, 1) := by decide +kernel
set_option maxRecDepth 20000 in
theorem ggX7_pieceAt_X7_isCell : GoodIn wsX7_pieceAt wsX7_isCell := goodIn_r _ [8] (by decide +kernel) (by decide +kernel)
set_option maxRecDepth 20000 in
theorem gX7_pieceAt_X7_isCell : GoodIn wsX7_pieceAt (va_wsS RX7 93 yX7_isCell wsX7_isCell) := goodIn_app (goodIn_of _ (by decide +kernel)) ggX7_pieceAt_X7_isCell
set_option maxRecDepth 20000 in
theorem ggX7_pieceAt_X7_cellAt : GoodIn wsX7_pieceAt wsX7_cellAt := goodIn_r _ [11] (by decide +kernel) (by decide +kernel)
set_option maxRecDepth 20000 in
theorem gX7_pieceAt_X7_cellAt : GoodIn wsX7_pieceAt (va_wsS RX7 142 yX7_cellAt wsX7_cellAt) := goodIn_app (goodIn_of _ (by decide +kernel)) ggX7_pieceAt_X7_cellAt
theorem dX7_pieceAt_0 : decode cX7_pieceAt 0 = .ok (.iload_n 1, 1) := by decide +kernel
theorem dX7_pieceAt_1 : decode cX7_pieceAt 1 = .ok (.iload_n 2, 1) := by decide +kernel
theorem dX7_pieceAt_2 : decode cX7_pieceAt 2 = .ok (.invokestatic 93, 3) := by decide +kernel
theorem dX7_pieceAt_5 : decode cX7_pieceAt 5 = .ok (.ifCond .ne 13, 3) := by decide +kernel
theorem dX7_pieceAt_8 : decode cX7_pieceAt 8 = .ok (.new 97, 3) := by decide +kernel
theorem dX7_pieceAt_11 : decode cX7_pieceAt 11 = .ok (.dup, 1) := by decide +kernel
theorem dX7_pieceAt_12 : decode cX7_pieceAt 12 = .ok (.ldc 99, 2) := by decide +kernel
theorem dX7_pieceAt_14 : decode cX7_pieceAt 14 = .ok (.invokespecial 101, 3) := by decide +kernel
theorem dX7_pieceAt_17 : decode cX7_pieceAt 17 = .ok (.athrow, 1) := by decide +kernel
theorem dX7_pieceAt_18 : decode cX7_pieceAt 18 = .ok (.aload_n 0, 1) := by decide +kernel
theorem dX7_pieceAt_19 : decode cX7_pieceAt 19 = .ok (.getfield 26, 3) := by decide +kernel
theorem dX7_pieceAt_22 : decode cX7_pieceAt 22 = .ok (.getfield 139, 3) := by decide +kernel
theorem dX7_pieceAt_25 : decode cX7_pieceAt 25 = .ok (.iload_n 1, 1) := by decide +kernel
theorem dX7_pieceAt_26 : decode cX7_pieceAt 26 = .ok (.iload_n 2, 1) := by decide +kernel
theorem dX7_pieceAt_27 : decode cX7_pieceAt 27 = .ok (.invokestatic 142, 3) := by decide +kernel
theorem dX7_pieceAt_30 : decode cX7_pieceAt 30 = .ok (.iaload, 1) := by decide +kernel
theorem dX7_pieceAt_31 : decode cX7_pieceAt 31 = .ok (.ireturn, 1) := by decide +kernel
set_option maxRecDepth 20000 in
theorem ggX7_piecesAnew_X7_isFirstOfItsPiece : GoodIn wsX7_piecesAnew wsX7_isFirstOfItsPiece := goodIn_r _ [5, 6, 7, 8, 9, 10, 11, 12, 13, 14, 15, 16, 17, 18, 4, 19, 20, 21, 22, 23, 24, 25, 26, 27, 28, 29, 30, 31, 32, 33, 34, 35, 36, 37, 38, 39, 40, 41, 42, 43, 44, 45, 46, 47, 48, 49, 50, 51, 52, 53, 54, 55, 56, 57, 58, 59, 60, 61, 62, 63, 64, 65, 66, 67, 68, 69, 70, 71, 72, 73, 74, 75, 76, 77, 78, 79, 80, 81, 82] (by decide +kernel) (by decide +kernel)
set_option maxRecDepth 20000 in
theorem gX7_piecesAnew_X7_isFirstOfItsPiece : GoodIn wsX7_piecesAnew (wsV RX7 146 RX7 yX7_isFirstOfItsPiece wsX7_isFirstOfItsPiece) := goodIn_app (goodIn_of _ (by decide +kernel)) ggX7_piecesAnew_X7_isFirstOfItsPiece
theorem dX7_piecesAnew_0 : decode cX7_piecesAnew 0 = .ok (.iconst 0, 1) := by decide +kernel
theorem dX7_piecesAnew_1 : decode cX7_piecesAnew 1 = .ok (.istore_n 1, 1) := by decide +kernel
theorem dX7_piecesAnew_2 : decode cX7_piecesAnew 2 = .ok (.iconst 0, 1) := by decide +kernel
theorem dX7_piecesAnew_3 : decode cX7_piecesAnew 3 = .ok (.istore_n 2, 1) := by decide +kernel
theorem dX7_piecesAnew_4 : decode cX7_piecesAnew 4 = .ok (.iload_n 2, 1) := by decide +kernel
theorem dX7_piecesAnew_5 : decode cX7_piecesAnew 5 = .ok (.bipush 8, 2) := by decide +kernel
theorem dX7_piecesAnew_7 : decode cX7_piecesAnew 7 = .ok (.if_icmp .ge 35, 3) := by decide +kernel
theorem dX7_piecesAnew_10 : decode cX7_piecesAnew 10 = .ok (.iconst 0, 1) := by decide +kernel
theorem dX7_piecesAnew_11 : decode cX7_piecesAnew 11 = .ok (.istore_n 3, 1) := by decide +kernel
theorem dX7_piecesAnew_12 : decode cX7_piecesAnew 12 = .ok (.iload_n 3, 1) := by decide +kernel
theorem dX7_piecesAnew_13 : decode cX7_piecesAnew 13 = .ok (.bipush 12, 2) := by decide +kernel
theorem dX7_piecesAnew_15 : decode cX7_piecesAnew 15 = .ok (.if_icmp .ge 21, 3) := by decide +kernel
theorem dX7_piecesAnew_18 : decode cX7_piecesAnew 18 = .ok (.aload_n 0, 1) := by decide +kernel
theorem dX7_piecesAnew_19 : decode cX7_piecesAnew 19 = .ok (.iload_n 3, 1) := by decide +kernel
theorem dX7_piecesAnew_20 : decode cX7_piecesAnew 20 = .ok (.iload_n 2, 1) := by decide +kernel
theorem dX7_piecesAnew_21 : decode cX7_piecesAnew 21 = .ok (.invokevirtual 146, 3) := by decide +kernel
theorem dX7_piecesAnew_24 : decode cX7_piecesAnew 24 = .ok (.ifCond .eq 6, 3) := by decide +kernel
theorem dX7_piecesAnew_27 : decode cX7_piecesAnew 27 = .ok (.iinc 1 1, 3) := by decide +kernel
theorem dX7_piecesAnew_30 : decode cX7_piecesAnew 30 = .ok (.iinc 3 1, 3) := by decide +kernel
theorem dX7_piecesAnew_33 : decode cX7_piecesAnew 33 = .ok (.goto (-21), 3) := by decide +kernel
theorem dX7_piecesAnew_36 : decode cX7_piecesAnew 36 = .ok (.iinc 2 1, 3) := by decide +kernel
theorem dX7_piecesAnew_39 : decode cX7_piecesAnew 39 = .ok (.goto (-35), 3) := by decide +kernel
theorem dX7_piecesAnew_42 : decode cX7_piecesAnew 42 = .ok (.iload_n 1, 1) := by decide +kernel
theorem dX7_piecesAnew_43 : decode cX7_piecesAnew 43 = .ok (.ireturn, 1) := by decide +kernel
theorem dX7_tiles_0 : decode cX7_tiles 0 = .ok (.aload_n 0, 1) := by decide +kernel
theorem dX7_tiles_1 : decode cX7_tiles 1 = .ok (.getfield 33, 3) := by decide +kernel
theorem dX7_tiles_4 : decode cX7_tiles 4 = .ok (.getfield 149, 3) := by decide +kernel
theorem dX7_tiles_7 : decode cX7_tiles 7 = .ok (.ireturn, 1) := by decide +kernel
set_option maxRecDepth 20000 in
theorem ggX7_rest_X1_sizeOfRest : GoodIn wsX7_rest wsX1_sizeOfRest := goodIn_r _ [8, 9, 10, 11, 12, 13, 7, 14, 15, 23, 24, 25, 26, 27, 28] (by decide +kernel) (by decide +kernel)
set_option maxRecDepth 20000 in
theorem gX7_rest_X1_sizeOfRest : GoodIn wsX7_rest (wsV RX7 154 RX1 yX1_sizeOfRest wsX1_sizeOfRest) := goodIn_app (goodIn_of _ (by decide +kernel)) ggX7_rest_X1_sizeOfRest
theorem dX7_rest_0 : decode cX7_rest 0 = .ok (.iload_n 1, 1) := by decide +kernel
theorem dX7_rest_1 : decode cX7_rest 1 = .ok (.ifCond .ge 13, 3) := by decide +kernel
theorem dX7_rest_4 : decode cX7_rest 4 = .ok (.new 97, 3) := by decide +kernel
theorem dX7_rest_7 : decode cX7_rest 7 = .ok (.dup, 1) := by decide +kernel
theorem dX7_rest_8 : decode cX7_rest 8 = .ok (.ldc 152, 2) := by decide +kernel
theorem dX7_rest_10 : decode cX7_rest 10 = .ok (.invokespecial 101, 3) := by decide +kernel
theorem dX7_rest_13 : decode cX7_rest 13 = .ok (.athrow, 1) := by decide +kernel
theorem dX7_rest_14 : decode cX7_rest 14 = .ok (.aload_n 0, 1) := by decide +kernel
theorem dX7_rest_15 : decode cX7_rest 15 = .ok (.getfield 33, 3) := by decide +kernel
theorem dX7_rest_18 : decode cX7_rest 18 = .ok (.iload_n 1, 1) := by decide +kernel
theorem dX7_rest_19 : decode cX7_rest 19 = .ok (.invokevirtual 154, 3) := by decide +kernel
theorem dX7_rest_22 : decode cX7_rest 22 = .ok (.ireturn, 1) := by decide +kernel
set_option maxRecDepth 20000 in
theorem ggX7_crate_X7_isFloor : GoodIn wsX7_crate wsX7_isFloor := goodIn_r _ [10, 11, 12, 9, 13] (by decide +kernel) (by decide +kernel)
set_option maxRecDepth 20000 in
theorem gX7_crate_X7_isFloor : GoodIn wsX7_crate (va_wsS RX7 157 yX7_isFloor wsX7_isFloor) := goodIn_app (goodIn_of _ (by decide +kernel)) ggX7_crate_X7_isFloor
set_option maxRecDepth 20000 in
theorem ggX7_crate_X7_isWithin : GoodIn wsX7_crate wsX7_isWithin := goodIn_r _ [13] (by decide +kernel) (by decide +kernel)
set_option maxRecDepth 20000 in
theorem gX7_crate_X7_isWithin : GoodIn wsX7_crate (va_wsS RX7 61 yX7_isWithin wsX7_isWithin) := goodIn_app (goodIn_of _ (by decide +kernel)) ggX7_crate_X7_isWithin
set_option maxRecDepth 20000 in
theorem ggX7_crate_X5_isFull : GoodIn wsX7_crate wsX5_isFull := goodIn_r _ [18, 19, 33, 34, 35, 36] (by decide +kernel) (by decide +kernel)
set_option maxRecDepth 20000 in
theorem gX7_crate_X5_isFull : GoodIn wsX7_crate (wsV RX7 164 RX5 yX5_isFull wsX5_isFull) := goodIn_app (goodIn_of _ (by decide +kernel)) ggX7_crate_X5_isFull
set_option maxRecDepth 20000 in
theorem ggX7_crate_X5_put : GoodIn wsX7_crate wsX5_put := goodIn_r _ [23, 19, 24, 25, 33, 34, 35, 36] (by decide +kernel) (by decide +kernel)
set_option maxRecDepth 20000 in
theorem gX7_crate_X5_put : GoodIn wsX7_crate (wsV RX7 170 RX5 yX5_put wsX5_put) := goodIn_app (goodIn_of _ (by decide +kernel)) ggX7_crate_X5_put
theorem dX7_crate_0 : decode cX7_crate 0 = .ok (.iload_n 1, 1) := by decide +kernel
theorem dX7_crate_1 : decode cX7_crate 1 = .ok (.invokestatic 157, 3) := by decide +kernel
theorem dX7_crate_4 : decode cX7_crate 4 = .ok (.ifCond .ne 13, 3) := by decide +kernel
theorem dX7_crate_7 : decode cX7_crate 7 = .ok (.new 65, 3) := by decide +kernel
theorem dX7_crate_10 : decode cX7_crate 10 = .ok (.dup, 1) := by decide +kernel
theorem dX7_crate_11 : decode cX7_crate 11 = .ok (.ldc 160, 2) := by decide +kernel
theorem dX7_crate_13 : decode cX7_crate 13 = .ok (.invokespecial 69, 3) := by decide +kernel
theorem dX7_crate_16 : decode cX7_crate 16 = .ok (.athrow, 1) := by decide +kernel
theorem dX7_crate_17 : decode cX7_crate 17 = .ok (.iload_n 2, 1) := by decide +kernel
theorem dX7_crate_18 : decode cX7_crate 18 = .ok (.iconst 1, 1) := by decide +kernel
theorem dX7_crate_19 : decode cX7_crate 19 = .ok (.bipush 100, 2) := by decide +kernel
theorem dX7_crate_21 : decode cX7_crate 21 = .ok (.invokestatic 61, 3) := by decide +kernel
theorem dX7_crate_24 : decode cX7_crate 24 = .ok (.ifCond .ne 13, 3) := by decide +kernel
theorem dX7_crate_27 : decode cX7_crate 27 = .ok (.new 65, 3) := by decide +kernel
theorem dX7_crate_30 : decode cX7_crate 30 = .ok (.dup, 1) := by decide +kernel
theorem dX7_crate_31 : decode cX7_crate 31 = .ok (.ldc 162, 2) := by decide +kernel
theorem dX7_crate_33 : decode cX7_crate 33 = .ok (.invokespecial 69, 3) := by decide +kernel
theorem dX7_crate_36 : decode cX7_crate 36 = .ok (.athrow, 1) := by decide +kernel
theorem dX7_crate_37 : decode cX7_crate 37 = .ok (.aload_n 0, 1) := by decide +kernel
theorem dX7_crate_38 : decode cX7_crate 38 = .ok (.getfield 40, 3) := by decide +kernel
theorem dX7_crate_41 : decode cX7_crate 41 = .ok (.invokevirtual 164, 3) := by decide +kernel
theorem dX7_crate_44 : decode cX7_crate 44 = .ok (.ifCond .eq 13, 3) := by decide +kernel
theorem dX7_crate_47 : decode cX7_crate 47 = .ok (.new 80, 3) := by decide +kernel
theorem dX7_crate_50 : decode cX7_crate 50 = .ok (.dup, 1) := by decide +kernel
theorem dX7_crate_51 : decode cX7_crate 51 = .ok (.ldc 168, 2) := by decide +kernel
theorem dX7_crate_53 : decode cX7_crate 53 = .ok (.invokespecial 84, 3) := by decide +kernel
theorem dX7_crate_56 : decode cX7_crate 56 = .ok (.athrow, 1) := by decide +kernel
theorem dX7_crate_57 : decode cX7_crate 57 = .ok (.aload_n 0, 1) := by decide +kernel
theorem dX7_crate_58 : decode cX7_crate 58 = .ok (.getfield 40, 3) := by decide +kernel
theorem dX7_crate_61 : decode cX7_crate 61 = .ok (.iload_n 1, 1) := by decide +kernel
theorem dX7_crate_62 : decode cX7_crate 62 = .ok (.iload_n 2, 1) := by decide +kernel
theorem dX7_crate_63 : decode cX7_crate 63 = .ok (.invokevirtual 170, 3) := by decide +kernel
theorem dX7_crate_66 : decode cX7_crate 66 = .ok (.aload_n 0, 1) := by decide +kernel
theorem dX7_crate_67 : decode cX7_crate 67 = .ok (.getfield 40, 3) := by decide +kernel
theorem dX7_crate_70 : decode cX7_crate 70 = .ok (.getfield 174, 3) := by decide +kernel
theorem dX7_crate_73 : decode cX7_crate 73 = .ok (.ireturn, 1) := by decide +kernel
set_option maxRecDepth 20000 in
theorem ggX7_fetch_X7_isFloor : GoodIn wsX7_fetch wsX7_isFloor := goodIn_r _ [7, 8, 9, 6, 10] (by decide +kernel) (by decide +kernel)
set_option maxRecDepth 20000 in
theorem gX7_fetch_X7_isFloor : GoodIn wsX7_fetch (va_wsS RX7 157 yX7_isFloor wsX7_isFloor) := goodIn_app (goodIn_of _ (by decide +kernel)) ggX7_fetch_X7_isFloor
set_option maxRecDepth 20000 in
theorem ggX7_fetch_X5_takeTopmostFor : GoodIn wsX7_fetch wsX5_takeTopmostFor := goodIn_r _ [15, 16, 17, 18, 19, 20, 21, 14, 22, 23, 24, 25, 26, 27, 35, 36, 37, 38] (by decide +kernel) (by decide +kernel)
set_option maxRecDepth 20000 in
theorem gX7_fetch_X5_takeTopmostFor : GoodIn wsX7_fetch (wsV RX7 175 RX5 yX5_takeTopmostFor wsX5_takeTopmostFor) := goodIn_app (goodIn_of _ (by decide +kernel)) ggX7_fetch_X5_takeTopmostFor
theorem dX7_fetch_0 : decode cX7_fetch 0 = .ok (.iload_n 1, 1) := by decide +kernel
theorem dX7_fetch_1 : decode cX7_fetch 1 = .ok (.invokestatic 157, 3) := by decide +kernel
theorem dX7_fetch_4 : decode cX7_fetch 4 = .ok (.ifCond .ne 13, 3) := by decide +kernel
theorem dX7_fetch_7 : decode cX7_fetch 7 = .ok (.new 65, 3) := by decide +kernel
theorem dX7_fetch_10 : decode cX7_fetch 10 = .ok (.dup, 1) := by decide +kernel
theorem dX7_fetch_11 : decode cX7_fetch 11 = .ok (.ldc 160, 2) := by decide +kernel
theorem dX7_fetch_13 : decode cX7_fetch 13 = .ok (.invokespecial 69, 3) := by decide +kernel
theorem dX7_fetch_16 : decode cX7_fetch 16 = .ok (.athrow, 1) := by decide +kernel
theorem dX7_fetch_17 : decode cX7_fetch 17 = .ok (.aload_n 0, 1) := by decide +kernel
theorem dX7_fetch_18 : decode cX7_fetch 18 = .ok (.getfield 40, 3) := by decide +kernel
theorem dX7_fetch_21 : decode cX7_fetch 21 = .ok (.iload_n 1, 1) := by decide +kernel
theorem dX7_fetch_22 : decode cX7_fetch 22 = .ok (.invokevirtual 175, 3) := by decide +kernel
theorem dX7_fetch_25 : decode cX7_fetch 25 = .ok (.ireturn, 1) := by decide +kernel
theorem dX7_moves_0 : decode cX7_moves 0 = .ok (.aload_n 0, 1) := by decide +kernel
theorem dX7_moves_1 : decode cX7_moves 1 = .ok (.getfield 40, 3) := by decide +kernel
theorem dX7_moves_4 : decode cX7_moves 4 = .ok (.getfield 178, 3) := by decide +kernel
theorem dX7_moves_7 : decode cX7_moves 7 = .ok (.ireturn, 1) := by decide +kernel
set_option maxRecDepth 20000 in
theorem ggX7_grout_X7_isWithin : GoodIn wsX7_grout wsX7_isWithin := goodIn_r _ [8] (by decide +kernel) (by decide +kernel)
set_option maxRecDepth 20000 in
theorem gX7_grout_X7_isWithin : GoodIn wsX7_grout (va_wsS RX7 61 yX7_isWithin wsX7_isWithin) := goodIn_app (goodIn_of _ (by decide +kernel)) ggX7_grout_X7_isWithin
theorem dX7_grout_0 : decode cX7_grout 0 = .ok (.iload_n 1, 1) := by decide +kernel
theorem dX7_grout_1 : decode cX7_grout 1 = .ok (.iconst 0, 1) := by decide +kernel
theorem dX7_grout_2 : decode cX7_grout 2 = .ok (.bipush 48, 2) := by decide +kernel
theorem dX7_grout_4 : decode cX7_grout 4 = .ok (.invokestatic 61, 3) := by decide +kernel
theorem dX7_grout_7 : decode cX7_grout 7 = .ok (.ifCond .ne 13, 3) := by decide +kernel
theorem dX7_grout_10 : decode cX7_grout 10 = .ok (.new 65, 3) := by decide +kernel
theorem dX7_grout_13 : decode cX7_grout 13 = .ok (.dup, 1) := by decide +kernel
theorem dX7_grout_14 : decode cX7_grout 14 = .ok (.ldc 181, 2) := by decide +kernel
theorem dX7_grout_16 : decode cX7_grout 16 = .ok (.invokespecial 69, 3) := by decide +kernel
theorem dX7_grout_19 : decode cX7_grout 19 = .ok (.athrow, 1) := by decide +kernel
theorem dX7_grout_20 : decode cX7_grout 20 = .ok (.aload_n 0, 1) := by decide +kernel
theorem dX7_grout_21 : decode cX7_grout 21 = .ok (.getfield 47, 3) := by decide +kernel
theorem dX7_grout_24 : decode cX7_grout 24 = .ok (.getfield 183, 3) := by decide +kernel
theorem dX7_grout_27 : decode cX7_grout 27 = .ok (.istore_n 2, 1) := by decide +kernel
theorem dX7_grout_28 : decode cX7_grout 28 = .ok (.aload_n 0, 1) := by decide +kernel
theorem dX7_grout_29 : decode cX7_grout 29 = .ok (.getfield 47, 3) := by decide +kernel
theorem dX7_grout_32 : decode cX7_grout 32 = .ok (.iload_n 1, 1) := by decide +kernel
theorem dX7_grout_33 : decode cX7_grout 33 = .ok (.putfield 183, 3) := by decide +kernel
theorem dX7_grout_36 : decode cX7_grout 36 = .ok (.iload_n 2, 1) := by decide +kernel
theorem dX7_grout_37 : decode cX7_grout 37 = .ok (.ireturn, 1) := by decide +kernel
set_option maxRecDepth 20000 in
theorem ggX7_lay_X3_hasStrip : GoodIn wsX7_lay wsX3_hasStrip := goodIn_r _ [12, 13, 14, 15, 11, 16, 17, 18, 19, 20, 21, 22, 23, 24, 25, 26, 27, 28, 29, 30, 31, 32, 33, 80, 81, 82, 83] (by decide +kernel) (by decide +kernel)
set_option maxRecDepth 20000 in
theorem gX7_lay_X3_hasStrip : GoodIn wsX7_lay (wsV RX7 186 RX3 yX3_hasStrip wsX3_hasStrip) := goodIn_app (goodIn_of _ (by decide +kernel)) ggX7_lay_X3_hasStrip
set_option maxRecDepth 20000 in
theorem ggX7_lay_X6_canStart : GoodIn wsX7_lay wsX6_canStart := goodIn_r _ [38, 39, 40, 41, 42, 43, 44, 37, 45, 75, 76, 77, 78, 79] (by decide +kernel) (by decide +kernel)
set_option maxRecDepth 20000 in
theorem gX7_lay_X6_canStart : GoodIn wsX7_lay (wsV RX7 191 RX6 yX6_canStart wsX6_canStart) := goodIn_app (goodIn_of _ (by decide +kernel)) ggX7_lay_X6_canStart
set_option maxRecDepth 20000 in
theorem ggX7_lay_X7_piecesOfStrip : GoodIn wsX7_lay wsX7_piecesOfStrip := goodIn_r _ [49, 50, 5, 51, 52, 53, 54, 55, 56, 57, 58, 59, 60, 11, 61, 17, 22, 23, 24, 25, 18, 19, 20, 21, 26, 27, 28, 29, 30, 31, 32, 33, 68, 69, 70, 71, 72, 73, 74, 84, 85, 86, 87, 88, 89, 90, 91, 92, 80, 81, 82, 83] (by decide +kernel) (by decide +kernel)
set_option maxRecDepth 20000 in
theorem gX7_lay_X7_piecesOfStrip : GoodIn wsX7_lay (wsV RX7 196 RX7 yX7_piecesOfStrip wsX7_piecesOfStrip) := goodIn_app (goodIn_of _ (by decide +kernel)) ggX7_lay_X7_piecesOfStrip
set_option maxRecDepth 20000 in
theorem ggX7_lay_X6_finish : GoodIn wsX7_lay wsX6_finish := goodIn_r _ [65, 40, 39, 41, 66, 67, 31, 32, 33, 75, 76, 77, 78, 79] (by decide +kernel) (by decide +kernel)
set_option maxRecDepth 20000 in
theorem gX7_lay_X6_finish : GoodIn wsX7_lay (wsV RX7 199 RX6 yX6_finish wsX6_finish) := goodIn_app (goodIn_of _ (by decide +kernel)) ggX7_lay_X6_finish
theorem dX7_lay_0 : decode cX7_lay 0 = .ok (.aload_n 0, 1) := by decide +kernel
theorem dX7_lay_1 : decode cX7_lay 1 = .ok (.getfield 12, 3) := by decide +kernel
theorem dX7_lay_4 : decode cX7_lay 4 = .ok (.iload_n 1, 1) := by decide +kernel
theorem dX7_lay_5 : decode cX7_lay 5 = .ok (.invokevirtual 186, 3) := by decide +kernel
theorem dX7_lay_8 : decode cX7_lay 8 = .ok (.ifCond .ne 13, 3) := by decide +kernel
theorem dX7_lay_11 : decode cX7_lay 11 = .ok (.new 97, 3) := by decide +kernel
theorem dX7_lay_14 : decode cX7_lay 14 = .ok (.dup, 1) := by decide +kernel
theorem dX7_lay_15 : decode cX7_lay 15 = .ok (.ldc 189, 2) := by decide +kernel
theorem dX7_lay_17 : decode cX7_lay 17 = .ok (.invokespecial 101, 3) := by decide +kernel
theorem dX7_lay_20 : decode cX7_lay 20 = .ok (.athrow, 1) := by decide +kernel
theorem dX7_lay_21 : decode cX7_lay 21 = .ok (.aload_n 0, 1) := by decide +kernel
theorem dX7_lay_22 : decode cX7_lay 22 = .ok (.getfield 47, 3) := by decide +kernel
theorem dX7_lay_25 : decode cX7_lay 25 = .ok (.iload_n 1, 1) := by decide +kernel
theorem dX7_lay_26 : decode cX7_lay 26 = .ok (.invokevirtual 191, 3) := by decide +kernel
theorem dX7_lay_29 : decode cX7_lay 29 = .ok (.ifCond .ne 13, 3) := by decide +kernel
theorem dX7_lay_32 : decode cX7_lay 32 = .ok (.new 80, 3) := by decide +kernel
theorem dX7_lay_35 : decode cX7_lay 35 = .ok (.dup, 1) := by decide +kernel
theorem dX7_lay_36 : decode cX7_lay 36 = .ok (.ldc 194, 2) := by decide +kernel
theorem dX7_lay_38 : decode cX7_lay 38 = .ok (.invokespecial 84, 3) := by decide +kernel
theorem dX7_lay_41 : decode cX7_lay 41 = .ok (.athrow, 1) := by decide +kernel
theorem dX7_lay_42 : decode cX7_lay 42 = .ok (.aload_n 0, 1) := by decide +kernel
theorem dX7_lay_43 : decode cX7_lay 43 = .ok (.getfield 47, 3) := by decide +kernel
theorem dX7_lay_46 : decode cX7_lay 46 = .ok (.iload_n 1, 1) := by decide +kernel
theorem dX7_lay_47 : decode cX7_lay 47 = .ok (.aload_n 0, 1) := by decide +kernel
theorem dX7_lay_48 : decode cX7_lay 48 = .ok (.iload_n 1, 1) := by decide +kernel
theorem dX7_lay_49 : decode cX7_lay 49 = .ok (.invokevirtual 196, 3) := by decide +kernel
theorem dX7_lay_52 : decode cX7_lay 52 = .ok (.invokevirtual 199, 3) := by decide +kernel
theorem dX7_lay_55 : decode cX7_lay 55 = .ok (.aload_n 0, 1) := by decide +kernel
theorem dX7_lay_56 : decode cX7_lay 56 = .ok (.getfield 47, 3) := by decide +kernel
theorem dX7_lay_59 : decode cX7_lay 59 = .ok (.getfield 202, 3) := by decide +kernel
theorem dX7_lay_62 : decode cX7_lay 62 = .ok (.ireturn, 1) := by decide +kernel
set_option maxRecDepth 20000 in
theorem ggX7_dry_X3_hasStrip : GoodIn wsX7_dry wsX3_hasStrip := goodIn_r _ [9, 10, 11, 12, 8, 13, 14, 15, 16, 17, 18, 19, 20, 21, 22, 23, 24, 25, 26, 27, 28, 29, 30, 49, 50, 51, 52] (by decide +kernel) (by decide +kernel)
set_option maxRecDepth 20000 in
theorem gX7_dry_X3_hasStrip : GoodIn wsX7_dry (wsV RX7 186 RX3 yX3_hasStrip wsX3_hasStrip) := goodIn_app (goodIn_of _ (by decide +kernel)) ggX7_dry_X3_hasStrip
set_option maxRecDepth 20000 in
theorem ggX7_dry_X6_dryHourOf : GoodIn wsX7_dry wsX6_dryHourOf := goodIn_r _ [35, 36, 37, 38, 39, 34, 40, 41, 53, 54, 55, 56, 57] (by decide +kernel) (by decide +kernel)
set_option maxRecDepth 20000 in
theorem gX7_dry_X6_dryHourOf : GoodIn wsX7_dry (wsV RX7 205 RX6 yX6_dryHourOf wsX6_dryHourOf) := goodIn_app (goodIn_of _ (by decide +kernel)) ggX7_dry_X6_dryHourOf
theorem dX7_dry_0 : decode cX7_dry 0 = .ok (.aload_n 0, 1) := by decide +kernel
theorem dX7_dry_1 : decode cX7_dry 1 = .ok (.getfield 12, 3) := by decide +kernel
theorem dX7_dry_4 : decode cX7_dry 4 = .ok (.iload_n 1, 1) := by decide +kernel
theorem dX7_dry_5 : decode cX7_dry 5 = .ok (.invokevirtual 186, 3) := by decide +kernel
theorem dX7_dry_8 : decode cX7_dry 8 = .ok (.ifCond .ne 13, 3) := by decide +kernel
theorem dX7_dry_11 : decode cX7_dry 11 = .ok (.new 97, 3) := by decide +kernel
theorem dX7_dry_14 : decode cX7_dry 14 = .ok (.dup, 1) := by decide +kernel
theorem dX7_dry_15 : decode cX7_dry 15 = .ok (.ldc 189, 2) := by decide +kernel
theorem dX7_dry_17 : decode cX7_dry 17 = .ok (.invokespecial 101, 3) := by decide +kernel
theorem dX7_dry_20 : decode cX7_dry 20 = .ok (.athrow, 1) := by decide +kernel
theorem dX7_dry_21 : decode cX7_dry 21 = .ok (.aload_n 0, 1) := by decide +kernel
theorem dX7_dry_22 : decode cX7_dry 22 = .ok (.getfield 47, 3) := by decide +kernel
theorem dX7_dry_25 : decode cX7_dry 25 = .ok (.iload_n 1, 1) := by decide +kernel
theorem dX7_dry_26 : decode cX7_dry 26 = .ok (.invokevirtual 205, 3) := by decide +kernel
theorem dX7_dry_29 : decode cX7_dry 29 = .ok (.ireturn, 1) := by decide +kernel
set_option maxRecDepth 20000 in
theorem ggX7_strips_X3_countStrips : GoodIn wsX7_strips wsX3_countStrips := goodIn_r _ [6, 7, 8, 9, 10, 5, 11, 12, 13, 14, 15, 16, 17, 18, 19, 20, 21, 22, 23, 31, 32, 33, 34] (by decide +kernel) (by decide +kernel)
set_option maxRecDepth 20000 in
theorem gX7_strips_X3_countStrips : GoodIn wsX7_strips (wsV RX7 208 RX3 yX3_countStrips wsX3_countStrips) := goodIn_app (goodIn_of _ (by decide +kernel)) ggX7_strips_X3_countStrips
theorem dX7_strips_0 : decode cX7_strips 0 = .ok (.aload_n 0, 1) := by decide +kernel
theorem dX7_strips_1 : decode cX7_strips 1 = .ok (.getfield 12, 3) := by decide +kernel
theorem dX7_strips_4 : decode cX7_strips 4 = .ok (.invokevirtual 208, 3) := by decide +kernel
theorem dX7_strips_7 : decode cX7_strips 7 = .ok (.ireturn, 1) := by decide +kernel
set_option maxRecDepth 20000 in
theorem ggX7_pass_X7_isWithin : GoodIn wsX7_pass wsX7_isWithin := goodIn_r _ [8] (by decide +kernel) (by decide +kernel)
set_option maxRecDepth 20000 in
theorem gX7_pass_X7_isWithin : GoodIn wsX7_pass (va_wsS RX7 61 yX7_isWithin wsX7_isWithin) := goodIn_app (goodIn_of _ (by decide +kernel)) ggX7_pass_X7_isWithin
theorem dX7_pass_0 : decode cX7_pass 0 = .ok (.iload_n 1, 1) := by decide +kernel
theorem dX7_pass_1 : decode cX7_pass 1 = .ok (.iconst 1, 1) := by decide +kernel
theorem dX7_pass_2 : decode cX7_pass 2 = .ok (.bipush 100, 2) := by decide +kernel
theorem dX7_pass_4 : decode cX7_pass 4 = .ok (.invokestatic 61, 3) := by decide +kernel
theorem dX7_pass_7 : decode cX7_pass 7 = .ok (.ifCond .ne 13, 3) := by decide +kernel
theorem dX7_pass_10 : decode cX7_pass 10 = .ok (.new 65, 3) := by decide +kernel
theorem dX7_pass_13 : decode cX7_pass 13 = .ok (.dup, 1) := by decide +kernel
theorem dX7_pass_14 : decode cX7_pass 14 = .ok (.ldc 212, 2) := by decide +kernel
theorem dX7_pass_16 : decode cX7_pass 16 = .ok (.invokespecial 69, 3) := by decide +kernel
theorem dX7_pass_19 : decode cX7_pass 19 = .ok (.athrow, 1) := by decide +kernel
theorem dX7_pass_20 : decode cX7_pass 20 = .ok (.aload_n 0, 1) := by decide +kernel
theorem dX7_pass_21 : decode cX7_pass 21 = .ok (.getfield 47, 3) := by decide +kernel
theorem dX7_pass_24 : decode cX7_pass 24 = .ok (.dup, 1) := by decide +kernel
theorem dX7_pass_25 : decode cX7_pass 25 = .ok (.getfield 202, 3) := by decide +kernel
theorem dX7_pass_28 : decode cX7_pass 28 = .ok (.iload_n 1, 1) := by decide +kernel
theorem dX7_pass_29 : decode cX7_pass 29 = .ok (.iadd, 1) := by decide +kernel
theorem dX7_pass_30 : decode cX7_pass 30 = .ok (.putfield 202, 3) := by decide +kernel
theorem dX7_pass_33 : decode cX7_pass 33 = .ok (.aload_n 0, 1) := by decide +kernel
theorem dX7_pass_34 : decode cX7_pass 34 = .ok (.getfield 47, 3) := by decide +kernel
theorem dX7_pass_37 : decode cX7_pass 37 = .ok (.getfield 202, 3) := by decide +kernel
theorem dX7_pass_40 : decode cX7_pass 40 = .ok (.ireturn, 1) := by decide +kernel
set_option maxRecDepth 20000 in
theorem ggX7_renew_X0_renew : GoodIn wsX7_renew wsX0_renew := goodIn_r _ [10, 11, 12, 13, 14, 15, 16, 17, 18, 19, 20, 21, 22, 23, 24, 25, 26, 27, 28, 29, 30, 31, 32, 33, 34, 35, 36, 37, 38, 39, 40, 41, 9, 42, 43, 44, 45, 46, 47, 48, 49, 50, 51, 52, 53, 176, 177, 178, 179, 180, 181, 182, 183, 184, 185, 186, 187] (by decide +kernel) (by decide +kernel)
set_option maxRecDepth 20000 in
theorem gX7_renew_X0_renew : GoodIn wsX7_renew (wsV RX7 214 RX0 yX0_renew wsX0_renew) := goodIn_app (goodIn_of _ (by decide +kernel)) ggX7_renew_X0_renew
set_option maxRecDepth 20000 in
theorem ggX7_renew_X4_find : GoodIn wsX7_renew wsX4_find := goodIn_r _ [58, 59, 60, 61, 62, 63, 64, 47, 31, 48, 65, 66, 67, 9, 68, 43, 45, 46, 69, 70, 71, 57, 72, 73, 74, 75, 76, 77, 78, 79, 80, 81, 82, 83, 84, 85, 86, 14, 87, 88, 16, 89, 29, 90, 91, 92, 93, 94, 95, 96, 97, 98, 99, 100, 101, 102, 103, 104, 17, 18, 19, 20, 105, 106, 107, 108, 109, 110, 111, 112, 113, 25, 26, 27, 28, 30, 32, 114, 115, 116, 117, 118, 119, 120, 121, 122, 123, 124, 125, 126, 188, 189, 190, 191, 192, 193, 194, 195, 196, 185, 186, 187, 176, 177, 178, 179, 197, 198, 199, 200] (by decide +kernel) (by decide +kernel)
set_option maxRecDepth 20000 in
theorem gX7_renew_X4_find : GoodIn wsX7_renew (wsV RX7 217 RX4 yX4_find wsX4_find) := goodIn_app (goodIn_of _ (by decide +kernel)) ggX7_renew_X4_find
set_option maxRecDepth 20000 in
theorem ggX7_renew_X1_cutAll : GoodIn wsX7_renew wsX1_cutAll := goodIn_r _ [131, 132, 133, 134, 135, 136, 137, 138, 62, 63, 64, 139, 81, 82, 57, 83, 59, 140, 141, 142, 130, 143, 144, 145, 146, 147, 148, 149, 150, 151, 152, 153, 154, 155, 156, 157, 158, 159, 160, 161, 162, 163, 164, 165, 166, 167, 168, 201, 202, 203, 204, 205, 206, 188, 189, 190, 191, 192, 193, 194, 195, 196, 176, 177, 178, 179] (by decide +kernel) (by decide +kernel)
set_option maxRecDepth 20000 in
theorem gX7_renew_X1_cutAll : GoodIn wsX7_renew (wsV RX7 221 RX1 yX1_cutAll wsX1_cutAll) := goodIn_app (goodIn_of _ (by decide +kernel)) ggX7_renew_X1_cutAll
theorem dX7_renew_0 : decode cX7_renew 0 = .ok (.aload_n 0, 1) := by decide +kernel
theorem dX7_renew_1 : decode cX7_renew 1 = .ok (.getfield 19, 3) := by decide +kernel
theorem dX7_renew_4 : decode cX7_renew 4 = .ok (.aload_n 0, 1) := by decide +kernel
theorem dX7_renew_5 : decode cX7_renew 5 = .ok (.getfield 12, 3) := by decide +kernel
theorem dX7_renew_8 : decode cX7_renew 8 = .ok (.aload_n 0, 1) := by decide +kernel
theorem dX7_renew_9 : decode cX7_renew 9 = .ok (.getfield 47, 3) := by decide +kernel
theorem dX7_renew_12 : decode cX7_renew 12 = .ok (.invokevirtual 214, 3) := by decide +kernel
theorem dX7_renew_15 : decode cX7_renew 15 = .ok (.aload_n 0, 1) := by decide +kernel
theorem dX7_renew_16 : decode cX7_renew 16 = .ok (.getfield 26, 3) := by decide +kernel
theorem dX7_renew_19 : decode cX7_renew 19 = .ok (.aload_n 0, 1) := by decide +kernel
theorem dX7_renew_20 : decode cX7_renew 20 = .ok (.getfield 12, 3) := by decide +kernel
theorem dX7_renew_23 : decode cX7_renew 23 = .ok (.aload_n 0, 1) := by decide +kernel
theorem dX7_renew_24 : decode cX7_renew 24 = .ok (.getfield 19, 3) := by decide +kernel
theorem dX7_renew_27 : decode cX7_renew 27 = .ok (.invokevirtual 217, 3) := by decide +kernel
theorem dX7_renew_30 : decode cX7_renew 30 = .ok (.aload_n 0, 1) := by decide +kernel
theorem dX7_renew_31 : decode cX7_renew 31 = .ok (.getfield 33, 3) := by decide +kernel
theorem dX7_renew_34 : decode cX7_renew 34 = .ok (.aload_n 0, 1) := by decide +kernel
theorem dX7_renew_35 : decode cX7_renew 35 = .ok (.getfield 12, 3) := by decide +kernel
theorem dX7_renew_38 : decode cX7_renew 38 = .ok (.aload_n 0, 1) := by decide +kernel
theorem dX7_renew_39 : decode cX7_renew 39 = .ok (.getfield 26, 3) := by decide +kernel
theorem dX7_renew_42 : decode cX7_renew 42 = .ok (.invokevirtual 221, 3) := by decide +kernel
theorem dX7_renew_45 : decode cX7_renew 45 = .ok (.return_, 1) := by decide +kernel
set_option maxRecDepth 20000 in
theorem ggX7_piecesOfStrip_X4_has : GoodIn wsX7_piecesOfStrip wsX4_has := goodIn_r _ [8, 9, 39, 40, 41, 42, 43, 44, 45, 46, 47] (by decide +kernel) (by decide +kernel)
set_option maxRecDepth 20000 in
theorem gX7_piecesOfStrip_X4_has : GoodIn wsX7_piecesOfStrip (wsV RX7 111 RX4 yX4_has wsX4_has) := goodIn_app (goodIn_of _ (by decide +kernel)) ggX7_piecesOfStrip_X4_has
set_option maxRecDepth 20000 in
theorem ggX7_piecesOfStrip_X3_stripOfRow : GoodIn wsX7_piecesOfStrip wsX3_stripOfRow := goodIn_r _ [14, 15, 16, 17, 18, 13, 19, 20, 21, 22, 23, 24, 25, 26, 27, 28, 29, 30, 31, 48, 49, 50, 51] (by decide +kernel) (by decide +kernel)
set_option maxRecDepth 20000 in
theorem gX7_piecesOfStrip_X3_stripOfRow : GoodIn wsX7_piecesOfStrip (wsV RX7 132 RX3 yX3_stripOfRow wsX3_stripOfRow) := goodIn_app (goodIn_of _ (by decide +kernel)) ggX7_piecesOfStrip_X3_stripOfRow
theorem dX7_piecesOfStrip_0 : decode cX7_piecesOfStrip 0 = .ok (.iconst 0, 1) := by decide +kernel
theorem dX7_piecesOfStrip_1 : decode cX7_piecesOfStrip 1 = .ok (.istore_n 2, 1) := by decide +kernel
theorem dX7_piecesOfStrip_2 : decode cX7_piecesOfStrip 2 = .ok (.iconst 0, 1) := by decide +kernel
theorem dX7_piecesOfStrip_3 : decode cX7_piecesOfStrip 3 = .ok (.istore_n 3, 1) := by decide +kernel
theorem dX7_piecesOfStrip_4 : decode cX7_piecesOfStrip 4 = .ok (.iload_n 3, 1) := by decide +kernel
theorem dX7_piecesOfStrip_5 : decode cX7_piecesOfStrip 5 = .ok (.bipush 96, 2) := by decide +kernel
theorem dX7_piecesOfStrip_7 : decode cX7_piecesOfStrip 7 = .ok (.if_icmp .ge 43, 3) := by decide +kernel
theorem dX7_piecesOfStrip_10 : decode cX7_piecesOfStrip 10 = .ok (.aload_n 0, 1) := by decide +kernel
theorem dX7_piecesOfStrip_11 : decode cX7_piecesOfStrip 11 = .ok (.getfield 26, 3) := by decide +kernel
theorem dX7_piecesOfStrip_14 : decode cX7_piecesOfStrip 14 = .ok (.iload_n 3, 1) := by decide +kernel
theorem dX7_piecesOfStrip_15 : decode cX7_piecesOfStrip 15 = .ok (.invokevirtual 111, 3) := by decide +kernel
theorem dX7_piecesOfStrip_18 : decode cX7_piecesOfStrip 18 = .ok (.ifCond .eq 26, 3) := by decide +kernel
theorem dX7_piecesOfStrip_21 : decode cX7_piecesOfStrip 21 = .ok (.aload_n 0, 1) := by decide +kernel
theorem dX7_piecesOfStrip_22 : decode cX7_piecesOfStrip 22 = .ok (.getfield 12, 3) := by decide +kernel
theorem dX7_piecesOfStrip_25 : decode cX7_piecesOfStrip 25 = .ok (.aload_n 0, 1) := by decide +kernel
theorem dX7_piecesOfStrip_26 : decode cX7_piecesOfStrip 26 = .ok (.getfield 26, 3) := by decide +kernel
theorem dX7_piecesOfStrip_29 : decode cX7_piecesOfStrip 29 = .ok (.getfield 126, 3) := by decide +kernel
theorem dX7_piecesOfStrip_32 : decode cX7_piecesOfStrip 32 = .ok (.iload_n 3, 1) := by decide +kernel
theorem dX7_piecesOfStrip_33 : decode cX7_piecesOfStrip 33 = .ok (.iaload, 1) := by decide +kernel
theorem dX7_piecesOfStrip_34 : decode cX7_piecesOfStrip 34 = .ok (.invokevirtual 132, 3) := by decide +kernel
theorem dX7_piecesOfStrip_37 : decode cX7_piecesOfStrip 37 = .ok (.iload_n 1, 1) := by decide +kernel
theorem dX7_piecesOfStrip_38 : decode cX7_piecesOfStrip 38 = .ok (.if_icmp .ne 6, 3) := by decide +kernel
theorem dX7_piecesOfStrip_41 : decode cX7_piecesOfStrip 41 = .ok (.iinc 2 1, 3) := by decide +kernel
theorem dX7_piecesOfStrip_44 : decode cX7_piecesOfStrip 44 = .ok (.iinc 3 1, 3) := by decide +kernel
theorem dX7_piecesOfStrip_47 : decode cX7_piecesOfStrip 47 = .ok (.goto (-43), 3) := by decide +kernel
theorem dX7_piecesOfStrip_50 : decode cX7_piecesOfStrip 50 = .ok (.iload_n 2, 1) := by decide +kernel
theorem dX7_piecesOfStrip_51 : decode cX7_piecesOfStrip 51 = .ok (.ireturn, 1) := by decide +kernel
set_option maxRecDepth 20000 in
theorem ggX7_isFirstOfItsPiece_X0_areAt : GoodIn wsX7_isFirstOfItsPiece wsX0_areAt := goodIn_r _ [11, 12, 13, 14, 15, 16, 17, 72, 73, 74] (by decide +kernel) (by decide +kernel)
set_option maxRecDepth 20000 in
theorem gX7_isFirstOfItsPiece_X0_areAt : GoodIn wsX7_isFirstOfItsPiece (wsV RX7 225 RX0 yX0_areAt wsX0_areAt) := goodIn_app (goodIn_of _ (by decide +kernel)) ggX7_isFirstOfItsPiece_X0_areAt
set_option maxRecDepth 20000 in
theorem ggX7_isFirstOfItsPiece_X3_frame : GoodIn wsX7_isFirstOfItsPiece wsX3_frame := goodIn_r _ [22, 23, 24, 25, 26, 27, 28, 29, 30, 31, 32, 33, 34, 35, 36, 21, 37, 38, 39, 40, 41, 42, 43, 44, 45, 46, 47, 48, 49, 50, 51, 52, 53, 54, 55, 56, 57, 58, 59, 14, 60, 75, 76, 77, 78, 68, 69, 70, 71] (by decide +kernel) (by decide +kernel)
set_option maxRecDepth 20000 in
theorem gX7_isFirstOfItsPiece_X3_frame : GoodIn wsX7_isFirstOfItsPiece (wsV RX7 228 RX3 yX3_frame wsX3_frame) := goodIn_app (goodIn_of _ (by decide +kernel)) ggX7_isFirstOfItsPiece_X3_frame
theorem dX7_isFirstOfItsPiece_0 : decode cX7_isFirstOfItsPiece 0 = .ok (.aload_n 0, 1) := by decide +kernel
theorem dX7_isFirstOfItsPiece_1 : decode cX7_isFirstOfItsPiece 1 = .ok (.getfield 19, 3) := by decide +kernel
theorem dX7_isFirstOfItsPiece_4 : decode cX7_isFirstOfItsPiece 4 = .ok (.iload_n 1, 1) := by decide +kernel
theorem dX7_isFirstOfItsPiece_5 : decode cX7_isFirstOfItsPiece 5 = .ok (.iload_n 2, 1) := by decide +kernel
theorem dX7_isFirstOfItsPiece_6 : decode cX7_isFirstOfItsPiece 6 = .ok (.invokevirtual 225, 3) := by decide +kernel
theorem dX7_isFirstOfItsPiece_9 : decode cX7_isFirstOfItsPiece 9 = .ok (.ifCond .eq 5, 3) := by decide +kernel
theorem dX7_isFirstOfItsPiece_12 : decode cX7_isFirstOfItsPiece 12 = .ok (.iconst 0, 1) := by decide +kernel
theorem dX7_isFirstOfItsPiece_13 : decode cX7_isFirstOfItsPiece 13 = .ok (.ireturn, 1) := by decide +kernel
theorem dX7_isFirstOfItsPiece_14 : decode cX7_isFirstOfItsPiece 14 = .ok (.aload_n 0, 1) := by decide +kernel
theorem dX7_isFirstOfItsPiece_15 : decode cX7_isFirstOfItsPiece 15 = .ok (.getfield 12, 3) := by decide +kernel
theorem dX7_isFirstOfItsPiece_18 : decode cX7_isFirstOfItsPiece 18 = .ok (.iload_n 1, 1) := by decide +kernel
theorem dX7_isFirstOfItsPiece_19 : decode cX7_isFirstOfItsPiece 19 = .ok (.iload_n 2, 1) := by decide +kernel
theorem dX7_isFirstOfItsPiece_20 : decode cX7_isFirstOfItsPiece 20 = .ok (.aload_n 0, 1) := by decide +kernel
theorem dX7_isFirstOfItsPiece_21 : decode cX7_isFirstOfItsPiece 21 = .ok (.getfield 54, 3) := by decide +kernel
theorem dX7_isFirstOfItsPiece_24 : decode cX7_isFirstOfItsPiece 24 = .ok (.invokevirtual 228, 3) := by decide +kernel
theorem dX7_isFirstOfItsPiece_27 : decode cX7_isFirstOfItsPiece 27 = .ok (.aload_n 0, 1) := by decide +kernel
theorem dX7_isFirstOfItsPiece_28 : decode cX7_isFirstOfItsPiece 28 = .ok (.getfield 54, 3) := by decide +kernel
theorem dX7_isFirstOfItsPiece_31 : decode cX7_isFirstOfItsPiece 31 = .ok (.getfield 231, 3) := by decide +kernel
theorem dX7_isFirstOfItsPiece_34 : decode cX7_isFirstOfItsPiece 34 = .ok (.istore_n 3, 1) := by decide +kernel
theorem dX7_isFirstOfItsPiece_35 : decode cX7_isFirstOfItsPiece 35 = .ok (.iload_n 3, 1) := by decide +kernel
theorem dX7_isFirstOfItsPiece_36 : decode cX7_isFirstOfItsPiece 36 = .ok (.iload_n 2, 1) := by decide +kernel
theorem dX7_isFirstOfItsPiece_37 : decode cX7_isFirstOfItsPiece 37 = .ok (.if_icmp .gt 74, 3) := by decide +kernel
theorem dX7_isFirstOfItsPiece_40 : decode cX7_isFirstOfItsPiece 40 = .ok (.aload_n 0, 1) := by decide +kernel
theorem dX7_isFirstOfItsPiece_41 : decode cX7_isFirstOfItsPiece 41 = .ok (.getfield 54, 3) := by decide +kernel
theorem dX7_isFirstOfItsPiece_44 : decode cX7_isFirstOfItsPiece 44 = .ok (.getfield 234, 3) := by decide +kernel
theorem dX7_isFirstOfItsPiece_47 : decode cX7_isFirstOfItsPiece 47 = .ok (.istore 4, 2) := by decide +kernel
theorem dX7_isFirstOfItsPiece_49 : decode cX7_isFirstOfItsPiece 49 = .ok (.iload 4, 2) := by decide +kernel
theorem dX7_isFirstOfItsPiece_51 : decode cX7_isFirstOfItsPiece 51 = .ok (.aload_n 0, 1) := by decide +kernel
theorem dX7_isFirstOfItsPiece_52 : decode cX7_isFirstOfItsPiece 52 = .ok (.getfield 54, 3) := by decide +kernel
theorem dX7_isFirstOfItsPiece_55 : decode cX7_isFirstOfItsPiece 55 = .ok (.getfield 237, 3) := by decide +kernel
theorem dX7_isFirstOfItsPiece_58 : decode cX7_isFirstOfItsPiece 58 = .ok (.if_icmp .ge 47, 3) := by decide +kernel
theorem dX7_isFirstOfItsPiece_61 : decode cX7_isFirstOfItsPiece 61 = .ok (.iload_n 3, 1) := by decide +kernel
theorem dX7_isFirstOfItsPiece_62 : decode cX7_isFirstOfItsPiece 62 = .ok (.iload_n 2, 1) := by decide +kernel
theorem dX7_isFirstOfItsPiece_63 : decode cX7_isFirstOfItsPiece 63 = .ok (.if_icmp .lt 9, 3) := by decide +kernel
theorem dX7_isFirstOfItsPiece_66 : decode cX7_isFirstOfItsPiece 66 = .ok (.iload 4, 2) := by decide +kernel
theorem dX7_isFirstOfItsPiece_68 : decode cX7_isFirstOfItsPiece 68 = .ok (.iload_n 1, 1) := by decide +kernel
theorem dX7_isFirstOfItsPiece_69 : decode cX7_isFirstOfItsPiece 69 = .ok (.if_icmp .ge 7, 3) := by decide +kernel
theorem dX7_isFirstOfItsPiece_72 : decode cX7_isFirstOfItsPiece 72 = .ok (.iconst 1, 1) := by decide +kernel
theorem dX7_isFirstOfItsPiece_73 : decode cX7_isFirstOfItsPiece 73 = .ok (.goto 4, 3) := by decide +kernel
theorem dX7_isFirstOfItsPiece_76 : decode cX7_isFirstOfItsPiece 76 = .ok (.iconst 0, 1) := by decide +kernel
theorem dX7_isFirstOfItsPiece_77 : decode cX7_isFirstOfItsPiece 77 = .ok (.istore 5, 2) := by decide +kernel
theorem dX7_isFirstOfItsPiece_79 : decode cX7_isFirstOfItsPiece 79 = .ok (.iload 5, 2) := by decide +kernel
theorem dX7_isFirstOfItsPiece_81 : decode cX7_isFirstOfItsPiece 81 = .ok (.ifCond .eq 18, 3) := by decide +kernel
theorem dX7_isFirstOfItsPiece_84 : decode cX7_isFirstOfItsPiece 84 = .ok (.aload_n 0, 1) := by decide +kernel
theorem dX7_isFirstOfItsPiece_85 : decode cX7_isFirstOfItsPiece 85 = .ok (.getfield 19, 3) := by decide +kernel
theorem dX7_isFirstOfItsPiece_88 : decode cX7_isFirstOfItsPiece 88 = .ok (.iload 4, 2) := by decide +kernel
theorem dX7_isFirstOfItsPiece_90 : decode cX7_isFirstOfItsPiece 90 = .ok (.iload_n 3, 1) := by decide +kernel
theorem dX7_isFirstOfItsPiece_91 : decode cX7_isFirstOfItsPiece 91 = .ok (.invokevirtual 225, 3) := by decide +kernel
theorem dX7_isFirstOfItsPiece_94 : decode cX7_isFirstOfItsPiece 94 = .ok (.ifCond .ne 5, 3) := by decide +kernel
theorem dX7_isFirstOfItsPiece_97 : decode cX7_isFirstOfItsPiece 97 = .ok (.iconst 0, 1) := by decide +kernel
theorem dX7_isFirstOfItsPiece_98 : decode cX7_isFirstOfItsPiece 98 = .ok (.ireturn, 1) := by decide +kernel
theorem dX7_isFirstOfItsPiece_99 : decode cX7_isFirstOfItsPiece 99 = .ok (.iinc 4 1, 3) := by decide +kernel
theorem dX7_isFirstOfItsPiece_102 : decode cX7_isFirstOfItsPiece 102 = .ok (.goto (-53), 3) := by decide +kernel
theorem dX7_isFirstOfItsPiece_105 : decode cX7_isFirstOfItsPiece 105 = .ok (.iinc 3 1, 3) := by decide +kernel
theorem dX7_isFirstOfItsPiece_108 : decode cX7_isFirstOfItsPiece 108 = .ok (.goto (-73), 3) := by decide +kernel
theorem dX7_isFirstOfItsPiece_111 : decode cX7_isFirstOfItsPiece 111 = .ok (.iconst 1, 1) := by decide +kernel
theorem dX7_isFirstOfItsPiece_112 : decode cX7_isFirstOfItsPiece 112 = .ok (.ireturn, 1) := by decide +kernel
theorem dX7_isWithin_0 : decode cX7_isWithin 0 = .ok (.iload_n 0, 1) := by decide +kernel
theorem dX7_isWithin_1 : decode cX7_isWithin 1 = .ok (.iload_n 1, 1) := by decide +kernel
theorem dX7_isWithin_2 : decode cX7_isWithin 2 = .ok (.if_icmp .lt 12, 3) := by decide +kernel
theorem dX7_isWithin_5 : decode cX7_isWithin 5 = .ok (.iload_n 0, 1) := by decide +kernel
theorem dX7_isWithin_6 : decode cX7_isWithin 6 = .ok (.iload_n 2, 1) := by decide +kernel
theorem dX7_isWithin_7 : decode cX7_isWithin 7 = .ok (.if_icmp .gt 7, 3) := by decide +kernel
theorem dX7_isWithin_10 : decode cX7_isWithin 10 = .ok (.iconst 1, 1) := by decide +kernel
theorem dX7_isWithin_11 : decode cX7_isWithin 11 = .ok (.goto 4, 3) := by decide +kernel
theorem dX7_isWithin_14 : decode cX7_isWithin 14 = .ok (.iconst 0, 1) := by decide +kernel
theorem dX7_isWithin_15 : decode cX7_isWithin 15 = .ok (.ireturn, 1) := by decide +kernel
theorem dX7_isCell_0 : decode cX7_isCell 0 = .ok (.iload_n 0, 1) := by decide +kernel
theorem dX7_isCell_1 : decode cX7_isCell 1 = .ok (.ifCond .lt 23, 3) := by decide +kernel
theorem dX7_isCell_4 : decode cX7_isCell 4 = .ok (.iload_n 0, 1) := by decide +kernel
theorem dX7_isCell_5 : decode cX7_isCell 5 = .ok (.bipush 12, 2) := by decide +kernel
theorem dX7_isCell_7 : decode cX7_isCell 7 = .ok (.if_icmp .ge 17, 3) := by decide +kernel
theorem dX7_isCell_10 : decode cX7_isCell 10 = .ok (.iload_n 1, 1) := by decide +kernel
theorem dX7_isCell_11 : decode cX7_isCell 11 = .ok (.ifCond .lt 13, 3) := by decide +kernel
theorem dX7_isCell_14 : decode cX7_isCell 14 = .ok (.iload_n 1, 1) := by decide +kernel
theorem dX7_isCell_15 : decode cX7_isCell 15 = .ok (.bipush 8, 2) := by decide +kernel
theorem dX7_isCell_17 : decode cX7_isCell 17 = .ok (.if_icmp .ge 7, 3) := by decide +kernel
theorem dX7_isCell_20 : decode cX7_isCell 20 = .ok (.iconst 1, 1) := by decide +kernel
theorem dX7_isCell_21 : decode cX7_isCell 21 = .ok (.goto 4, 3) := by decide +kernel
theorem dX7_isCell_24 : decode cX7_isCell 24 = .ok (.iconst 0, 1) := by decide +kernel
theorem dX7_isCell_25 : decode cX7_isCell 25 = .ok (.ireturn, 1) := by decide +kernel
set_option maxRecDepth 20000 in
theorem ggX7_isFloor_X7_isWithin : GoodIn wsX7_isFloor wsX7_isWithin := goodIn_r _ [4] (by decide +kernel) (by decide +kernel)
set_option maxRecDepth 20000 in
theorem gX7_isFloor_X7_isWithin : GoodIn wsX7_isFloor (va_wsS RX7 61 yX7_isWithin wsX7_isWithin) := goodIn_app (goodIn_of _ (by decide +kernel)) ggX7_isFloor_X7_isWithin
theorem dX7_isFloor_0 : decode cX7_isFloor 0 = .ok (.iload_n 0, 1) := by decide +kernel
theorem dX7_isFloor_1 : decode cX7_isFloor 1 = .ok (.iconst 0, 1) := by decide +kernel
theorem dX7_isFloor_2 : decode cX7_isFloor 2 = .ok (.bipush 9, 2) := by decide +kernel
theorem dX7_isFloor_4 : decode cX7_isFloor 4 = .ok (.invokestatic 61, 3) := by decide +kernel
theorem dX7_isFloor_7 : decode cX7_isFloor 7 = .ok (.ireturn, 1) := by decide +kernel
theorem dX7_cellAt_0 : decode cX7_cellAt 0 = .ok (.iload_n 1, 1) := by decide +kernel
theorem dX7_cellAt_1 : decode cX7_cellAt 1 = .ok (.bipush 12, 2) := by decide +kernel
theorem dX7_cellAt_3 : decode cX7_cellAt 3 = .ok (.imul, 1) := by decide +kernel
theorem dX7_cellAt_4 : decode cX7_cellAt 4 = .ok (.iload_n 0, 1) := by decide +kernel
theorem dX7_cellAt_5 : decode cX7_cellAt 5 = .ok (.iadd, 1) := by decide +kernel
theorem dX7_cellAt_6 : decode cX7_cellAt 6 = .ok (.ireturn, 1) := by decide +kernel
theorem dX7_timesIn_0 : decode cX7_timesIn 0 = .ok (.iload_n 0, 1) := by decide +kernel
theorem dX7_timesIn_1 : decode cX7_timesIn 1 = .ok (.iconst 1, 1) := by decide +kernel
theorem dX7_timesIn_2 : decode cX7_timesIn 2 = .ok (.if_icmp .ge 7, 3) := by decide +kernel
theorem dX7_timesIn_5 : decode cX7_timesIn 5 = .ok (.iconst 0, 1) := by decide +kernel
theorem dX7_timesIn_6 : decode cX7_timesIn 6 = .ok (.goto 6, 3) := by decide +kernel
theorem dX7_timesIn_9 : decode cX7_timesIn 9 = .ok (.iload_n 1, 1) := by decide +kernel
theorem dX7_timesIn_10 : decode cX7_timesIn 10 = .ok (.iload_n 0, 1) := by decide +kernel
theorem dX7_timesIn_11 : decode cX7_timesIn 11 = .ok (.idiv, 1) := by decide +kernel
theorem dX7_timesIn_12 : decode cX7_timesIn 12 = .ok (.ireturn, 1) := by decide +kernel
set_option maxRecDepth 20000 in
theorem ggX8_init_X8_unlay : GoodIn wsX8_init wsX8_unlay := goodIn_r _ [29, 23, 67, 68, 69, 70, 71, 72, 73, 74, 75, 76, 77, 78, 79, 80, 81, 82, 83, 84, 85, 86, 87, 88, 89, 90, 91, 92, 93, 94, 95, 96, 97] (by decide +kernel) (by decide +kernel)
set_option maxRecDepth 20000 in
theorem gX8_init_X8_unlay : GoodIn wsX8_init (wsV RX8 71 RX8 yX8_unlay wsX8_unlay) := goodIn_app (goodIn_of _ (by decide +kernel)) ggX8_init_X8_unlay
set_option maxRecDepth 20000 in
theorem ggX8_init_X8_plans : GoodIn wsX8_init wsX8_plans := goodIn_r _ [33, 34, 17, 10, 11, 13, 14, 15, 16, 9, 4, 5, 35, 36, 37, 28, 38, 7, 8, 39, 40, 41, 42, 43, 44, 45, 46, 47, 48, 49, 50, 51, 52, 53, 54, 55, 56, 57, 58, 12, 20, 18, 19, 59, 60, 61, 62, 63, 64, 65, 66, 67, 68, 69, 70, 71, 72, 73, 74, 75, 76, 77, 78, 79, 80, 81, 82, 83, 84, 85, 86, 87, 88, 89, 90, 91, 92, 93, 94, 95, 96, 97] (by decide +kernel) (by decide +kernel)
set_option maxRecDepth 20000 in
theorem gX8_init_X8_plans : GoodIn wsX8_init (wsV RX8 74 RX8 yX8_plans wsX8_plans) := goodIn_app (goodIn_of _ (by decide +kernel)) ggX8_init_X8_plans
end
section
theorem dX8_init_0 : decode cX8_init 0 = .ok (.aload_n 0, 1) := by decide +kernel
theorem dX8_init_1 : decode cX8_init 1 = .ok (.invokespecial 1, 3) := by decide +kernel
theorem dX8_init_4 : decode cX8_init 4 = .ok (.aload_n 0, 1) := by decide +kernel
theorem dX8_init_5 : decode cX8_init 5 = .ok (.iconst 2, 1) := by decide +kernel
theorem dX8_init_6 : decode cX8_init 6 = .ok (.putfield 7, 3) := by decide +kernel
theorem dX8_init_9 : decode cX8_init 9 = .ok (.aload_n 0, 1) := by decide +kernel
theorem dX8_init_10 : decode cX8_init 10 = .ok (.iconst 2, 1) := by decide +kernel
theorem dX8_init_11 : decode cX8_init 11 = .ok (.putfield 13, 3) := by decide +kernel
theorem dX8_init_14 : decode cX8_init 14 = .ok (.aload_n 0, 1) := by decide +kernel
theorem dX8_init_15 : decode cX8_init 15 = .ok (.bipush 96, 2) := by decide +kernel
theorem dX8_init_17 : decode cX8_init 17 = .ok (.newarray .int, 2) := by decide +kernel
theorem dX8_init_19 : decode cX8_init 19 = .ok (.putfield 16, 3) := by decide +kernel
theorem dX8_init_22 : decode cX8_init 22 = .ok (.aload_n 0, 1) := by decide +kernel
theorem dX8_init_23 : decode cX8_init 23 = .ok (.bipush 12, 2) := by decide +kernel
theorem dX8_init_25 : decode cX8_init 25 = .ok (.newarray .int, 2) := by decide +kernel
theorem dX8_init_27 : decode cX8_init 27 = .ok (.putfield 20, 3) := by decide +kernel
theorem dX8_init_30 : decode cX8_init 30 = .ok (.aload_n 0, 1) := by decide +kernel
theorem dX8_init_31 : decode cX8_init 31 = .ok (.bipush 96, 2) := by decide +kernel
theorem dX8_init_33 : decode cX8_init 33 = .ok (.newarray .int, 2) := by decide +kernel
theorem dX8_init_35 : decode cX8_init 35 = .ok (.putfield 23, 3) := by decide +kernel
theorem dX8_init_38 : decode cX8_init 38 = .ok (.aload_n 0, 1) := by decide +kernel
theorem dX8_init_39 : decode cX8_init 39 = .ok (.bipush 96, 2) := by decide +kernel
theorem dX8_init_41 : decode cX8_init 41 = .ok (.newarray .int, 2) := by decide +kernel
theorem dX8_init_43 : decode cX8_init 43 = .ok (.putfield 26, 3) := by decide +kernel
theorem dX8_init_46 : decode cX8_init 46 = .ok (.aload_n 0, 1) := by decide +kernel
theorem dX8_init_47 : decode cX8_init 47 = .ok (.bipush 96, 2) := by decide +kernel
theorem dX8_init_49 : decode cX8_init 49 = .ok (.newarray .int, 2) := by decide +kernel
theorem dX8_init_51 : decode cX8_init 51 = .ok (.putfield 29, 3) := by decide +kernel
theorem dX8_init_54 : decode cX8_init 54 = .ok (.aload_n 0, 1) := by decide +kernel
theorem dX8_init_55 : decode cX8_init 55 = .ok (.bipush 96, 2) := by decide +kernel
theorem dX8_init_57 : decode cX8_init 57 = .ok (.newarray .int, 2) := by decide +kernel
theorem dX8_init_59 : decode cX8_init 59 = .ok (.putfield 32, 3) := by decide +kernel
theorem dX8_init_62 : decode cX8_init 62 = .ok (.aload_n 0, 1) := by decide +kernel
theorem dX8_init_63 : decode cX8_init 63 = .ok (.bipush 96, 2) := by decide +kernel
theorem dX8_init_65 : decode cX8_init 65 = .ok (.newarray .int, 2) := by decide +kernel
theorem dX8_init_67 : decode cX8_init 67 = .ok (.putfield 35, 3) := by decide +kernel
theorem dX8_init_70 : decode cX8_init 70 = .ok (.aload_n 0, 1) := by decide +kernel
theorem dX8_init_71 : decode cX8_init 71 = .ok (.bipush 96, 2) := by decide +kernel
theorem dX8_init_73 : decode cX8_init 73 = .ok (.newarray .int, 2) := by decide +kernel
theorem dX8_init_75 : decode cX8_init 75 = .ok (.putfield 38, 3) := by decide +kernel
theorem dX8_init_78 : decode cX8_init 78 = .ok (.aload_n 0, 1) := by decide +kernel
theorem dX8_init_79 : decode cX8_init 79 = .ok (.bipush 96, 2) := by decide +kernel
theorem dX8_init_81 : decode cX8_init 81 = .ok (.newarray .int, 2) := by decide +kernel
theorem dX8_init_83 : decode cX8_init 83 = .ok (.putfield 41, 3) := by decide +kernel
theorem dX8_init_86 : decode cX8_init 86 = .ok (.aload_n 0, 1) := by decide +kernel
theorem dX8_init_87 : decode cX8_init 87 = .ok (.bipush 96, 2) := by decide +kernel
theorem dX8_init_89 : decode cX8_init 89 = .ok (.newarray .int, 2) := by decide +kernel
theorem dX8_init_91 : decode cX8_init 91 = .ok (.putfield 44, 3) := by decide +kernel
theorem dX8_init_94 : decode cX8_init 94 = .ok (.aload_n 0, 1) := by decide +kernel
theorem dX8_init_95 : decode cX8_init 95 = .ok (.bipush 96, 2) := by decide +kernel
theorem dX8_init_97 : decode cX8_init 97 = .ok (.newarray .int, 2) := by decide +kernel
theorem dX8_init_99 : decode cX8_init 99 = .ok (.putfield 47, 3) := by decide +kernel
theorem dX8_init_102 : decode cX8_init 102 = .ok (.aload_n 0, 1) := by decide +kernel
theorem dX8_init_103 : decode cX8_init 103 = .ok (.bipush 100, 2) := by decide +kernel
theorem dX8_init_105 : decode cX8_init 105 = .ok (.newarray .int, 2) := by decide +kernel
theorem dX8_init_107 : decode cX8_init 107 = .ok (.putfield 50, 3) := by decide +kernel
theorem dX8_init_110 : decode cX8_init 110 = .ok (.aload_n 0, 1) := by decide +kernel
theorem dX8_init_111 : decode cX8_init 111 = .ok (.bipush 100, 2) := by decide +kernel
theorem dX8_init_113 : decode cX8_init 113 = .ok (.newarray .int, 2) := by decide +kernel
theorem dX8_init_115 : decode cX8_init 115 = .ok (.putfield 53, 3) := by decide +kernel
theorem dX8_init_118 : decode cX8_init 118 = .ok (.aload_n 0, 1) := by decide +kernel
theorem dX8_init_119 : decode cX8_init 119 = .ok (.bipush 100, 2) := by decide +kernel
theorem dX8_init_121 : decode cX8_init 121 = .ok (.newarray .int, 2) := by decide +kernel
theorem dX8_init_123 : decode cX8_init 123 = .ok (.putfield 56, 3) := by decide +kernel
theorem dX8_init_126 : decode cX8_init 126 = .ok (.aload_n 0, 1) := by decide +kernel
theorem dX8_init_127 : decode cX8_init 127 = .ok (.bipush 20, 2) := by decide +kernel
theorem dX8_init_129 : decode cX8_init 129 = .ok (.newarray .int, 2) := by decide +kernel
theorem dX8_init_131 : decode cX8_init 131 = .ok (.putfield 59, 3) := by decide +kernel
theorem dX8_init_134 : decode cX8_init 134 = .ok (.aload_n 0, 1) := by decide +kernel
theorem dX8_init_135 : decode cX8_init 135 = .ok (.bipush 20, 2) := by decide +kernel
theorem dX8_init_137 : decode cX8_init 137 = .ok (.newarray .int, 2) := by decide +kernel
theorem dX8_init_139 : decode cX8_init 139 = .ok (.putfield 62, 3) := by decide +kernel
theorem dX8_init_142 : decode cX8_init 142 = .ok (.aload_n 0, 1) := by decide +kernel
theorem dX8_init_143 : decode cX8_init 143 = .ok (.bipush 8, 2) := by decide +kernel
theorem dX8_init_145 : decode cX8_init 145 = .ok (.newarray .int, 2) := by decide +kernel
theorem dX8_init_147 : decode cX8_init 147 = .ok (.putfield 65, 3) := by decide +kernel
theorem dX8_init_150 : decode cX8_init 150 = .ok (.aload_n 0, 1) := by decide +kernel
theorem dX8_init_151 : decode cX8_init 151 = .ok (.bipush 6, 2) := by decide +kernel
theorem dX8_init_153 : decode cX8_init 153 = .ok (.putfield 68, 3) := by decide +kernel
theorem dX8_init_156 : decode cX8_init 156 = .ok (.aload_n 0, 1) := by decide +kernel
theorem dX8_init_157 : decode cX8_init 157 = .ok (.getfield 20, 3) := by decide +kernel
theorem dX8_init_160 : decode cX8_init 160 = .ok (.iconst 0, 1) := by decide +kernel
theorem dX8_init_161 : decode cX8_init 161 = .ok (.iconst 1, 1) := by decide +kernel
theorem dX8_init_162 : decode cX8_init 162 = .ok (.iastore, 1) := by decide +kernel
theorem dX8_init_163 : decode cX8_init 163 = .ok (.aload_n 0, 1) := by decide +kernel
theorem dX8_init_164 : decode cX8_init 164 = .ok (.getfield 20, 3) := by decide +kernel
theorem dX8_init_167 : decode cX8_init 167 = .ok (.iconst 1, 1) := by decide +kernel
theorem dX8_init_168 : decode cX8_init 168 = .ok (.iconst 1, 1) := by decide +kernel
theorem dX8_init_169 : decode cX8_init 169 = .ok (.iastore, 1) := by decide +kernel
theorem dX8_init_170 : decode cX8_init 170 = .ok (.aload_n 0, 1) := by decide +kernel
theorem dX8_init_171 : decode cX8_init 171 = .ok (.invokevirtual 71, 3) := by decide +kernel
theorem dX8_init_174 : decode cX8_init 174 = .ok (.aload_n 0, 1) := by decide +kernel
theorem dX8_init_175 : decode cX8_init 175 = .ok (.invokevirtual 74, 3) := by decide +kernel
theorem dX8_init_178 : decode cX8_init 178 = .ok (.return_, 1) := by decide +kernel
theorem dX8_thrown_0 : decode cX8_thrown 0 = .ok (.aload_n 0, 1) := by decide +kernel
theorem dX8_thrown_1 : decode cX8_thrown 1 = .ok (.getfield 77, 3) := by decide +kernel
theorem dX8_thrown_4 : decode cX8_thrown 4 = .ok (.ireturn, 1) := by decide +kernel
theorem dX8_holds_0 : decode cX8_holds 0 = .ok (.aload_n 0, 1) := by decide +kernel
theorem dX8_holds_1 : decode cX8_holds 1 = .ok (.iload_n 1, 1) := by decide +kernel
theorem dX8_holds_2 : decode cX8_holds 2 = .ok (.putfield 77, 3) := by decide +kernel
theorem dX8_holds_5 : decode cX8_holds 5 = .ok (.iload_n 1, 1) := by decide +kernel
theorem dX8_holds_6 : decode cX8_holds 6 = .ok (.ifCond .le 7, 3) := by decide +kernel
theorem dX8_holds_9 : decode cX8_holds 9 = .ok (.iconst 1, 1) := by decide +kernel
theorem dX8_holds_10 : decode cX8_holds 10 = .ok (.goto 4, 3) := by decide +kernel
theorem dX8_holds_13 : decode cX8_holds 13 = .ok (.iconst 0, 1) := by decide +kernel
theorem dX8_holds_14 : decode cX8_holds 14 = .ok (.ireturn, 1) := by decide +kernel
theorem dX8_in_0 : decode cX8_in 0 = .ok (.iload_n 1, 1) := by decide +kernel
theorem dX8_in_1 : decode cX8_in 1 = .ok (.iload_n 2, 1) := by decide +kernel
theorem dX8_in_2 : decode cX8_in 2 = .ok (.if_icmp .lt 12, 3) := by decide +kernel
theorem dX8_in_5 : decode cX8_in 5 = .ok (.iload_n 1, 1) := by decide +kernel
theorem dX8_in_6 : decode cX8_in 6 = .ok (.iload_n 3, 1) := by decide +kernel
theorem dX8_in_7 : decode cX8_in 7 = .ok (.if_icmp .gt 7, 3) := by decide +kernel
theorem dX8_in_10 : decode cX8_in 10 = .ok (.iconst 1, 1) := by decide +kernel
theorem dX8_in_11 : decode cX8_in 11 = .ok (.goto 4, 3) := by decide +kernel
theorem dX8_in_14 : decode cX8_in 14 = .ok (.iconst 0, 1) := by decide +kernel
theorem dX8_in_15 : decode cX8_in 15 = .ok (.ireturn, 1) := by decide +kernel
theorem dX8_unlay_0 : decode cX8_unlay 0 = .ok (.iconst 0, 1) := by decide +kernel
theorem dX8_unlay_1 : decode cX8_unlay 1 = .ok (.istore_n 1, 1) := by decide +kernel
theorem dX8_unlay_2 : decode cX8_unlay 2 = .ok (.iload_n 1, 1) := by decide +kernel
theorem dX8_unlay_3 : decode cX8_unlay 3 = .ok (.bipush 8, 2) := by decide +kernel
theorem dX8_unlay_5 : decode cX8_unlay 5 = .ok (.if_icmp .ge 16, 3) := by decide +kernel
theorem dX8_unlay_8 : decode cX8_unlay 8 = .ok (.aload_n 0, 1) := by decide +kernel
theorem dX8_unlay_9 : decode cX8_unlay 9 = .ok (.getfield 65, 3) := by decide +kernel
theorem dX8_unlay_12 : decode cX8_unlay 12 = .ok (.iload_n 1, 1) := by decide +kernel
theorem dX8_unlay_13 : decode cX8_unlay 13 = .ok (.iconst (-1), 1) := by decide +kernel
theorem dX8_unlay_14 : decode cX8_unlay 14 = .ok (.iastore, 1) := by decide +kernel
theorem dX8_unlay_15 : decode cX8_unlay 15 = .ok (.iinc 1 1, 3) := by decide +kernel
theorem dX8_unlay_18 : decode cX8_unlay 18 = .ok (.goto (-16), 3) := by decide +kernel
theorem dX8_unlay_21 : decode cX8_unlay 21 = .ok (.return_, 1) := by decide +kernel
theorem dX8_isBarred_0 : decode cX8_isBarred 0 = .ok (.aload_n 0, 1) := by decide +kernel
theorem dX8_isBarred_1 : decode cX8_isBarred 1 = .ok (.getfield 16, 3) := by decide +kernel
theorem dX8_isBarred_4 : decode cX8_isBarred 4 = .ok (.iload_n 1, 1) := by decide +kernel
theorem dX8_isBarred_5 : decode cX8_isBarred 5 = .ok (.iaload, 1) := by decide +kernel
theorem dX8_isBarred_6 : decode cX8_isBarred 6 = .ok (.iconst 1, 1) := by decide +kernel
theorem dX8_isBarred_7 : decode cX8_isBarred 7 = .ok (.if_icmp .eq 19, 3) := by decide +kernel
theorem dX8_isBarred_10 : decode cX8_isBarred 10 = .ok (.iload_n 1, 1) := by decide +kernel
theorem dX8_isBarred_11 : decode cX8_isBarred 11 = .ok (.bipush 12, 2) := by decide +kernel
theorem dX8_isBarred_13 : decode cX8_isBarred 13 = .ok (.if_icmp .ge 17, 3) := by decide +kernel
theorem dX8_isBarred_16 : decode cX8_isBarred 16 = .ok (.aload_n 0, 1) := by decide +kernel
theorem dX8_isBarred_17 : decode cX8_isBarred 17 = .ok (.getfield 20, 3) := by decide +kernel
theorem dX8_isBarred_20 : decode cX8_isBarred 20 = .ok (.iload_n 1, 1) := by decide +kernel
theorem dX8_isBarred_21 : decode cX8_isBarred 21 = .ok (.iaload, 1) := by decide +kernel
theorem dX8_isBarred_22 : decode cX8_isBarred 22 = .ok (.iconst 1, 1) := by decide +kernel
theorem dX8_isBarred_23 : decode cX8_isBarred 23 = .ok (.if_icmp .ne 7, 3) := by decide +kernel
theorem dX8_isBarred_26 : decode cX8_isBarred 26 = .ok (.iconst 1, 1) := by decide +kernel
theorem dX8_isBarred_27 : decode cX8_isBarred 27 = .ok (.goto 4, 3) := by decide +kernel
theorem dX8_isBarred_30 : decode cX8_isBarred 30 = .ok (.iconst 0, 1) := by decide +kernel
theorem dX8_isBarred_31 : decode cX8_isBarred 31 = .ok (.ireturn, 1) := by decide +kernel
theorem dX8_isEdge_0 : decode cX8_isEdge 0 = .ok (.iload_n 1, 1) := by decide +kernel
theorem dX8_isEdge_1 : decode cX8_isEdge 1 = .ok (.bipush 12, 2) := by decide +kernel
theorem dX8_isEdge_3 : decode cX8_isEdge 3 = .ok (.irem, 1) := by decide +kernel
theorem dX8_isEdge_4 : decode cX8_isEdge 4 = .ok (.istore_n 2, 1) := by decide +kernel
theorem dX8_isEdge_5 : decode cX8_isEdge 5 = .ok (.iload_n 1, 1) := by decide +kernel
theorem dX8_isEdge_6 : decode cX8_isEdge 6 = .ok (.bipush 12, 2) := by decide +kernel
theorem dX8_isEdge_8 : decode cX8_isEdge 8 = .ok (.idiv, 1) := by decide +kernel
theorem dX8_isEdge_9 : decode cX8_isEdge 9 = .ok (.istore_n 3, 1) := by decide +kernel
theorem dX8_isEdge_10 : decode cX8_isEdge 10 = .ok (.iload_n 2, 1) := by decide +kernel
theorem dX8_isEdge_11 : decode cX8_isEdge 11 = .ok (.aload_n 0, 1) := by decide +kernel
theorem dX8_isEdge_12 : decode cX8_isEdge 12 = .ok (.getfield 80, 3) := by decide +kernel
theorem dX8_isEdge_15 : decode cX8_isEdge 15 = .ok (.if_icmp .lt 33, 3) := by decide +kernel
theorem dX8_isEdge_18 : decode cX8_isEdge 18 = .ok (.iload_n 2, 1) := by decide +kernel
theorem dX8_isEdge_19 : decode cX8_isEdge 19 = .ok (.bipush 12, 2) := by decide +kernel
theorem dX8_isEdge_21 : decode cX8_isEdge 21 = .ok (.aload_n 0, 1) := by decide +kernel
theorem dX8_isEdge_22 : decode cX8_isEdge 22 = .ok (.getfield 80, 3) := by decide +kernel
theorem dX8_isEdge_25 : decode cX8_isEdge 25 = .ok (.isub, 1) := by decide +kernel
theorem dX8_isEdge_26 : decode cX8_isEdge 26 = .ok (.if_icmp .ge 22, 3) := by decide +kernel
theorem dX8_isEdge_29 : decode cX8_isEdge 29 = .ok (.iload_n 3, 1) := by decide +kernel
theorem dX8_isEdge_30 : decode cX8_isEdge 30 = .ok (.aload_n 0, 1) := by decide +kernel
theorem dX8_isEdge_31 : decode cX8_isEdge 31 = .ok (.getfield 80, 3) := by decide +kernel
theorem dX8_isEdge_34 : decode cX8_isEdge 34 = .ok (.if_icmp .lt 14, 3) := by decide +kernel
theorem dX8_isEdge_37 : decode cX8_isEdge 37 = .ok (.iload_n 3, 1) := by decide +kernel
theorem dX8_isEdge_38 : decode cX8_isEdge 38 = .ok (.bipush 8, 2) := by decide +kernel
theorem dX8_isEdge_40 : decode cX8_isEdge 40 = .ok (.aload_n 0, 1) := by decide +kernel
theorem dX8_isEdge_41 : decode cX8_isEdge 41 = .ok (.getfield 80, 3) := by decide +kernel
theorem dX8_isEdge_44 : decode cX8_isEdge 44 = .ok (.isub, 1) := by decide +kernel
theorem dX8_isEdge_45 : decode cX8_isEdge 45 = .ok (.if_icmp .lt 7, 3) := by decide +kernel
theorem dX8_isEdge_48 : decode cX8_isEdge 48 = .ok (.iconst 1, 1) := by decide +kernel
theorem dX8_isEdge_49 : decode cX8_isEdge 49 = .ok (.goto 4, 3) := by decide +kernel
theorem dX8_isEdge_52 : decode cX8_isEdge 52 = .ok (.iconst 0, 1) := by decide +kernel
theorem dX8_isEdge_53 : decode cX8_isEdge 53 = .ok (.ireturn, 1) := by decide +kernel
theorem dX8_tileOf_0 : decode cX8_tileOf 0 = .ok (.iload_n 1, 1) := by decide +kernel
theorem dX8_tileOf_1 : decode cX8_tileOf 1 = .ok (.bipush 12, 2) := by decide +kernel
theorem dX8_tileOf_3 : decode cX8_tileOf 3 = .ok (.idiv, 1) := by decide +kernel
theorem dX8_tileOf_4 : decode cX8_tileOf 4 = .ok (.aload_n 0, 1) := by decide +kernel
theorem dX8_tileOf_5 : decode cX8_tileOf 5 = .ok (.getfield 80, 3) := by decide +kernel
theorem dX8_tileOf_8 : decode cX8_tileOf 8 = .ok (.isub, 1) := by decide +kernel
theorem dX8_tileOf_9 : decode cX8_tileOf 9 = .ok (.aload_n 0, 1) := by decide +kernel
theorem dX8_tileOf_10 : decode cX8_tileOf 10 = .ok (.getfield 13, 3) := by decide +kernel
theorem dX8_tileOf_13 : decode cX8_tileOf 13 = .ok (.idiv, 1) := by decide +kernel
theorem dX8_tileOf_14 : decode cX8_tileOf 14 = .ok (.istore_n 2, 1) := by decide +kernel
theorem dX8_tileOf_15 : decode cX8_tileOf 15 = .ok (.aload_n 0, 1) := by decide +kernel
theorem dX8_tileOf_16 : decode cX8_tileOf 16 = .ok (.getfield 83, 3) := by decide +kernel
theorem dX8_tileOf_19 : decode cX8_tileOf 19 = .ok (.iconst 1, 1) := by decide +kernel
theorem dX8_tileOf_20 : decode cX8_tileOf 20 = .ok (.if_icmp .ne 19, 3) := by decide +kernel
theorem dX8_tileOf_23 : decode cX8_tileOf 23 = .ok (.iload_n 2, 1) := by decide +kernel
theorem dX8_tileOf_24 : decode cX8_tileOf 24 = .ok (.iconst 2, 1) := by decide +kernel
theorem dX8_tileOf_25 : decode cX8_tileOf 25 = .ok (.irem, 1) := by decide +kernel
theorem dX8_tileOf_26 : decode cX8_tileOf 26 = .ok (.iconst 1, 1) := by decide +kernel
theorem dX8_tileOf_27 : decode cX8_tileOf 27 = .ok (.if_icmp .ne 12, 3) := by decide +kernel
theorem dX8_tileOf_30 : decode cX8_tileOf 30 = .ok (.aload_n 0, 1) := by decide +kernel
theorem dX8_tileOf_31 : decode cX8_tileOf 31 = .ok (.getfield 7, 3) := by decide +kernel
theorem dX8_tileOf_34 : decode cX8_tileOf 34 = .ok (.iconst 2, 1) := by decide +kernel
theorem dX8_tileOf_35 : decode cX8_tileOf 35 = .ok (.idiv, 1) := by decide +kernel
theorem dX8_tileOf_36 : decode cX8_tileOf 36 = .ok (.goto 4, 3) := by decide +kernel
theorem dX8_tileOf_39 : decode cX8_tileOf 39 = .ok (.iconst 0, 1) := by decide +kernel
theorem dX8_tileOf_40 : decode cX8_tileOf 40 = .ok (.istore_n 3, 1) := by decide +kernel
theorem dX8_tileOf_41 : decode cX8_tileOf 41 = .ok (.bipush 100, 2) := by decide +kernel
theorem dX8_tileOf_43 : decode cX8_tileOf 43 = .ok (.iload_n 2, 1) := by decide +kernel
theorem dX8_tileOf_44 : decode cX8_tileOf 44 = .ok (.imul, 1) := by decide +kernel
theorem dX8_tileOf_45 : decode cX8_tileOf 45 = .ok (.iload_n 1, 1) := by decide +kernel
theorem dX8_tileOf_46 : decode cX8_tileOf 46 = .ok (.bipush 12, 2) := by decide +kernel
theorem dX8_tileOf_48 : decode cX8_tileOf 48 = .ok (.irem, 1) := by decide +kernel
theorem dX8_tileOf_49 : decode cX8_tileOf 49 = .ok (.aload_n 0, 1) := by decide +kernel
theorem dX8_tileOf_50 : decode cX8_tileOf 50 = .ok (.getfield 80, 3) := by decide +kernel
theorem dX8_tileOf_53 : decode cX8_tileOf 53 = .ok (.isub, 1) := by decide +kernel
theorem dX8_tileOf_54 : decode cX8_tileOf 54 = .ok (.iload_n 3, 1) := by decide +kernel
theorem dX8_tileOf_55 : decode cX8_tileOf 55 = .ok (.iadd, 1) := by decide +kernel
theorem dX8_tileOf_56 : decode cX8_tileOf 56 = .ok (.aload_n 0, 1) := by decide +kernel
theorem dX8_tileOf_57 : decode cX8_tileOf 57 = .ok (.getfield 7, 3) := by decide +kernel
theorem dX8_tileOf_60 : decode cX8_tileOf 60 = .ok (.idiv, 1) := by decide +kernel
theorem dX8_tileOf_61 : decode cX8_tileOf 61 = .ok (.iadd, 1) := by decide +kernel
theorem dX8_tileOf_62 : decode cX8_tileOf 62 = .ok (.ireturn, 1) := by decide +kernel
set_option maxRecDepth 20000 in
theorem ggX8_isSame_X8_isEdge : GoodIn wsX8_isSame wsX8_isEdge := goodIn_r _ [5, 6, 14, 15, 16, 17, 18, 19, 20, 21, 22, 23, 24, 25, 26, 27, 28, 29, 30, 31, 32, 33, 34, 35, 36, 37, 38, 39, 40, 41, 42, 43, 44] (by decide +kernel) (by decide +kernel)
set_option maxRecDepth 20000 in
theorem gX8_isSame_X8_isEdge : GoodIn wsX8_isSame (wsV RX8 86 RX8 yX8_isEdge wsX8_isEdge) := goodIn_app (goodIn_of _ (by decide +kernel)) ggX8_isSame_X8_isEdge
set_option maxRecDepth 20000 in
theorem ggX8_isSame_X8_tileOf : GoodIn wsX8_isSame wsX8_tileOf := goodIn_r _ [10, 6, 11, 12, 13, 14, 15, 16, 17, 18, 19, 20, 21, 22, 23, 24, 25, 26, 27, 28, 29, 30, 31, 32, 33, 34, 35, 36, 37, 38, 39, 40, 41, 42, 43, 44] (by decide +kernel) (by decide +kernel)
set_option maxRecDepth 20000 in
theorem gX8_isSame_X8_tileOf : GoodIn wsX8_isSame (wsV RX8 90 RX8 yX8_tileOf wsX8_tileOf) := goodIn_app (goodIn_of _ (by decide +kernel)) ggX8_isSame_X8_tileOf
theorem dX8_isSame_0 : decode cX8_isSame 0 = .ok (.iload_n 1, 1) := by decide +kernel
theorem dX8_isSame_1 : decode cX8_isSame 1 = .ok (.iload_n 2, 1) := by decide +kernel
theorem dX8_isSame_2 : decode cX8_isSame 2 = .ok (.if_icmp .eq 32, 3) := by decide +kernel
theorem dX8_isSame_5 : decode cX8_isSame 5 = .ok (.aload_n 0, 1) := by decide +kernel
theorem dX8_isSame_6 : decode cX8_isSame 6 = .ok (.iload_n 1, 1) := by decide +kernel
theorem dX8_isSame_7 : decode cX8_isSame 7 = .ok (.invokevirtual 86, 3) := by decide +kernel
theorem dX8_isSame_10 : decode cX8_isSame 10 = .ok (.ifCond .ne 28, 3) := by decide +kernel
theorem dX8_isSame_13 : decode cX8_isSame 13 = .ok (.aload_n 0, 1) := by decide +kernel
theorem dX8_isSame_14 : decode cX8_isSame 14 = .ok (.iload_n 2, 1) := by decide +kernel
theorem dX8_isSame_15 : decode cX8_isSame 15 = .ok (.invokevirtual 86, 3) := by decide +kernel
theorem dX8_isSame_18 : decode cX8_isSame 18 = .ok (.ifCond .ne 20, 3) := by decide +kernel
theorem dX8_isSame_21 : decode cX8_isSame 21 = .ok (.aload_n 0, 1) := by decide +kernel
theorem dX8_isSame_22 : decode cX8_isSame 22 = .ok (.iload_n 1, 1) := by decide +kernel
theorem dX8_isSame_23 : decode cX8_isSame 23 = .ok (.invokevirtual 90, 3) := by decide +kernel
theorem dX8_isSame_26 : decode cX8_isSame 26 = .ok (.aload_n 0, 1) := by decide +kernel
theorem dX8_isSame_27 : decode cX8_isSame 27 = .ok (.iload_n 2, 1) := by decide +kernel
theorem dX8_isSame_28 : decode cX8_isSame 28 = .ok (.invokevirtual 90, 3) := by decide +kernel
theorem dX8_isSame_31 : decode cX8_isSame 31 = .ok (.if_icmp .ne 7, 3) := by decide +kernel
theorem dX8_isSame_34 : decode cX8_isSame 34 = .ok (.iconst 1, 1) := by decide +kernel
theorem dX8_isSame_35 : decode cX8_isSame 35 = .ok (.goto 4, 3) := by decide +kernel
theorem dX8_isSame_38 : decode cX8_isSame 38 = .ok (.iconst 0, 1) := by decide +kernel
theorem dX8_isSame_39 : decode cX8_isSame 39 = .ok (.ireturn, 1) := by decide +kernel
set_option maxRecDepth 20000 in
theorem ggX8_plans_X8_isBarred : GoodIn wsX8_plans wsX8_isBarred := goodIn_r _ [16, 17, 18, 51, 52, 53, 54, 55, 56, 57, 58, 59, 60, 61, 62, 63, 64, 65, 66, 67, 68, 69, 70, 71, 72, 73, 74, 75, 76, 77, 78, 79, 80, 81] (by decide +kernel) (by decide +kernel)
set_option maxRecDepth 20000 in
theorem gX8_plans_X8_isBarred : GoodIn wsX8_plans (wsV RX8 97 RX8 yX8_isBarred wsX8_isBarred) := goodIn_app (goodIn_of _ (by decide +kernel)) ggX8_plans_X8_isBarred
set_option maxRecDepth 20000 in
theorem ggX8_plans_X8_isSame : GoodIn wsX8_plans wsX8_isSame := goodIn_r _ [22, 23, 24, 25, 15, 26, 27, 28, 29, 30, 31, 11, 32, 10, 51, 52, 53, 54, 55, 56, 57, 58, 59, 60, 61, 62, 63, 64, 65, 66, 67, 68, 69, 70, 71, 72, 73, 74, 75, 76, 77, 78, 79, 80, 81] (by decide +kernel) (by decide +kernel)
set_option maxRecDepth 20000 in
theorem gX8_plans_X8_isSame : GoodIn wsX8_plans (wsV RX8 100 RX8 yX8_isSame wsX8_isSame) := goodIn_app (goodIn_of _ (by decide +kernel)) ggX8_plans_X8_isSame
set_option maxRecDepth 20000 in
theorem ggX8_plans_X8_isEdge : GoodIn wsX8_plans wsX8_isEdge := goodIn_r _ [26, 27, 51, 52, 53, 54, 55, 56, 57, 58, 59, 60, 61, 62, 63, 64, 65, 66, 67, 68, 69, 70, 71, 72, 73, 74, 75, 76, 77, 78, 79, 80, 81] (by decide +kernel) (by decide +kernel)
set_option maxRecDepth 20000 in
theorem gX8_plans_X8_isEdge : GoodIn wsX8_plans (wsV RX8 86 RX8 yX8_isEdge wsX8_isEdge) := goodIn_app (goodIn_of _ (by decide +kernel)) ggX8_plans_X8_isEdge
set_option maxRecDepth 20000 in
theorem ggX8_plans_X8_cuts : GoodIn wsX8_plans wsX8_cuts := goodIn_r _ [36, 37, 38, 1, 39, 9, 6, 5, 8, 7, 10, 11, 40, 41, 42, 43, 44, 45, 15, 46, 47, 48, 49, 50, 51, 52, 53, 54, 55, 56, 57, 58, 59, 60, 61, 62, 63, 64, 65, 66, 67, 68, 69, 70, 71, 72, 73, 74, 75, 76, 77, 78, 79, 80, 81] (by decide +kernel) (by decide +kernel)
set_option maxRecDepth 20000 in
theorem gX8_plans_X8_cuts : GoodIn wsX8_plans (wsV RX8 104 RX8 yX8_cuts wsX8_cuts) := goodIn_app (goodIn_of _ (by decide +kernel)) ggX8_plans_X8_cuts
theorem dX8_plans_0 : decode cX8_plans 0 = .ok (.aload_n 0, 1) := by decide +kernel
theorem dX8_plans_1 : decode cX8_plans 1 = .ok (.iconst 0, 1) := by decide +kernel
theorem dX8_plans_2 : decode cX8_plans 2 = .ok (.putfield 94, 3) := by decide +kernel
theorem dX8_plans_5 : decode cX8_plans 5 = .ok (.iconst 0, 1) := by decide +kernel
theorem dX8_plans_6 : decode cX8_plans 6 = .ok (.istore_n 1, 1) := by decide +kernel
theorem dX8_plans_7 : decode cX8_plans 7 = .ok (.iload_n 1, 1) := by decide +kernel
theorem dX8_plans_8 : decode cX8_plans 8 = .ok (.bipush 96, 2) := by decide +kernel
theorem dX8_plans_10 : decode cX8_plans 10 = .ok (.if_icmp .ge 16, 3) := by decide +kernel
theorem dX8_plans_13 : decode cX8_plans 13 = .ok (.aload_n 0, 1) := by decide +kernel
theorem dX8_plans_14 : decode cX8_plans 14 = .ok (.getfield 47, 3) := by decide +kernel
theorem dX8_plans_17 : decode cX8_plans 17 = .ok (.iload_n 1, 1) := by decide +kernel
theorem dX8_plans_18 : decode cX8_plans 18 = .ok (.iconst (-1), 1) := by decide +kernel
theorem dX8_plans_19 : decode cX8_plans 19 = .ok (.iastore, 1) := by decide +kernel
theorem dX8_plans_20 : decode cX8_plans 20 = .ok (.iinc 1 1, 3) := by decide +kernel
theorem dX8_plans_23 : decode cX8_plans 23 = .ok (.goto (-16), 3) := by decide +kernel
theorem dX8_plans_26 : decode cX8_plans 26 = .ok (.iconst 0, 1) := by decide +kernel
theorem dX8_plans_27 : decode cX8_plans 27 = .ok (.istore_n 1, 1) := by decide +kernel
theorem dX8_plans_28 : decode cX8_plans 28 = .ok (.iload_n 1, 1) := by decide +kernel
theorem dX8_plans_29 : decode cX8_plans 29 = .ok (.bipush 96, 2) := by decide +kernel
theorem dX8_plans_31 : decode cX8_plans 31 = .ok (.if_icmp .ge 250, 3) := by decide +kernel
theorem dX8_plans_34 : decode cX8_plans 34 = .ok (.aload_n 0, 1) := by decide +kernel
theorem dX8_plans_35 : decode cX8_plans 35 = .ok (.iload_n 1, 1) := by decide +kernel
theorem dX8_plans_36 : decode cX8_plans 36 = .ok (.invokevirtual 97, 3) := by decide +kernel
theorem dX8_plans_39 : decode cX8_plans 39 = .ok (.ifCond .ne 236, 3) := by decide +kernel
theorem dX8_plans_42 : decode cX8_plans 42 = .ok (.aload_n 0, 1) := by decide +kernel
theorem dX8_plans_43 : decode cX8_plans 43 = .ok (.getfield 47, 3) := by decide +kernel
theorem dX8_plans_46 : decode cX8_plans 46 = .ok (.iload_n 1, 1) := by decide +kernel
theorem dX8_plans_47 : decode cX8_plans 47 = .ok (.iaload, 1) := by decide +kernel
theorem dX8_plans_48 : decode cX8_plans 48 = .ok (.ifCond .ge 227, 3) := by decide +kernel
theorem dX8_plans_51 : decode cX8_plans 51 = .ok (.aload_n 0, 1) := by decide +kernel
theorem dX8_plans_52 : decode cX8_plans 52 = .ok (.getfield 94, 3) := by decide +kernel
theorem dX8_plans_55 : decode cX8_plans 55 = .ok (.istore_n 2, 1) := by decide +kernel
theorem dX8_plans_56 : decode cX8_plans 56 = .ok (.aload_n 0, 1) := by decide +kernel
theorem dX8_plans_57 : decode cX8_plans 57 = .ok (.dup, 1) := by decide +kernel
theorem dX8_plans_58 : decode cX8_plans 58 = .ok (.getfield 94, 3) := by decide +kernel
theorem dX8_plans_61 : decode cX8_plans 61 = .ok (.iconst 1, 1) := by decide +kernel
theorem dX8_plans_62 : decode cX8_plans 62 = .ok (.iadd, 1) := by decide +kernel
theorem dX8_plans_63 : decode cX8_plans 63 = .ok (.putfield 94, 3) := by decide +kernel
theorem dX8_plans_66 : decode cX8_plans 66 = .ok (.aload_n 0, 1) := by decide +kernel
theorem dX8_plans_67 : decode cX8_plans 67 = .ok (.getfield 26, 3) := by decide +kernel
theorem dX8_plans_70 : decode cX8_plans 70 = .ok (.iload_n 2, 1) := by decide +kernel
theorem dX8_plans_71 : decode cX8_plans 71 = .ok (.iload_n 1, 1) := by decide +kernel
theorem dX8_plans_72 : decode cX8_plans 72 = .ok (.iastore, 1) := by decide +kernel
theorem dX8_plans_73 : decode cX8_plans 73 = .ok (.aload_n 0, 1) := by decide +kernel
theorem dX8_plans_74 : decode cX8_plans 74 = .ok (.getfield 29, 3) := by decide +kernel
theorem dX8_plans_77 : decode cX8_plans 77 = .ok (.iload_n 2, 1) := by decide +kernel
theorem dX8_plans_78 : decode cX8_plans 78 = .ok (.iconst 0, 1) := by decide +kernel
theorem dX8_plans_79 : decode cX8_plans 79 = .ok (.iastore, 1) := by decide +kernel
theorem dX8_plans_80 : decode cX8_plans 80 = .ok (.aload_n 0, 1) := by decide +kernel
theorem dX8_plans_81 : decode cX8_plans 81 = .ok (.getfield 35, 3) := by decide +kernel
theorem dX8_plans_84 : decode cX8_plans 84 = .ok (.iload_n 2, 1) := by decide +kernel
theorem dX8_plans_85 : decode cX8_plans 85 = .ok (.bipush 12, 2) := by decide +kernel
theorem dX8_plans_87 : decode cX8_plans 87 = .ok (.iastore, 1) := by decide +kernel
theorem dX8_plans_88 : decode cX8_plans 88 = .ok (.aload_n 0, 1) := by decide +kernel
theorem dX8_plans_89 : decode cX8_plans 89 = .ok (.getfield 38, 3) := by decide +kernel
theorem dX8_plans_92 : decode cX8_plans 92 = .ok (.iload_n 2, 1) := by decide +kernel
theorem dX8_plans_93 : decode cX8_plans 93 = .ok (.iconst (-1), 1) := by decide +kernel
theorem dX8_plans_94 : decode cX8_plans 94 = .ok (.iastore, 1) := by decide +kernel
theorem dX8_plans_95 : decode cX8_plans 95 = .ok (.aload_n 0, 1) := by decide +kernel
theorem dX8_plans_96 : decode cX8_plans 96 = .ok (.getfield 41, 3) := by decide +kernel
theorem dX8_plans_99 : decode cX8_plans 99 = .ok (.iload_n 2, 1) := by decide +kernel
theorem dX8_plans_100 : decode cX8_plans 100 = .ok (.iload_n 1, 1) := by decide +kernel
theorem dX8_plans_101 : decode cX8_plans 101 = .ok (.bipush 12, 2) := by decide +kernel
theorem dX8_plans_103 : decode cX8_plans 103 = .ok (.idiv, 1) := by decide +kernel
theorem dX8_plans_104 : decode cX8_plans 104 = .ok (.iastore, 1) := by decide +kernel
theorem dX8_plans_105 : decode cX8_plans 105 = .ok (.aload_n 0, 1) := by decide +kernel
theorem dX8_plans_106 : decode cX8_plans 106 = .ok (.getfield 44, 3) := by decide +kernel
theorem dX8_plans_109 : decode cX8_plans 109 = .ok (.iload_n 2, 1) := by decide +kernel
theorem dX8_plans_110 : decode cX8_plans 110 = .ok (.iconst (-1), 1) := by decide +kernel
theorem dX8_plans_111 : decode cX8_plans 111 = .ok (.iastore, 1) := by decide +kernel
theorem dX8_plans_112 : decode cX8_plans 112 = .ok (.iload_n 1, 1) := by decide +kernel
theorem dX8_plans_113 : decode cX8_plans 113 = .ok (.istore_n 3, 1) := by decide +kernel
theorem dX8_plans_114 : decode cX8_plans 114 = .ok (.iload_n 3, 1) := by decide +kernel
theorem dX8_plans_115 : decode cX8_plans 115 = .ok (.bipush 96, 2) := by decide +kernel
theorem dX8_plans_117 : decode cX8_plans 117 = .ok (.if_icmp .ge 117, 3) := by decide +kernel
theorem dX8_plans_120 : decode cX8_plans 120 = .ok (.aload_n 0, 1) := by decide +kernel
theorem dX8_plans_121 : decode cX8_plans 121 = .ok (.iload_n 3, 1) := by decide +kernel
theorem dX8_plans_122 : decode cX8_plans 122 = .ok (.invokevirtual 97, 3) := by decide +kernel
theorem dX8_plans_125 : decode cX8_plans 125 = .ok (.ifCond .ne 103, 3) := by decide +kernel
theorem dX8_plans_128 : decode cX8_plans 128 = .ok (.aload_n 0, 1) := by decide +kernel
theorem dX8_plans_129 : decode cX8_plans 129 = .ok (.iload_n 1, 1) := by decide +kernel
theorem dX8_plans_130 : decode cX8_plans 130 = .ok (.iload_n 3, 1) := by decide +kernel
theorem dX8_plans_131 : decode cX8_plans 131 = .ok (.invokevirtual 100, 3) := by decide +kernel
theorem dX8_plans_134 : decode cX8_plans 134 = .ok (.ifCond .eq 94, 3) := by decide +kernel
theorem dX8_plans_137 : decode cX8_plans 137 = .ok (.aload_n 0, 1) := by decide +kernel
theorem dX8_plans_138 : decode cX8_plans 138 = .ok (.getfield 47, 3) := by decide +kernel
theorem dX8_plans_141 : decode cX8_plans 141 = .ok (.iload_n 3, 1) := by decide +kernel
theorem dX8_plans_142 : decode cX8_plans 142 = .ok (.iload_n 2, 1) := by decide +kernel
theorem dX8_plans_143 : decode cX8_plans 143 = .ok (.iastore, 1) := by decide +kernel
theorem dX8_plans_144 : decode cX8_plans 144 = .ok (.aload_n 0, 1) := by decide +kernel
theorem dX8_plans_145 : decode cX8_plans 145 = .ok (.getfield 29, 3) := by decide +kernel
theorem dX8_plans_148 : decode cX8_plans 148 = .ok (.iload_n 2, 1) := by decide +kernel
theorem dX8_plans_149 : decode cX8_plans 149 = .ok (.dup2, 1) := by decide +kernel
theorem dX8_plans_150 : decode cX8_plans 150 = .ok (.iaload, 1) := by decide +kernel
theorem dX8_plans_151 : decode cX8_plans 151 = .ok (.iconst 1, 1) := by decide +kernel
theorem dX8_plans_152 : decode cX8_plans 152 = .ok (.iadd, 1) := by decide +kernel
theorem dX8_plans_153 : decode cX8_plans 153 = .ok (.iastore, 1) := by decide +kernel
theorem dX8_plans_154 : decode cX8_plans 154 = .ok (.aload_n 0, 1) := by decide +kernel
theorem dX8_plans_155 : decode cX8_plans 155 = .ok (.getfield 35, 3) := by decide +kernel
theorem dX8_plans_158 : decode cX8_plans 158 = .ok (.iload_n 2, 1) := by decide +kernel
theorem dX8_plans_159 : decode cX8_plans 159 = .ok (.iload_n 3, 1) := by decide +kernel
theorem dX8_plans_160 : decode cX8_plans 160 = .ok (.bipush 12, 2) := by decide +kernel
theorem dX8_plans_162 : decode cX8_plans 162 = .ok (.irem, 1) := by decide +kernel
theorem dX8_plans_163 : decode cX8_plans 163 = .ok (.aload_n 0, 1) := by decide +kernel
theorem dX8_plans_164 : decode cX8_plans 164 = .ok (.getfield 35, 3) := by decide +kernel
theorem dX8_plans_167 : decode cX8_plans 167 = .ok (.iload_n 2, 1) := by decide +kernel
theorem dX8_plans_168 : decode cX8_plans 168 = .ok (.iaload, 1) := by decide +kernel
theorem dX8_plans_169 : decode cX8_plans 169 = .ok (.if_icmp .ge 10, 3) := by decide +kernel
theorem dX8_plans_172 : decode cX8_plans 172 = .ok (.iload_n 3, 1) := by decide +kernel
theorem dX8_plans_173 : decode cX8_plans 173 = .ok (.bipush 12, 2) := by decide +kernel
theorem dX8_plans_175 : decode cX8_plans 175 = .ok (.irem, 1) := by decide +kernel
theorem dX8_plans_176 : decode cX8_plans 176 = .ok (.goto 9, 3) := by decide +kernel
theorem dX8_plans_179 : decode cX8_plans 179 = .ok (.aload_n 0, 1) := by decide +kernel
theorem dX8_plans_180 : decode cX8_plans 180 = .ok (.getfield 35, 3) := by decide +kernel
theorem dX8_plans_183 : decode cX8_plans 183 = .ok (.iload_n 2, 1) := by decide +kernel
theorem dX8_plans_184 : decode cX8_plans 184 = .ok (.iaload, 1) := by decide +kernel
theorem dX8_plans_185 : decode cX8_plans 185 = .ok (.iastore, 1) := by decide +kernel
theorem dX8_plans_186 : decode cX8_plans 186 = .ok (.aload_n 0, 1) := by decide +kernel
theorem dX8_plans_187 : decode cX8_plans 187 = .ok (.getfield 38, 3) := by decide +kernel
theorem dX8_plans_190 : decode cX8_plans 190 = .ok (.iload_n 2, 1) := by decide +kernel
theorem dX8_plans_191 : decode cX8_plans 191 = .ok (.iload_n 3, 1) := by decide +kernel
theorem dX8_plans_192 : decode cX8_plans 192 = .ok (.bipush 12, 2) := by decide +kernel
theorem dX8_plans_194 : decode cX8_plans 194 = .ok (.irem, 1) := by decide +kernel
theorem dX8_plans_195 : decode cX8_plans 195 = .ok (.aload_n 0, 1) := by decide +kernel
theorem dX8_plans_196 : decode cX8_plans 196 = .ok (.getfield 38, 3) := by decide +kernel
theorem dX8_plans_199 : decode cX8_plans 199 = .ok (.iload_n 2, 1) := by decide +kernel
theorem dX8_plans_200 : decode cX8_plans 200 = .ok (.iaload, 1) := by decide +kernel
theorem dX8_plans_201 : decode cX8_plans 201 = .ok (.if_icmp .le 10, 3) := by decide +kernel
theorem dX8_plans_204 : decode cX8_plans 204 = .ok (.iload_n 3, 1) := by decide +kernel
theorem dX8_plans_205 : decode cX8_plans 205 = .ok (.bipush 12, 2) := by decide +kernel
theorem dX8_plans_207 : decode cX8_plans 207 = .ok (.irem, 1) := by decide +kernel
theorem dX8_plans_208 : decode cX8_plans 208 = .ok (.goto 9, 3) := by decide +kernel
theorem dX8_plans_211 : decode cX8_plans 211 = .ok (.aload_n 0, 1) := by decide +kernel
theorem dX8_plans_212 : decode cX8_plans 212 = .ok (.getfield 38, 3) := by decide +kernel
theorem dX8_plans_215 : decode cX8_plans 215 = .ok (.iload_n 2, 1) := by decide +kernel
theorem dX8_plans_216 : decode cX8_plans 216 = .ok (.iaload, 1) := by decide +kernel
theorem dX8_plans_217 : decode cX8_plans 217 = .ok (.iastore, 1) := by decide +kernel
theorem dX8_plans_218 : decode cX8_plans 218 = .ok (.aload_n 0, 1) := by decide +kernel
theorem dX8_plans_219 : decode cX8_plans 219 = .ok (.getfield 44, 3) := by decide +kernel
theorem dX8_plans_222 : decode cX8_plans 222 = .ok (.iload_n 2, 1) := by decide +kernel
theorem dX8_plans_223 : decode cX8_plans 223 = .ok (.iload_n 3, 1) := by decide +kernel
theorem dX8_plans_224 : decode cX8_plans 224 = .ok (.bipush 12, 2) := by decide +kernel
theorem dX8_plans_226 : decode cX8_plans 226 = .ok (.idiv, 1) := by decide +kernel
theorem dX8_plans_227 : decode cX8_plans 227 = .ok (.iastore, 1) := by decide +kernel
theorem dX8_plans_228 : decode cX8_plans 228 = .ok (.iinc 3 1, 3) := by decide +kernel
theorem dX8_plans_231 : decode cX8_plans 231 = .ok (.goto (-117), 3) := by decide +kernel
theorem dX8_plans_234 : decode cX8_plans 234 = .ok (.aload_n 0, 1) := by decide +kernel
theorem dX8_plans_235 : decode cX8_plans 235 = .ok (.getfield 23, 3) := by decide +kernel
theorem dX8_plans_238 : decode cX8_plans 238 = .ok (.iload_n 2, 1) := by decide +kernel
theorem dX8_plans_239 : decode cX8_plans 239 = .ok (.aload_n 0, 1) := by decide +kernel
theorem dX8_plans_240 : decode cX8_plans 240 = .ok (.iload_n 1, 1) := by decide +kernel
theorem dX8_plans_241 : decode cX8_plans 241 = .ok (.invokevirtual 86, 3) := by decide +kernel
theorem dX8_plans_244 : decode cX8_plans 244 = .ok (.ifCond .eq 7, 3) := by decide +kernel
theorem dX8_plans_247 : decode cX8_plans 247 = .ok (.iconst 2, 1) := by decide +kernel
theorem dX8_plans_248 : decode cX8_plans 248 = .ok (.goto 26, 3) := by decide +kernel
theorem dX8_plans_251 : decode cX8_plans 251 = .ok (.aload_n 0, 1) := by decide +kernel
theorem dX8_plans_252 : decode cX8_plans 252 = .ok (.getfield 29, 3) := by decide +kernel
theorem dX8_plans_255 : decode cX8_plans 255 = .ok (.iload_n 2, 1) := by decide +kernel
theorem dX8_plans_256 : decode cX8_plans 256 = .ok (.iaload, 1) := by decide +kernel
theorem dX8_plans_257 : decode cX8_plans 257 = .ok (.aload_n 0, 1) := by decide +kernel
theorem dX8_plans_258 : decode cX8_plans 258 = .ok (.getfield 7, 3) := by decide +kernel
theorem dX8_plans_261 : decode cX8_plans 261 = .ok (.aload_n 0, 1) := by decide +kernel
theorem dX8_plans_262 : decode cX8_plans 262 = .ok (.getfield 13, 3) := by decide +kernel
theorem dX8_plans_265 : decode cX8_plans 265 = .ok (.imul, 1) := by decide +kernel
theorem dX8_plans_266 : decode cX8_plans 266 = .ok (.if_icmp .ne 7, 3) := by decide +kernel
theorem dX8_plans_269 : decode cX8_plans 269 = .ok (.iconst 0, 1) := by decide +kernel
theorem dX8_plans_270 : decode cX8_plans 270 = .ok (.goto 4, 3) := by decide +kernel
theorem dX8_plans_273 : decode cX8_plans 273 = .ok (.iconst 1, 1) := by decide +kernel
theorem dX8_plans_274 : decode cX8_plans 274 = .ok (.iastore, 1) := by decide +kernel
theorem dX8_plans_275 : decode cX8_plans 275 = .ok (.iinc 1 1, 3) := by decide +kernel
theorem dX8_plans_278 : decode cX8_plans 278 = .ok (.goto (-250), 3) := by decide +kernel
theorem dX8_plans_281 : decode cX8_plans 281 = .ok (.aload_n 0, 1) := by decide +kernel
theorem dX8_plans_282 : decode cX8_plans 282 = .ok (.invokevirtual 104, 3) := by decide +kernel
theorem dX8_plans_285 : decode cX8_plans 285 = .ok (.return_, 1) := by decide +kernel
theorem dX8_bestRest_0 : decode cX8_bestRest 0 = .ok (.iconst (-1), 1) := by decide +kernel
theorem dX8_bestRest_1 : decode cX8_bestRest 1 = .ok (.istore_n 3, 1) := by decide +kernel
theorem dX8_bestRest_2 : decode cX8_bestRest 2 = .ok (.iconst 0, 1) := by decide +kernel
theorem dX8_bestRest_3 : decode cX8_bestRest 3 = .ok (.istore 4, 2) := by decide +kernel
theorem dX8_bestRest_5 : decode cX8_bestRest 5 = .ok (.iload 4, 2) := by decide +kernel
theorem dX8_bestRest_7 : decode cX8_bestRest 7 = .ok (.aload_n 0, 1) := by decide +kernel
theorem dX8_bestRest_8 : decode cX8_bestRest 8 = .ok (.getfield 107, 3) := by decide +kernel
theorem dX8_bestRest_11 : decode cX8_bestRest 11 = .ok (.if_icmp .ge 85, 3) := by decide +kernel
theorem dX8_bestRest_14 : decode cX8_bestRest 14 = .ok (.aload_n 0, 1) := by decide +kernel
theorem dX8_bestRest_15 : decode cX8_bestRest 15 = .ok (.getfield 50, 3) := by decide +kernel
theorem dX8_bestRest_18 : decode cX8_bestRest 18 = .ok (.iload 4, 2) := by decide +kernel
theorem dX8_bestRest_20 : decode cX8_bestRest 20 = .ok (.iaload, 1) := by decide +kernel
theorem dX8_bestRest_21 : decode cX8_bestRest 21 = .ok (.iload_n 1, 1) := by decide +kernel
theorem dX8_bestRest_22 : decode cX8_bestRest 22 = .ok (.if_icmp .lt 18, 3) := by decide +kernel
theorem dX8_bestRest_25 : decode cX8_bestRest 25 = .ok (.aload_n 0, 1) := by decide +kernel
theorem dX8_bestRest_26 : decode cX8_bestRest 26 = .ok (.getfield 53, 3) := by decide +kernel
theorem dX8_bestRest_29 : decode cX8_bestRest 29 = .ok (.iload 4, 2) := by decide +kernel
theorem dX8_bestRest_31 : decode cX8_bestRest 31 = .ok (.iaload, 1) := by decide +kernel
theorem dX8_bestRest_32 : decode cX8_bestRest 32 = .ok (.iload_n 2, 1) := by decide +kernel
theorem dX8_bestRest_33 : decode cX8_bestRest 33 = .ok (.if_icmp .lt 7, 3) := by decide +kernel
theorem dX8_bestRest_36 : decode cX8_bestRest 36 = .ok (.iconst 1, 1) := by decide +kernel
theorem dX8_bestRest_37 : decode cX8_bestRest 37 = .ok (.goto 4, 3) := by decide +kernel
theorem dX8_bestRest_40 : decode cX8_bestRest 40 = .ok (.iconst 0, 1) := by decide +kernel
theorem dX8_bestRest_41 : decode cX8_bestRest 41 = .ok (.istore 5, 2) := by decide +kernel
theorem dX8_bestRest_43 : decode cX8_bestRest 43 = .ok (.iload 5, 2) := by decide +kernel
theorem dX8_bestRest_45 : decode cX8_bestRest 45 = .ok (.ifCond .eq 43, 3) := by decide +kernel
theorem dX8_bestRest_48 : decode cX8_bestRest 48 = .ok (.iload_n 3, 1) := by decide +kernel
theorem dX8_bestRest_49 : decode cX8_bestRest 49 = .ok (.ifCond .lt 34, 3) := by decide +kernel
theorem dX8_bestRest_52 : decode cX8_bestRest 52 = .ok (.aload_n 0, 1) := by decide +kernel
theorem dX8_bestRest_53 : decode cX8_bestRest 53 = .ok (.getfield 50, 3) := by decide +kernel
theorem dX8_bestRest_56 : decode cX8_bestRest 56 = .ok (.iload 4, 2) := by decide +kernel
theorem dX8_bestRest_58 : decode cX8_bestRest 58 = .ok (.iaload, 1) := by decide +kernel
theorem dX8_bestRest_59 : decode cX8_bestRest 59 = .ok (.aload_n 0, 1) := by decide +kernel
theorem dX8_bestRest_60 : decode cX8_bestRest 60 = .ok (.getfield 53, 3) := by decide +kernel
theorem dX8_bestRest_63 : decode cX8_bestRest 63 = .ok (.iload 4, 2) := by decide +kernel
theorem dX8_bestRest_65 : decode cX8_bestRest 65 = .ok (.iaload, 1) := by decide +kernel
theorem dX8_bestRest_66 : decode cX8_bestRest 66 = .ok (.imul, 1) := by decide +kernel
theorem dX8_bestRest_67 : decode cX8_bestRest 67 = .ok (.aload_n 0, 1) := by decide +kernel
theorem dX8_bestRest_68 : decode cX8_bestRest 68 = .ok (.getfield 50, 3) := by decide +kernel
theorem dX8_bestRest_71 : decode cX8_bestRest 71 = .ok (.iload_n 3, 1) := by decide +kernel
theorem dX8_bestRest_72 : decode cX8_bestRest 72 = .ok (.iaload, 1) := by decide +kernel
theorem dX8_bestRest_73 : decode cX8_bestRest 73 = .ok (.aload_n 0, 1) := by decide +kernel
theorem dX8_bestRest_74 : decode cX8_bestRest 74 = .ok (.getfield 53, 3) := by decide +kernel
theorem dX8_bestRest_77 : decode cX8_bestRest 77 = .ok (.iload_n 3, 1) := by decide +kernel
theorem dX8_bestRest_78 : decode cX8_bestRest 78 = .ok (.iaload, 1) := by decide +kernel
theorem dX8_bestRest_79 : decode cX8_bestRest 79 = .ok (.imul, 1) := by decide +kernel
theorem dX8_bestRest_80 : decode cX8_bestRest 80 = .ok (.if_icmp .ge 8, 3) := by decide +kernel
theorem dX8_bestRest_83 : decode cX8_bestRest 83 = .ok (.iload 4, 2) := by decide +kernel
theorem dX8_bestRest_85 : decode cX8_bestRest 85 = .ok (.goto 4, 3) := by decide +kernel
theorem dX8_bestRest_88 : decode cX8_bestRest 88 = .ok (.iload_n 3, 1) := by decide +kernel
theorem dX8_bestRest_89 : decode cX8_bestRest 89 = .ok (.istore_n 3, 1) := by decide +kernel
theorem dX8_bestRest_90 : decode cX8_bestRest 90 = .ok (.iinc 4 1, 3) := by decide +kernel
theorem dX8_bestRest_93 : decode cX8_bestRest 93 = .ok (.goto (-88), 3) := by decide +kernel
theorem dX8_bestRest_96 : decode cX8_bestRest 96 = .ok (.iload_n 3, 1) := by decide +kernel
theorem dX8_bestRest_97 : decode cX8_bestRest 97 = .ok (.ireturn, 1) := by decide +kernel
theorem dX8_takeOut_0 : decode cX8_takeOut 0 = .ok (.aload_n 0, 1) := by decide +kernel
theorem dX8_takeOut_1 : decode cX8_takeOut 1 = .ok (.dup, 1) := by decide +kernel
theorem dX8_takeOut_2 : decode cX8_takeOut 2 = .ok (.getfield 107, 3) := by decide +kernel
theorem dX8_takeOut_5 : decode cX8_takeOut 5 = .ok (.iconst 1, 1) := by decide +kernel
theorem dX8_takeOut_6 : decode cX8_takeOut 6 = .ok (.isub, 1) := by decide +kernel
theorem dX8_takeOut_7 : decode cX8_takeOut 7 = .ok (.putfield 107, 3) := by decide +kernel
theorem dX8_takeOut_10 : decode cX8_takeOut 10 = .ok (.iload_n 1, 1) := by decide +kernel
theorem dX8_takeOut_11 : decode cX8_takeOut 11 = .ok (.istore_n 2, 1) := by decide +kernel
theorem dX8_takeOut_12 : decode cX8_takeOut 12 = .ok (.iload_n 2, 1) := by decide +kernel
theorem dX8_takeOut_13 : decode cX8_takeOut 13 = .ok (.aload_n 0, 1) := by decide +kernel
theorem dX8_takeOut_14 : decode cX8_takeOut 14 = .ok (.getfield 107, 3) := by decide +kernel
theorem dX8_takeOut_17 : decode cX8_takeOut 17 = .ok (.if_icmp .ge 51, 3) := by decide +kernel
theorem dX8_takeOut_20 : decode cX8_takeOut 20 = .ok (.aload_n 0, 1) := by decide +kernel
theorem dX8_takeOut_21 : decode cX8_takeOut 21 = .ok (.getfield 50, 3) := by decide +kernel
theorem dX8_takeOut_24 : decode cX8_takeOut 24 = .ok (.iload_n 2, 1) := by decide +kernel
theorem dX8_takeOut_25 : decode cX8_takeOut 25 = .ok (.aload_n 0, 1) := by decide +kernel
theorem dX8_takeOut_26 : decode cX8_takeOut 26 = .ok (.getfield 50, 3) := by decide +kernel
theorem dX8_takeOut_29 : decode cX8_takeOut 29 = .ok (.iload_n 2, 1) := by decide +kernel
theorem dX8_takeOut_30 : decode cX8_takeOut 30 = .ok (.iconst 1, 1) := by decide +kernel
theorem dX8_takeOut_31 : decode cX8_takeOut 31 = .ok (.iadd, 1) := by decide +kernel
theorem dX8_takeOut_32 : decode cX8_takeOut 32 = .ok (.iaload, 1) := by decide +kernel
theorem dX8_takeOut_33 : decode cX8_takeOut 33 = .ok (.iastore, 1) := by decide +kernel
theorem dX8_takeOut_34 : decode cX8_takeOut 34 = .ok (.aload_n 0, 1) := by decide +kernel
theorem dX8_takeOut_35 : decode cX8_takeOut 35 = .ok (.getfield 53, 3) := by decide +kernel
theorem dX8_takeOut_38 : decode cX8_takeOut 38 = .ok (.iload_n 2, 1) := by decide +kernel
theorem dX8_takeOut_39 : decode cX8_takeOut 39 = .ok (.aload_n 0, 1) := by decide +kernel
theorem dX8_takeOut_40 : decode cX8_takeOut 40 = .ok (.getfield 53, 3) := by decide +kernel
theorem dX8_takeOut_43 : decode cX8_takeOut 43 = .ok (.iload_n 2, 1) := by decide +kernel
theorem dX8_takeOut_44 : decode cX8_takeOut 44 = .ok (.iconst 1, 1) := by decide +kernel
theorem dX8_takeOut_45 : decode cX8_takeOut 45 = .ok (.iadd, 1) := by decide +kernel
theorem dX8_takeOut_46 : decode cX8_takeOut 46 = .ok (.iaload, 1) := by decide +kernel
theorem dX8_takeOut_47 : decode cX8_takeOut 47 = .ok (.iastore, 1) := by decide +kernel
theorem dX8_takeOut_48 : decode cX8_takeOut 48 = .ok (.aload_n 0, 1) := by decide +kernel
theorem dX8_takeOut_49 : decode cX8_takeOut 49 = .ok (.getfield 56, 3) := by decide +kernel
theorem dX8_takeOut_52 : decode cX8_takeOut 52 = .ok (.iload_n 2, 1) := by decide +kernel
theorem dX8_takeOut_53 : decode cX8_takeOut 53 = .ok (.aload_n 0, 1) := by decide +kernel
theorem dX8_takeOut_54 : decode cX8_takeOut 54 = .ok (.getfield 56, 3) := by decide +kernel
theorem dX8_takeOut_57 : decode cX8_takeOut 57 = .ok (.iload_n 2, 1) := by decide +kernel
theorem dX8_takeOut_58 : decode cX8_takeOut 58 = .ok (.iconst 1, 1) := by decide +kernel
theorem dX8_takeOut_59 : decode cX8_takeOut 59 = .ok (.iadd, 1) := by decide +kernel
theorem dX8_takeOut_60 : decode cX8_takeOut 60 = .ok (.iaload, 1) := by decide +kernel
theorem dX8_takeOut_61 : decode cX8_takeOut 61 = .ok (.iastore, 1) := by decide +kernel
theorem dX8_takeOut_62 : decode cX8_takeOut 62 = .ok (.iinc 2 1, 3) := by decide +kernel
theorem dX8_takeOut_65 : decode cX8_takeOut 65 = .ok (.goto (-53), 3) := by decide +kernel
theorem dX8_takeOut_68 : decode cX8_takeOut 68 = .ok (.return_, 1) := by decide +kernel
set_option maxRecDepth 20000 in
theorem ggX8_cuts_X8_bestRest : GoodIn wsX8_cuts wsX8_bestRest := goodIn_r _ [19, 1, 13, 14, 24, 25, 26, 27, 28, 29, 30, 31, 32, 33, 34, 35, 36, 37, 38, 39, 40, 41, 42, 43, 44, 45, 46, 47, 48, 49, 50, 51, 52, 53, 54] (by decide +kernel) (by decide +kernel)
set_option maxRecDepth 20000 in
theorem gX8_cuts_X8_bestRest : GoodIn wsX8_cuts (wsV RX8 113 RX8 yX8_bestRest wsX8_bestRest) := goodIn_app (goodIn_of _ (by decide +kernel)) ggX8_cuts_X8_bestRest
set_option maxRecDepth 20000 in
theorem ggX8_cuts_X8_takeOut : GoodIn wsX8_cuts wsX8_takeOut := goodIn_r _ [23, 1, 13, 14, 12, 24, 25, 26, 27, 28, 29, 30, 31, 32, 33, 34, 35, 36, 37, 38, 39, 40, 41, 42, 43, 44, 45, 46, 47, 48, 49, 50, 51, 52, 53, 54] (by decide +kernel) (by decide +kernel)
set_option maxRecDepth 20000 in
theorem gX8_cuts_X8_takeOut : GoodIn wsX8_cuts (wsV RX8 117 RX8 yX8_takeOut wsX8_takeOut) := goodIn_app (goodIn_of _ (by decide +kernel)) ggX8_cuts_X8_takeOut
theorem dX8_cuts_0 : decode cX8_cuts 0 = .ok (.aload_n 0, 1) := by decide +kernel
theorem dX8_cuts_1 : decode cX8_cuts 1 = .ok (.iconst 0, 1) := by decide +kernel
theorem dX8_cuts_2 : decode cX8_cuts 2 = .ok (.putfield 107, 3) := by decide +kernel
theorem dX8_cuts_5 : decode cX8_cuts 5 = .ok (.aload_n 0, 1) := by decide +kernel
theorem dX8_cuts_6 : decode cX8_cuts 6 = .ok (.iconst 0, 1) := by decide +kernel
theorem dX8_cuts_7 : decode cX8_cuts 7 = .ok (.putfield 110, 3) := by decide +kernel
theorem dX8_cuts_10 : decode cX8_cuts 10 = .ok (.iconst 0, 1) := by decide +kernel
theorem dX8_cuts_11 : decode cX8_cuts 11 = .ok (.istore_n 1, 1) := by decide +kernel
theorem dX8_cuts_12 : decode cX8_cuts 12 = .ok (.iload_n 1, 1) := by decide +kernel
theorem dX8_cuts_13 : decode cX8_cuts 13 = .ok (.aload_n 0, 1) := by decide +kernel
theorem dX8_cuts_14 : decode cX8_cuts 14 = .ok (.getfield 94, 3) := by decide +kernel
theorem dX8_cuts_17 : decode cX8_cuts 17 = .ok (.if_icmp .ge 254, 3) := by decide +kernel
theorem dX8_cuts_20 : decode cX8_cuts 20 = .ok (.aload_n 0, 1) := by decide +kernel
theorem dX8_cuts_21 : decode cX8_cuts 21 = .ok (.getfield 32, 3) := by decide +kernel
theorem dX8_cuts_24 : decode cX8_cuts 24 = .ok (.iload_n 1, 1) := by decide +kernel
theorem dX8_cuts_25 : decode cX8_cuts 25 = .ok (.iconst (-1), 1) := by decide +kernel
theorem dX8_cuts_26 : decode cX8_cuts 26 = .ok (.iastore, 1) := by decide +kernel
theorem dX8_cuts_27 : decode cX8_cuts 27 = .ok (.aload_n 0, 1) := by decide +kernel
theorem dX8_cuts_28 : decode cX8_cuts 28 = .ok (.dup, 1) := by decide +kernel
theorem dX8_cuts_29 : decode cX8_cuts 29 = .ok (.getfield 110, 3) := by decide +kernel
theorem dX8_cuts_32 : decode cX8_cuts 32 = .ok (.aload_n 0, 1) := by decide +kernel
theorem dX8_cuts_33 : decode cX8_cuts 33 = .ok (.getfield 23, 3) := by decide +kernel
theorem dX8_cuts_36 : decode cX8_cuts 36 = .ok (.iload_n 1, 1) := by decide +kernel
theorem dX8_cuts_37 : decode cX8_cuts 37 = .ok (.iaload, 1) := by decide +kernel
theorem dX8_cuts_38 : decode cX8_cuts 38 = .ok (.ifCond .ne 7, 3) := by decide +kernel
theorem dX8_cuts_41 : decode cX8_cuts 41 = .ok (.iconst 1, 1) := by decide +kernel
theorem dX8_cuts_42 : decode cX8_cuts 42 = .ok (.goto 4, 3) := by decide +kernel
theorem dX8_cuts_45 : decode cX8_cuts 45 = .ok (.iconst 0, 1) := by decide +kernel
theorem dX8_cuts_46 : decode cX8_cuts 46 = .ok (.iadd, 1) := by decide +kernel
theorem dX8_cuts_47 : decode cX8_cuts 47 = .ok (.putfield 110, 3) := by decide +kernel
theorem dX8_cuts_50 : decode cX8_cuts 50 = .ok (.aload_n 0, 1) := by decide +kernel
theorem dX8_cuts_51 : decode cX8_cuts 51 = .ok (.getfield 23, 3) := by decide +kernel
theorem dX8_cuts_54 : decode cX8_cuts 54 = .ok (.iload_n 1, 1) := by decide +kernel
theorem dX8_cuts_55 : decode cX8_cuts 55 = .ok (.iaload, 1) := by decide +kernel
theorem dX8_cuts_56 : decode cX8_cuts 56 = .ok (.iconst 1, 1) := by decide +kernel
theorem dX8_cuts_57 : decode cX8_cuts 57 = .ok (.if_icmp .ne 208, 3) := by decide +kernel
theorem dX8_cuts_60 : decode cX8_cuts 60 = .ok (.aload_n 0, 1) := by decide +kernel
theorem dX8_cuts_61 : decode cX8_cuts 61 = .ok (.getfield 38, 3) := by decide +kernel
theorem dX8_cuts_64 : decode cX8_cuts 64 = .ok (.iload_n 1, 1) := by decide +kernel
theorem dX8_cuts_65 : decode cX8_cuts 65 = .ok (.iaload, 1) := by decide +kernel
theorem dX8_cuts_66 : decode cX8_cuts 66 = .ok (.aload_n 0, 1) := by decide +kernel
theorem dX8_cuts_67 : decode cX8_cuts 67 = .ok (.getfield 35, 3) := by decide +kernel
theorem dX8_cuts_70 : decode cX8_cuts 70 = .ok (.iload_n 1, 1) := by decide +kernel
theorem dX8_cuts_71 : decode cX8_cuts 71 = .ok (.iaload, 1) := by decide +kernel
theorem dX8_cuts_72 : decode cX8_cuts 72 = .ok (.isub, 1) := by decide +kernel
theorem dX8_cuts_73 : decode cX8_cuts 73 = .ok (.iconst 1, 1) := by decide +kernel
theorem dX8_cuts_74 : decode cX8_cuts 74 = .ok (.iadd, 1) := by decide +kernel
theorem dX8_cuts_75 : decode cX8_cuts 75 = .ok (.istore_n 2, 1) := by decide +kernel
theorem dX8_cuts_76 : decode cX8_cuts 76 = .ok (.aload_n 0, 1) := by decide +kernel
theorem dX8_cuts_77 : decode cX8_cuts 77 = .ok (.getfield 44, 3) := by decide +kernel
theorem dX8_cuts_80 : decode cX8_cuts 80 = .ok (.iload_n 1, 1) := by decide +kernel
theorem dX8_cuts_81 : decode cX8_cuts 81 = .ok (.iaload, 1) := by decide +kernel
theorem dX8_cuts_82 : decode cX8_cuts 82 = .ok (.aload_n 0, 1) := by decide +kernel
theorem dX8_cuts_83 : decode cX8_cuts 83 = .ok (.getfield 41, 3) := by decide +kernel
theorem dX8_cuts_86 : decode cX8_cuts 86 = .ok (.iload_n 1, 1) := by decide +kernel
theorem dX8_cuts_87 : decode cX8_cuts 87 = .ok (.iaload, 1) := by decide +kernel
theorem dX8_cuts_88 : decode cX8_cuts 88 = .ok (.isub, 1) := by decide +kernel
theorem dX8_cuts_89 : decode cX8_cuts 89 = .ok (.iconst 1, 1) := by decide +kernel
theorem dX8_cuts_90 : decode cX8_cuts 90 = .ok (.iadd, 1) := by decide +kernel
theorem dX8_cuts_91 : decode cX8_cuts 91 = .ok (.istore_n 3, 1) := by decide +kernel
theorem dX8_cuts_92 : decode cX8_cuts 92 = .ok (.aload_n 0, 1) := by decide +kernel
theorem dX8_cuts_93 : decode cX8_cuts 93 = .ok (.iload_n 2, 1) := by decide +kernel
theorem dX8_cuts_94 : decode cX8_cuts 94 = .ok (.iload_n 3, 1) := by decide +kernel
theorem dX8_cuts_95 : decode cX8_cuts 95 = .ok (.invokevirtual 113, 3) := by decide +kernel
theorem dX8_cuts_98 : decode cX8_cuts 98 = .ok (.istore 4, 2) := by decide +kernel
theorem dX8_cuts_100 : decode cX8_cuts 100 = .ok (.aload_n 0, 1) := by decide +kernel
theorem dX8_cuts_101 : decode cX8_cuts 101 = .ok (.getfield 7, 3) := by decide +kernel
theorem dX8_cuts_104 : decode cX8_cuts 104 = .ok (.istore 5, 2) := by decide +kernel
theorem dX8_cuts_106 : decode cX8_cuts 106 = .ok (.aload_n 0, 1) := by decide +kernel
theorem dX8_cuts_107 : decode cX8_cuts 107 = .ok (.getfield 13, 3) := by decide +kernel
theorem dX8_cuts_110 : decode cX8_cuts 110 = .ok (.istore 6, 2) := by decide +kernel
theorem dX8_cuts_112 : decode cX8_cuts 112 = .ok (.iload 4, 2) := by decide +kernel
theorem dX8_cuts_114 : decode cX8_cuts 114 = .ok (.ifCond .lt 43, 3) := by decide +kernel
theorem dX8_cuts_117 : decode cX8_cuts 117 = .ok (.aload_n 0, 1) := by decide +kernel
theorem dX8_cuts_118 : decode cX8_cuts 118 = .ok (.getfield 32, 3) := by decide +kernel
theorem dX8_cuts_121 : decode cX8_cuts 121 = .ok (.iload_n 1, 1) := by decide +kernel
theorem dX8_cuts_122 : decode cX8_cuts 122 = .ok (.aload_n 0, 1) := by decide +kernel
theorem dX8_cuts_123 : decode cX8_cuts 123 = .ok (.getfield 56, 3) := by decide +kernel
theorem dX8_cuts_126 : decode cX8_cuts 126 = .ok (.iload 4, 2) := by decide +kernel
theorem dX8_cuts_128 : decode cX8_cuts 128 = .ok (.iaload, 1) := by decide +kernel
theorem dX8_cuts_129 : decode cX8_cuts 129 = .ok (.iastore, 1) := by decide +kernel
theorem dX8_cuts_130 : decode cX8_cuts 130 = .ok (.aload_n 0, 1) := by decide +kernel
theorem dX8_cuts_131 : decode cX8_cuts 131 = .ok (.getfield 50, 3) := by decide +kernel
theorem dX8_cuts_134 : decode cX8_cuts 134 = .ok (.iload 4, 2) := by decide +kernel
theorem dX8_cuts_136 : decode cX8_cuts 136 = .ok (.iaload, 1) := by decide +kernel
theorem dX8_cuts_137 : decode cX8_cuts 137 = .ok (.istore 5, 2) := by decide +kernel
theorem dX8_cuts_139 : decode cX8_cuts 139 = .ok (.aload_n 0, 1) := by decide +kernel
theorem dX8_cuts_140 : decode cX8_cuts 140 = .ok (.getfield 53, 3) := by decide +kernel
theorem dX8_cuts_143 : decode cX8_cuts 143 = .ok (.iload 4, 2) := by decide +kernel
theorem dX8_cuts_145 : decode cX8_cuts 145 = .ok (.iaload, 1) := by decide +kernel
theorem dX8_cuts_146 : decode cX8_cuts 146 = .ok (.istore 6, 2) := by decide +kernel
theorem dX8_cuts_148 : decode cX8_cuts 148 = .ok (.aload_n 0, 1) := by decide +kernel
theorem dX8_cuts_149 : decode cX8_cuts 149 = .ok (.iload 4, 2) := by decide +kernel
theorem dX8_cuts_151 : decode cX8_cuts 151 = .ok (.invokevirtual 117, 3) := by decide +kernel
theorem dX8_cuts_154 : decode cX8_cuts 154 = .ok (.goto 13, 3) := by decide +kernel
theorem dX8_cuts_157 : decode cX8_cuts 157 = .ok (.aload_n 0, 1) := by decide +kernel
theorem dX8_cuts_158 : decode cX8_cuts 158 = .ok (.dup, 1) := by decide +kernel
theorem dX8_cuts_159 : decode cX8_cuts 159 = .ok (.getfield 110, 3) := by decide +kernel
theorem dX8_cuts_162 : decode cX8_cuts 162 = .ok (.iconst 1, 1) := by decide +kernel
theorem dX8_cuts_163 : decode cX8_cuts 163 = .ok (.iadd, 1) := by decide +kernel
theorem dX8_cuts_164 : decode cX8_cuts 164 = .ok (.putfield 110, 3) := by decide +kernel
theorem dX8_cuts_167 : decode cX8_cuts 167 = .ok (.iload 5, 2) := by decide +kernel
theorem dX8_cuts_169 : decode cX8_cuts 169 = .ok (.iload_n 2, 1) := by decide +kernel
theorem dX8_cuts_170 : decode cX8_cuts 170 = .ok (.isub, 1) := by decide +kernel
theorem dX8_cuts_171 : decode cX8_cuts 171 = .ok (.iload 6, 2) := by decide +kernel
theorem dX8_cuts_173 : decode cX8_cuts 173 = .ok (.imul, 1) := by decide +kernel
theorem dX8_cuts_174 : decode cX8_cuts 174 = .ok (.istore 7, 2) := by decide +kernel
theorem dX8_cuts_176 : decode cX8_cuts 176 = .ok (.iload 5, 2) := by decide +kernel
theorem dX8_cuts_178 : decode cX8_cuts 178 = .ok (.iload 6, 2) := by decide +kernel
theorem dX8_cuts_180 : decode cX8_cuts 180 = .ok (.iload_n 3, 1) := by decide +kernel
theorem dX8_cuts_181 : decode cX8_cuts 181 = .ok (.isub, 1) := by decide +kernel
theorem dX8_cuts_182 : decode cX8_cuts 182 = .ok (.imul, 1) := by decide +kernel
theorem dX8_cuts_183 : decode cX8_cuts 183 = .ok (.istore 8, 2) := by decide +kernel
theorem dX8_cuts_185 : decode cX8_cuts 185 = .ok (.iload 7, 2) := by decide +kernel
theorem dX8_cuts_187 : decode cX8_cuts 187 = .ok (.ifCond .gt 8, 3) := by decide +kernel
theorem dX8_cuts_190 : decode cX8_cuts 190 = .ok (.iload 8, 2) := by decide +kernel
theorem dX8_cuts_192 : decode cX8_cuts 192 = .ok (.ifCond .le 73, 3) := by decide +kernel
theorem dX8_cuts_195 : decode cX8_cuts 195 = .ok (.aload_n 0, 1) := by decide +kernel
theorem dX8_cuts_196 : decode cX8_cuts 196 = .ok (.getfield 50, 3) := by decide +kernel
theorem dX8_cuts_199 : decode cX8_cuts 199 = .ok (.aload_n 0, 1) := by decide +kernel
theorem dX8_cuts_200 : decode cX8_cuts 200 = .ok (.getfield 107, 3) := by decide +kernel
theorem dX8_cuts_203 : decode cX8_cuts 203 = .ok (.iload 7, 2) := by decide +kernel
theorem dX8_cuts_205 : decode cX8_cuts 205 = .ok (.iload 8, 2) := by decide +kernel
theorem dX8_cuts_207 : decode cX8_cuts 207 = .ok (.if_icmp .lt 10, 3) := by decide +kernel
theorem dX8_cuts_210 : decode cX8_cuts 210 = .ok (.iload 5, 2) := by decide +kernel
theorem dX8_cuts_212 : decode cX8_cuts 212 = .ok (.iload_n 2, 1) := by decide +kernel
theorem dX8_cuts_213 : decode cX8_cuts 213 = .ok (.isub, 1) := by decide +kernel
theorem dX8_cuts_214 : decode cX8_cuts 214 = .ok (.goto 5, 3) := by decide +kernel
theorem dX8_cuts_217 : decode cX8_cuts 217 = .ok (.iload 5, 2) := by decide +kernel
theorem dX8_cuts_219 : decode cX8_cuts 219 = .ok (.iastore, 1) := by decide +kernel
theorem dX8_cuts_220 : decode cX8_cuts 220 = .ok (.aload_n 0, 1) := by decide +kernel
theorem dX8_cuts_221 : decode cX8_cuts 221 = .ok (.getfield 53, 3) := by decide +kernel
theorem dX8_cuts_224 : decode cX8_cuts 224 = .ok (.aload_n 0, 1) := by decide +kernel
theorem dX8_cuts_225 : decode cX8_cuts 225 = .ok (.getfield 107, 3) := by decide +kernel
theorem dX8_cuts_228 : decode cX8_cuts 228 = .ok (.iload 7, 2) := by decide +kernel
theorem dX8_cuts_230 : decode cX8_cuts 230 = .ok (.iload 8, 2) := by decide +kernel
theorem dX8_cuts_232 : decode cX8_cuts 232 = .ok (.if_icmp .lt 8, 3) := by decide +kernel
theorem dX8_cuts_235 : decode cX8_cuts 235 = .ok (.iload 6, 2) := by decide +kernel
theorem dX8_cuts_237 : decode cX8_cuts 237 = .ok (.goto 7, 3) := by decide +kernel
theorem dX8_cuts_240 : decode cX8_cuts 240 = .ok (.iload 6, 2) := by decide +kernel
theorem dX8_cuts_242 : decode cX8_cuts 242 = .ok (.iload_n 3, 1) := by decide +kernel
theorem dX8_cuts_243 : decode cX8_cuts 243 = .ok (.isub, 1) := by decide +kernel
theorem dX8_cuts_244 : decode cX8_cuts 244 = .ok (.iastore, 1) := by decide +kernel
theorem dX8_cuts_245 : decode cX8_cuts 245 = .ok (.aload_n 0, 1) := by decide +kernel
theorem dX8_cuts_246 : decode cX8_cuts 246 = .ok (.getfield 56, 3) := by decide +kernel
theorem dX8_cuts_249 : decode cX8_cuts 249 = .ok (.aload_n 0, 1) := by decide +kernel
theorem dX8_cuts_250 : decode cX8_cuts 250 = .ok (.getfield 107, 3) := by decide +kernel
theorem dX8_cuts_253 : decode cX8_cuts 253 = .ok (.iload_n 1, 1) := by decide +kernel
theorem dX8_cuts_254 : decode cX8_cuts 254 = .ok (.iastore, 1) := by decide +kernel
theorem dX8_cuts_255 : decode cX8_cuts 255 = .ok (.aload_n 0, 1) := by decide +kernel
theorem dX8_cuts_256 : decode cX8_cuts 256 = .ok (.dup, 1) := by decide +kernel
theorem dX8_cuts_257 : decode cX8_cuts 257 = .ok (.getfield 107, 3) := by decide +kernel
theorem dX8_cuts_260 : decode cX8_cuts 260 = .ok (.iconst 1, 1) := by decide +kernel
theorem dX8_cuts_261 : decode cX8_cuts 261 = .ok (.iadd, 1) := by decide +kernel
theorem dX8_cuts_262 : decode cX8_cuts 262 = .ok (.putfield 107, 3) := by decide +kernel
theorem dX8_cuts_265 : decode cX8_cuts 265 = .ok (.iinc 1 1, 3) := by decide +kernel
theorem dX8_cuts_268 : decode cX8_cuts 268 = .ok (.goto (-256), 3) := by decide +kernel
theorem dX8_cuts_271 : decode cX8_cuts 271 = .ok (.return_, 1) := by decide +kernel
theorem dX8_courses_0 : decode cX8_courses 0 = .ok (.bipush 8, 2) := by decide +kernel
theorem dX8_courses_2 : decode cX8_courses 2 = .ok (.iconst 2, 1) := by decide +kernel
theorem dX8_courses_3 : decode cX8_courses 3 = .ok (.aload_n 0, 1) := by decide +kernel
theorem dX8_courses_4 : decode cX8_courses 4 = .ok (.getfield 80, 3) := by decide +kernel
theorem dX8_courses_7 : decode cX8_courses 7 = .ok (.imul, 1) := by decide +kernel
theorem dX8_courses_8 : decode cX8_courses 8 = .ok (.isub, 1) := by decide +kernel
theorem dX8_courses_9 : decode cX8_courses 9 = .ok (.aload_n 0, 1) := by decide +kernel
theorem dX8_courses_10 : decode cX8_courses 10 = .ok (.getfield 13, 3) := by decide +kernel
theorem dX8_courses_13 : decode cX8_courses 13 = .ok (.iadd, 1) := by decide +kernel
theorem dX8_courses_14 : decode cX8_courses 14 = .ok (.iconst 1, 1) := by decide +kernel
theorem dX8_courses_15 : decode cX8_courses 15 = .ok (.isub, 1) := by decide +kernel
theorem dX8_courses_16 : decode cX8_courses 16 = .ok (.aload_n 0, 1) := by decide +kernel
theorem dX8_courses_17 : decode cX8_courses 17 = .ok (.getfield 13, 3) := by decide +kernel
theorem dX8_courses_20 : decode cX8_courses 20 = .ok (.idiv, 1) := by decide +kernel
theorem dX8_courses_21 : decode cX8_courses 21 = .ok (.ireturn, 1) := by decide +kernel
set_option maxRecDepth 20000 in
theorem ggX8_stripOfRow_X8_courses : GoodIn wsX8_stripOfRow wsX8_courses := goodIn_r _ [7, 1, 2, 8, 9, 10, 11, 12, 13, 14, 15, 16, 17, 18, 19, 20, 21, 22, 23, 24, 25, 26, 27, 28, 29, 30, 31, 32, 33, 34, 35, 36, 37, 38] (by decide +kernel) (by decide +kernel)
set_option maxRecDepth 20000 in
theorem gX8_stripOfRow_X8_courses : GoodIn wsX8_stripOfRow (wsV RX8 121 RX8 yX8_courses wsX8_courses) := goodIn_app (goodIn_of _ (by decide +kernel)) ggX8_stripOfRow_X8_courses
theorem dX8_stripOfRow_0 : decode cX8_stripOfRow 0 = .ok (.iload_n 1, 1) := by decide +kernel
theorem dX8_stripOfRow_1 : decode cX8_stripOfRow 1 = .ok (.aload_n 0, 1) := by decide +kernel
theorem dX8_stripOfRow_2 : decode cX8_stripOfRow 2 = .ok (.getfield 80, 3) := by decide +kernel
theorem dX8_stripOfRow_5 : decode cX8_stripOfRow 5 = .ok (.if_icmp .ge 5, 3) := by decide +kernel
theorem dX8_stripOfRow_8 : decode cX8_stripOfRow 8 = .ok (.iload_n 1, 1) := by decide +kernel
theorem dX8_stripOfRow_9 : decode cX8_stripOfRow 9 = .ok (.ireturn, 1) := by decide +kernel
theorem dX8_stripOfRow_10 : decode cX8_stripOfRow 10 = .ok (.iload_n 1, 1) := by decide +kernel
theorem dX8_stripOfRow_11 : decode cX8_stripOfRow 11 = .ok (.bipush 8, 2) := by decide +kernel
theorem dX8_stripOfRow_13 : decode cX8_stripOfRow 13 = .ok (.aload_n 0, 1) := by decide +kernel
theorem dX8_stripOfRow_14 : decode cX8_stripOfRow 14 = .ok (.getfield 80, 3) := by decide +kernel
theorem dX8_stripOfRow_17 : decode cX8_stripOfRow 17 = .ok (.isub, 1) := by decide +kernel
theorem dX8_stripOfRow_18 : decode cX8_stripOfRow 18 = .ok (.if_icmp .lt 25, 3) := by decide +kernel
theorem dX8_stripOfRow_21 : decode cX8_stripOfRow 21 = .ok (.aload_n 0, 1) := by decide +kernel
theorem dX8_stripOfRow_22 : decode cX8_stripOfRow 22 = .ok (.getfield 80, 3) := by decide +kernel
theorem dX8_stripOfRow_25 : decode cX8_stripOfRow 25 = .ok (.aload_n 0, 1) := by decide +kernel
theorem dX8_stripOfRow_26 : decode cX8_stripOfRow 26 = .ok (.invokevirtual 121, 3) := by decide +kernel
theorem dX8_stripOfRow_29 : decode cX8_stripOfRow 29 = .ok (.iadd, 1) := by decide +kernel
theorem dX8_stripOfRow_30 : decode cX8_stripOfRow 30 = .ok (.iload_n 1, 1) := by decide +kernel
theorem dX8_stripOfRow_31 : decode cX8_stripOfRow 31 = .ok (.iadd, 1) := by decide +kernel
theorem dX8_stripOfRow_32 : decode cX8_stripOfRow 32 = .ok (.bipush 8, 2) := by decide +kernel
theorem dX8_stripOfRow_34 : decode cX8_stripOfRow 34 = .ok (.aload_n 0, 1) := by decide +kernel
theorem dX8_stripOfRow_35 : decode cX8_stripOfRow 35 = .ok (.getfield 80, 3) := by decide +kernel
theorem dX8_stripOfRow_38 : decode cX8_stripOfRow 38 = .ok (.isub, 1) := by decide +kernel
theorem dX8_stripOfRow_39 : decode cX8_stripOfRow 39 = .ok (.isub, 1) := by decide +kernel
theorem dX8_stripOfRow_40 : decode cX8_stripOfRow 40 = .ok (.goto 19, 3) := by decide +kernel
theorem dX8_stripOfRow_43 : decode cX8_stripOfRow 43 = .ok (.aload_n 0, 1) := by decide +kernel
theorem dX8_stripOfRow_44 : decode cX8_stripOfRow 44 = .ok (.getfield 80, 3) := by decide +kernel
theorem dX8_stripOfRow_47 : decode cX8_stripOfRow 47 = .ok (.iload_n 1, 1) := by decide +kernel
theorem dX8_stripOfRow_48 : decode cX8_stripOfRow 48 = .ok (.aload_n 0, 1) := by decide +kernel
theorem dX8_stripOfRow_49 : decode cX8_stripOfRow 49 = .ok (.getfield 80, 3) := by decide +kernel
theorem dX8_stripOfRow_52 : decode cX8_stripOfRow 52 = .ok (.isub, 1) := by decide +kernel
theorem dX8_stripOfRow_53 : decode cX8_stripOfRow 53 = .ok (.aload_n 0, 1) := by decide +kernel
theorem dX8_stripOfRow_54 : decode cX8_stripOfRow 54 = .ok (.getfield 13, 3) := by decide +kernel
theorem dX8_stripOfRow_57 : decode cX8_stripOfRow 57 = .ok (.idiv, 1) := by decide +kernel
theorem dX8_stripOfRow_58 : decode cX8_stripOfRow 58 = .ok (.iadd, 1) := by decide +kernel
theorem dX8_stripOfRow_59 : decode cX8_stripOfRow 59 = .ok (.ireturn, 1) := by decide +kernel
set_option maxRecDepth 20000 in
theorem ggX8_stripCount_X8_courses : GoodIn wsX8_stripCount wsX8_courses := goodIn_r _ [6, 1, 7, 8, 9, 10, 11, 12, 13, 14, 15, 16, 17, 18, 19, 20, 21, 22, 23, 24, 25, 26, 27, 28, 29, 30, 31, 32, 33, 34, 35, 36, 37, 38] (by decide +kernel) (by decide +kernel)
set_option maxRecDepth 20000 in
theorem gX8_stripCount_X8_courses : GoodIn wsX8_stripCount (wsV RX8 121 RX8 yX8_courses wsX8_courses) := goodIn_app (goodIn_of _ (by decide +kernel)) ggX8_stripCount_X8_courses
theorem dX8_stripCount_0 : decode cX8_stripCount 0 = .ok (.iconst 2, 1) := by decide +kernel
theorem dX8_stripCount_1 : decode cX8_stripCount 1 = .ok (.aload_n 0, 1) := by decide +kernel
theorem dX8_stripCount_2 : decode cX8_stripCount 2 = .ok (.getfield 80, 3) := by decide +kernel
theorem dX8_stripCount_5 : decode cX8_stripCount 5 = .ok (.imul, 1) := by decide +kernel
theorem dX8_stripCount_6 : decode cX8_stripCount 6 = .ok (.aload_n 0, 1) := by decide +kernel
theorem dX8_stripCount_7 : decode cX8_stripCount 7 = .ok (.invokevirtual 121, 3) := by decide +kernel
theorem dX8_stripCount_10 : decode cX8_stripCount 10 = .ok (.iadd, 1) := by decide +kernel
theorem dX8_stripCount_11 : decode cX8_stripCount 11 = .ok (.ireturn, 1) := by decide +kernel
set_option maxRecDepth 20000 in
theorem ggX8_plan_X8_in : GoodIn wsX8_plan wsX8_in := goodIn_r _ [11] (by decide +kernel) (by decide +kernel)
set_option maxRecDepth 20000 in
theorem gX8_plan_X8_in : GoodIn wsX8_plan (wsV RX8 125 RX8 yX8_in wsX8_in) := goodIn_app (goodIn_of _ (by decide +kernel)) ggX8_plan_X8_in
set_option maxRecDepth 20000 in
theorem ggX8_plan_X8_holds : GoodIn wsX8_plan wsX8_holds := goodIn_r _ [15, 16, 65, 66, 67, 68, 69, 70, 71, 72, 73, 74, 75, 76, 77, 78, 79, 80, 81, 82, 83, 84, 85, 86, 87, 88, 89, 90, 91, 92, 93, 94, 95] (by decide +kernel) (by decide +kernel)
set_option maxRecDepth 20000 in
theorem gX8_plan_X8_holds : GoodIn wsX8_plan (wsV RX8 133 RX8 yX8_holds wsX8_holds) := goodIn_app (goodIn_of _ (by decide +kernel)) ggX8_plan_X8_holds
set_option maxRecDepth 20000 in
theorem ggX8_plan_X8_plans : GoodIn wsX8_plan wsX8_plans := goodIn_r _ [20, 6, 21, 22, 23, 24, 25, 26, 27, 28, 2, 3, 29, 30, 31, 10, 32, 33, 34, 35, 36, 37, 38, 39, 40, 41, 42, 4, 43, 44, 45, 46, 5, 47, 48, 49, 50, 51, 52, 53, 54, 55, 56, 57, 58, 59, 60, 61, 62, 63, 64, 65, 66, 67, 68, 69, 70, 71, 72, 73, 74, 75, 76, 77, 78, 79, 80, 81, 82, 83, 84, 85, 86, 87, 88, 89, 90, 91, 92, 93, 94, 95] (by decide +kernel) (by decide +kernel)
set_option maxRecDepth 20000 in
theorem gX8_plan_X8_plans : GoodIn wsX8_plan (wsV RX8 74 RX8 yX8_plans wsX8_plans) := goodIn_app (goodIn_of _ (by decide +kernel)) ggX8_plan_X8_plans
theorem dX8_plan_0 : decode cX8_plan 0 = .ok (.aload_n 0, 1) := by decide +kernel
theorem dX8_plan_1 : decode cX8_plan 1 = .ok (.iload_n 1, 1) := by decide +kernel
theorem dX8_plan_2 : decode cX8_plan 2 = .ok (.iconst 1, 1) := by decide +kernel
theorem dX8_plan_3 : decode cX8_plan 3 = .ok (.iconst 4, 1) := by decide +kernel
theorem dX8_plan_4 : decode cX8_plan 4 = .ok (.invokevirtual 125, 3) := by decide +kernel
theorem dX8_plan_7 : decode cX8_plan 7 = .ok (.ifCond .eq 38, 3) := by decide +kernel
theorem dX8_plan_10 : decode cX8_plan 10 = .ok (.aload_n 0, 1) := by decide +kernel
theorem dX8_plan_11 : decode cX8_plan 11 = .ok (.iload_n 2, 1) := by decide +kernel
theorem dX8_plan_12 : decode cX8_plan 12 = .ok (.iconst 1, 1) := by decide +kernel
theorem dX8_plan_13 : decode cX8_plan 13 = .ok (.iconst 4, 1) := by decide +kernel
theorem dX8_plan_14 : decode cX8_plan 14 = .ok (.invokevirtual 125, 3) := by decide +kernel
theorem dX8_plan_17 : decode cX8_plan 17 = .ok (.ifCond .eq 28, 3) := by decide +kernel
theorem dX8_plan_20 : decode cX8_plan 20 = .ok (.aload_n 0, 1) := by decide +kernel
theorem dX8_plan_21 : decode cX8_plan 21 = .ok (.iload_n 3, 1) := by decide +kernel
theorem dX8_plan_22 : decode cX8_plan 22 = .ok (.iconst 0, 1) := by decide +kernel
theorem dX8_plan_23 : decode cX8_plan 23 = .ok (.iconst 2, 1) := by decide +kernel
theorem dX8_plan_24 : decode cX8_plan 24 = .ok (.invokevirtual 125, 3) := by decide +kernel
theorem dX8_plan_27 : decode cX8_plan 27 = .ok (.ifCond .eq 18, 3) := by decide +kernel
theorem dX8_plan_30 : decode cX8_plan 30 = .ok (.aload_n 0, 1) := by decide +kernel
theorem dX8_plan_31 : decode cX8_plan 31 = .ok (.iload 4, 2) := by decide +kernel
theorem dX8_plan_33 : decode cX8_plan 33 = .ok (.iconst 0, 1) := by decide +kernel
theorem dX8_plan_34 : decode cX8_plan 34 = .ok (.iconst 1, 1) := by decide +kernel
theorem dX8_plan_35 : decode cX8_plan 35 = .ok (.invokevirtual 125, 3) := by decide +kernel
theorem dX8_plan_38 : decode cX8_plan 38 = .ok (.ifCond .eq 7, 3) := by decide +kernel
theorem dX8_plan_41 : decode cX8_plan 41 = .ok (.iconst 1, 1) := by decide +kernel
theorem dX8_plan_42 : decode cX8_plan 42 = .ok (.goto 4, 3) := by decide +kernel
theorem dX8_plan_45 : decode cX8_plan 45 = .ok (.iconst 0, 1) := by decide +kernel
theorem dX8_plan_46 : decode cX8_plan 46 = .ok (.istore 5, 2) := by decide +kernel
theorem dX8_plan_48 : decode cX8_plan 48 = .ok (.aload_n 0, 1) := by decide +kernel
theorem dX8_plan_49 : decode cX8_plan 49 = .ok (.iload 5, 2) := by decide +kernel
theorem dX8_plan_51 : decode cX8_plan 51 = .ok (.ifCond .ne 7, 3) := by decide +kernel
theorem dX8_plan_54 : decode cX8_plan 54 = .ok (.iconst 1, 1) := by decide +kernel
theorem dX8_plan_55 : decode cX8_plan 55 = .ok (.goto 15, 3) := by decide +kernel
theorem dX8_plan_58 : decode cX8_plan 58 = .ok (.aload_n 0, 1) := by decide +kernel
theorem dX8_plan_59 : decode cX8_plan 59 = .ok (.getfield 129, 3) := by decide +kernel
theorem dX8_plan_62 : decode cX8_plan 62 = .ok (.ifCond .eq 7, 3) := by decide +kernel
theorem dX8_plan_65 : decode cX8_plan 65 = .ok (.iconst 2, 1) := by decide +kernel
theorem dX8_plan_66 : decode cX8_plan 66 = .ok (.goto 4, 3) := by decide +kernel
theorem dX8_plan_69 : decode cX8_plan 69 = .ok (.iconst 0, 1) := by decide +kernel
theorem dX8_plan_70 : decode cX8_plan 70 = .ok (.invokevirtual 133, 3) := by decide +kernel
theorem dX8_plan_73 : decode cX8_plan 73 = .ok (.ifCond .eq 5, 3) := by decide +kernel
theorem dX8_plan_76 : decode cX8_plan 76 = .ok (.iconst (-1), 1) := by decide +kernel
theorem dX8_plan_77 : decode cX8_plan 77 = .ok (.ireturn, 1) := by decide +kernel
theorem dX8_plan_78 : decode cX8_plan 78 = .ok (.aload_n 0, 1) := by decide +kernel
theorem dX8_plan_79 : decode cX8_plan 79 = .ok (.iload_n 1, 1) := by decide +kernel
theorem dX8_plan_80 : decode cX8_plan 80 = .ok (.putfield 7, 3) := by decide +kernel
theorem dX8_plan_83 : decode cX8_plan 83 = .ok (.aload_n 0, 1) := by decide +kernel
theorem dX8_plan_84 : decode cX8_plan 84 = .ok (.iload_n 2, 1) := by decide +kernel
theorem dX8_plan_85 : decode cX8_plan 85 = .ok (.putfield 13, 3) := by decide +kernel
theorem dX8_plan_88 : decode cX8_plan 88 = .ok (.aload_n 0, 1) := by decide +kernel
theorem dX8_plan_89 : decode cX8_plan 89 = .ok (.iload_n 3, 1) := by decide +kernel
theorem dX8_plan_90 : decode cX8_plan 90 = .ok (.putfield 80, 3) := by decide +kernel
theorem dX8_plan_93 : decode cX8_plan 93 = .ok (.aload_n 0, 1) := by decide +kernel
theorem dX8_plan_94 : decode cX8_plan 94 = .ok (.iload 4, 2) := by decide +kernel
theorem dX8_plan_96 : decode cX8_plan 96 = .ok (.putfield 83, 3) := by decide +kernel
theorem dX8_plan_99 : decode cX8_plan 99 = .ok (.aload_n 0, 1) := by decide +kernel
theorem dX8_plan_100 : decode cX8_plan 100 = .ok (.invokevirtual 74, 3) := by decide +kernel
theorem dX8_plan_103 : decode cX8_plan 103 = .ok (.aload_n 0, 1) := by decide +kernel
theorem dX8_plan_104 : decode cX8_plan 104 = .ok (.getfield 94, 3) := by decide +kernel
theorem dX8_plan_107 : decode cX8_plan 107 = .ok (.ireturn, 1) := by decide +kernel
set_option maxRecDepth 20000 in
theorem ggX8_pillar_X8_in : GoodIn wsX8_pillar wsX8_in := goodIn_r _ [7] (by decide +kernel) (by decide +kernel)
set_option maxRecDepth 20000 in
theorem gX8_pillar_X8_in : GoodIn wsX8_pillar (wsV RX8 125 RX8 yX8_in wsX8_in) := goodIn_app (goodIn_of _ (by decide +kernel)) ggX8_pillar_X8_in
set_option maxRecDepth 20000 in
theorem ggX8_pillar_X8_holds : GoodIn wsX8_pillar wsX8_holds := goodIn_r _ [11, 12, 65, 66, 67, 68, 69, 70, 71, 72, 73, 74, 75, 76, 77, 78, 79, 80, 81, 82, 83, 84, 85, 86, 87, 88, 89, 90, 91, 92, 93, 94, 95] (by decide +kernel) (by decide +kernel)
set_option maxRecDepth 20000 in
theorem gX8_pillar_X8_holds : GoodIn wsX8_pillar (wsV RX8 133 RX8 yX8_holds wsX8_holds) := goodIn_app (goodIn_of _ (by decide +kernel)) ggX8_pillar_X8_holds
set_option maxRecDepth 20000 in
theorem ggX8_pillar_X8_plans : GoodIn wsX8_pillar wsX8_plans := goodIn_r _ [16, 17, 18, 19, 20, 21, 22, 23, 24, 25, 26, 27, 28, 29, 30, 6, 31, 2, 32, 33, 34, 35, 36, 37, 38, 39, 40, 41, 42, 43, 44, 45, 46, 47, 48, 49, 50, 51, 52, 53, 54, 55, 56, 57, 58, 59, 60, 61, 62, 63, 64, 65, 66, 67, 68, 69, 70, 71, 72, 73, 74, 75, 76, 77, 78, 79, 80, 81, 82, 83, 84, 85, 86, 87, 88, 89, 90, 91, 92, 93, 94, 95] (by decide +kernel) (by decide +kernel)
set_option maxRecDepth 20000 in
theorem gX8_pillar_X8_plans : GoodIn wsX8_pillar (wsV RX8 74 RX8 yX8_plans wsX8_plans) := goodIn_app (goodIn_of _ (by decide +kernel)) ggX8_pillar_X8_plans
theorem dX8_pillar_0 : decode cX8_pillar 0 = .ok (.aload_n 0, 1) := by decide +kernel
theorem dX8_pillar_1 : decode cX8_pillar 1 = .ok (.iload_n 1, 1) := by decide +kernel
theorem dX8_pillar_2 : decode cX8_pillar 2 = .ok (.iconst 0, 1) := by decide +kernel
theorem dX8_pillar_3 : decode cX8_pillar 3 = .ok (.bipush 11, 2) := by decide +kernel
theorem dX8_pillar_5 : decode cX8_pillar 5 = .ok (.invokevirtual 125, 3) := by decide +kernel
theorem dX8_pillar_8 : decode cX8_pillar 8 = .ok (.ifCond .eq 18, 3) := by decide +kernel
theorem dX8_pillar_11 : decode cX8_pillar 11 = .ok (.aload_n 0, 1) := by decide +kernel
theorem dX8_pillar_12 : decode cX8_pillar 12 = .ok (.iload_n 2, 1) := by decide +kernel
theorem dX8_pillar_13 : decode cX8_pillar 13 = .ok (.iconst 0, 1) := by decide +kernel
theorem dX8_pillar_14 : decode cX8_pillar 14 = .ok (.bipush 7, 2) := by decide +kernel
theorem dX8_pillar_16 : decode cX8_pillar 16 = .ok (.invokevirtual 125, 3) := by decide +kernel
theorem dX8_pillar_19 : decode cX8_pillar 19 = .ok (.ifCond .eq 7, 3) := by decide +kernel
theorem dX8_pillar_22 : decode cX8_pillar 22 = .ok (.iconst 1, 1) := by decide +kernel
theorem dX8_pillar_23 : decode cX8_pillar 23 = .ok (.goto 4, 3) := by decide +kernel
theorem dX8_pillar_26 : decode cX8_pillar 26 = .ok (.iconst 0, 1) := by decide +kernel
theorem dX8_pillar_27 : decode cX8_pillar 27 = .ok (.istore 4, 2) := by decide +kernel
theorem dX8_pillar_29 : decode cX8_pillar 29 = .ok (.aload_n 0, 1) := by decide +kernel
theorem dX8_pillar_30 : decode cX8_pillar 30 = .ok (.iload 4, 2) := by decide +kernel
theorem dX8_pillar_32 : decode cX8_pillar 32 = .ok (.ifCond .ne 7, 3) := by decide +kernel
theorem dX8_pillar_35 : decode cX8_pillar 35 = .ok (.iconst 1, 1) := by decide +kernel
theorem dX8_pillar_36 : decode cX8_pillar 36 = .ok (.goto 15, 3) := by decide +kernel
theorem dX8_pillar_39 : decode cX8_pillar 39 = .ok (.aload_n 0, 1) := by decide +kernel
theorem dX8_pillar_40 : decode cX8_pillar 40 = .ok (.getfield 129, 3) := by decide +kernel
theorem dX8_pillar_43 : decode cX8_pillar 43 = .ok (.ifCond .eq 7, 3) := by decide +kernel
theorem dX8_pillar_46 : decode cX8_pillar 46 = .ok (.iconst 2, 1) := by decide +kernel
theorem dX8_pillar_47 : decode cX8_pillar 47 = .ok (.goto 4, 3) := by decide +kernel
theorem dX8_pillar_50 : decode cX8_pillar 50 = .ok (.iconst 0, 1) := by decide +kernel
theorem dX8_pillar_51 : decode cX8_pillar 51 = .ok (.invokevirtual 133, 3) := by decide +kernel
theorem dX8_pillar_54 : decode cX8_pillar 54 = .ok (.ifCond .eq 5, 3) := by decide +kernel
theorem dX8_pillar_57 : decode cX8_pillar 57 = .ok (.iconst 0, 1) := by decide +kernel
theorem dX8_pillar_58 : decode cX8_pillar 58 = .ok (.ireturn, 1) := by decide +kernel
theorem dX8_pillar_59 : decode cX8_pillar 59 = .ok (.aload_n 0, 1) := by decide +kernel
theorem dX8_pillar_60 : decode cX8_pillar 60 = .ok (.getfield 16, 3) := by decide +kernel
theorem dX8_pillar_63 : decode cX8_pillar 63 = .ok (.bipush 12, 2) := by decide +kernel
theorem dX8_pillar_65 : decode cX8_pillar 65 = .ok (.iload_n 2, 1) := by decide +kernel
theorem dX8_pillar_66 : decode cX8_pillar 66 = .ok (.imul, 1) := by decide +kernel
theorem dX8_pillar_67 : decode cX8_pillar 67 = .ok (.iload_n 1, 1) := by decide +kernel
theorem dX8_pillar_68 : decode cX8_pillar 68 = .ok (.iadd, 1) := by decide +kernel
theorem dX8_pillar_69 : decode cX8_pillar 69 = .ok (.iaload, 1) := by decide +kernel
theorem dX8_pillar_70 : decode cX8_pillar 70 = .ok (.iconst 1, 1) := by decide +kernel
theorem dX8_pillar_71 : decode cX8_pillar 71 = .ok (.if_icmp .ne 7, 3) := by decide +kernel
theorem dX8_pillar_74 : decode cX8_pillar 74 = .ok (.iconst 1, 1) := by decide +kernel
theorem dX8_pillar_75 : decode cX8_pillar 75 = .ok (.goto 4, 3) := by decide +kernel
theorem dX8_pillar_78 : decode cX8_pillar 78 = .ok (.iconst 0, 1) := by decide +kernel
theorem dX8_pillar_79 : decode cX8_pillar 79 = .ok (.istore 5, 2) := by decide +kernel
theorem dX8_pillar_81 : decode cX8_pillar 81 = .ok (.aload_n 0, 1) := by decide +kernel
theorem dX8_pillar_82 : decode cX8_pillar 82 = .ok (.getfield 16, 3) := by decide +kernel
theorem dX8_pillar_85 : decode cX8_pillar 85 = .ok (.bipush 12, 2) := by decide +kernel
theorem dX8_pillar_87 : decode cX8_pillar 87 = .ok (.iload_n 2, 1) := by decide +kernel
theorem dX8_pillar_88 : decode cX8_pillar 88 = .ok (.imul, 1) := by decide +kernel
theorem dX8_pillar_89 : decode cX8_pillar 89 = .ok (.iload_n 1, 1) := by decide +kernel
theorem dX8_pillar_90 : decode cX8_pillar 90 = .ok (.iadd, 1) := by decide +kernel
theorem dX8_pillar_91 : decode cX8_pillar 91 = .ok (.iload_n 3, 1) := by decide +kernel
theorem dX8_pillar_92 : decode cX8_pillar 92 = .ok (.ifCond .eq 7, 3) := by decide +kernel
theorem dX8_pillar_95 : decode cX8_pillar 95 = .ok (.iconst 1, 1) := by decide +kernel
theorem dX8_pillar_96 : decode cX8_pillar 96 = .ok (.goto 4, 3) := by decide +kernel
theorem dX8_pillar_99 : decode cX8_pillar 99 = .ok (.iconst 0, 1) := by decide +kernel
theorem dX8_pillar_100 : decode cX8_pillar 100 = .ok (.iastore, 1) := by decide +kernel
theorem dX8_pillar_101 : decode cX8_pillar 101 = .ok (.aload_n 0, 1) := by decide +kernel
theorem dX8_pillar_102 : decode cX8_pillar 102 = .ok (.invokevirtual 74, 3) := by decide +kernel
theorem dX8_pillar_105 : decode cX8_pillar 105 = .ok (.iload 5, 2) := by decide +kernel
theorem dX8_pillar_107 : decode cX8_pillar 107 = .ok (.ireturn, 1) := by decide +kernel
set_option maxRecDepth 20000 in
theorem ggX8_door_X8_in : GoodIn wsX8_door wsX8_in := goodIn_r _ [9] (by decide +kernel) (by decide +kernel)
set_option maxRecDepth 20000 in
theorem gX8_door_X8_in : GoodIn wsX8_door (wsV RX8 125 RX8 yX8_in wsX8_in) := goodIn_app (goodIn_of _ (by decide +kernel)) ggX8_door_X8_in
set_option maxRecDepth 20000 in
theorem ggX8_door_X8_holds : GoodIn wsX8_door wsX8_holds := goodIn_r _ [13, 14, 66, 67, 68, 69, 70, 71, 72, 73, 74, 75, 76, 77, 78, 79, 80, 81, 82, 83, 84, 85, 86, 87, 88, 89, 90, 91, 92, 93, 94, 95, 96] (by decide +kernel) (by decide +kernel)
set_option maxRecDepth 20000 in
theorem gX8_door_X8_holds : GoodIn wsX8_door (wsV RX8 133 RX8 yX8_holds wsX8_holds) := goodIn_app (goodIn_of _ (by decide +kernel)) ggX8_door_X8_holds
set_option maxRecDepth 20000 in
theorem ggX8_door_X8_plans : GoodIn wsX8_door wsX8_plans := goodIn_r _ [18, 4, 19, 20, 21, 22, 23, 24, 25, 26, 27, 28, 29, 30, 31, 8, 32, 33, 3, 34, 35, 36, 37, 38, 39, 40, 41, 42, 43, 44, 45, 46, 47, 48, 49, 50, 51, 52, 53, 54, 55, 56, 57, 58, 59, 60, 61, 62, 63, 64, 65, 66, 67, 68, 69, 70, 71, 72, 73, 74, 75, 76, 77, 78, 79, 80, 81, 82, 83, 84, 85, 86, 87, 88, 89, 90, 91, 92, 93, 94, 95, 96] (by decide +kernel) (by decide +kernel)
set_option maxRecDepth 20000 in
theorem gX8_door_X8_plans : GoodIn wsX8_door (wsV RX8 74 RX8 yX8_plans wsX8_plans) := goodIn_app (goodIn_of _ (by decide +kernel)) ggX8_door_X8_plans
theorem dX8_door_0 : decode cX8_door 0 = .ok (.aload_n 0, 1) := by decide +kernel
theorem dX8_door_1 : decode cX8_door 1 = .ok (.aload_n 0, 1) := by decide +kernel
theorem dX8_door_2 : decode cX8_door 2 = .ok (.iload_n 1, 1) := by decide +kernel
theorem dX8_door_3 : decode cX8_door 3 = .ok (.iconst 0, 1) := by decide +kernel
theorem dX8_door_4 : decode cX8_door 4 = .ok (.bipush 10, 2) := by decide +kernel
theorem dX8_door_6 : decode cX8_door 6 = .ok (.invokevirtual 125, 3) := by decide +kernel
theorem dX8_door_9 : decode cX8_door 9 = .ok (.ifCond .eq 7, 3) := by decide +kernel
theorem dX8_door_12 : decode cX8_door 12 = .ok (.iconst 0, 1) := by decide +kernel
theorem dX8_door_13 : decode cX8_door 13 = .ok (.goto 4, 3) := by decide +kernel
theorem dX8_door_16 : decode cX8_door 16 = .ok (.iconst 1, 1) := by decide +kernel
theorem dX8_door_17 : decode cX8_door 17 = .ok (.invokevirtual 133, 3) := by decide +kernel
theorem dX8_door_20 : decode cX8_door 20 = .ok (.ifCond .eq 5, 3) := by decide +kernel
theorem dX8_door_23 : decode cX8_door 23 = .ok (.iconst (-1), 1) := by decide +kernel
theorem dX8_door_24 : decode cX8_door 24 = .ok (.ireturn, 1) := by decide +kernel
theorem dX8_door_25 : decode cX8_door 25 = .ok (.aload_n 0, 1) := by decide +kernel
theorem dX8_door_26 : decode cX8_door 26 = .ok (.iload_n 1, 1) := by decide +kernel
theorem dX8_door_27 : decode cX8_door 27 = .ok (.putfield 136, 3) := by decide +kernel
theorem dX8_door_30 : decode cX8_door 30 = .ok (.aload_n 0, 1) := by decide +kernel
theorem dX8_door_31 : decode cX8_door 31 = .ok (.getfield 65, 3) := by decide +kernel
theorem dX8_door_34 : decode cX8_door 34 = .ok (.iconst 0, 1) := by decide +kernel
theorem dX8_door_35 : decode cX8_door 35 = .ok (.iaload, 1) := by decide +kernel
theorem dX8_door_36 : decode cX8_door 36 = .ok (.ifCond .ge 50, 3) := by decide +kernel
theorem dX8_door_39 : decode cX8_door 39 = .ok (.iconst 0, 1) := by decide +kernel
theorem dX8_door_40 : decode cX8_door 40 = .ok (.istore_n 2, 1) := by decide +kernel
theorem dX8_door_41 : decode cX8_door 41 = .ok (.iload_n 2, 1) := by decide +kernel
theorem dX8_door_42 : decode cX8_door 42 = .ok (.bipush 12, 2) := by decide +kernel
theorem dX8_door_44 : decode cX8_door 44 = .ok (.if_icmp .ge 38, 3) := by decide +kernel
theorem dX8_door_47 : decode cX8_door 47 = .ok (.aload_n 0, 1) := by decide +kernel
theorem dX8_door_48 : decode cX8_door 48 = .ok (.getfield 20, 3) := by decide +kernel
theorem dX8_door_51 : decode cX8_door 51 = .ok (.iload_n 2, 1) := by decide +kernel
theorem dX8_door_52 : decode cX8_door 52 = .ok (.iload_n 2, 1) := by decide +kernel
theorem dX8_door_53 : decode cX8_door 53 = .ok (.aload_n 0, 1) := by decide +kernel
theorem dX8_door_54 : decode cX8_door 54 = .ok (.getfield 136, 3) := by decide +kernel
theorem dX8_door_57 : decode cX8_door 57 = .ok (.if_icmp .eq 13, 3) := by decide +kernel
theorem dX8_door_60 : decode cX8_door 60 = .ok (.iload_n 2, 1) := by decide +kernel
theorem dX8_door_61 : decode cX8_door 61 = .ok (.aload_n 0, 1) := by decide +kernel
theorem dX8_door_62 : decode cX8_door 62 = .ok (.getfield 136, 3) := by decide +kernel
theorem dX8_door_65 : decode cX8_door 65 = .ok (.iconst 1, 1) := by decide +kernel
theorem dX8_door_66 : decode cX8_door 66 = .ok (.iadd, 1) := by decide +kernel
theorem dX8_door_67 : decode cX8_door 67 = .ok (.if_icmp .ne 7, 3) := by decide +kernel
theorem dX8_door_70 : decode cX8_door 70 = .ok (.iconst 1, 1) := by decide +kernel
theorem dX8_door_71 : decode cX8_door 71 = .ok (.goto 4, 3) := by decide +kernel
theorem dX8_door_74 : decode cX8_door 74 = .ok (.iconst 0, 1) := by decide +kernel
theorem dX8_door_75 : decode cX8_door 75 = .ok (.iastore, 1) := by decide +kernel
theorem dX8_door_76 : decode cX8_door 76 = .ok (.iinc 2 1, 3) := by decide +kernel
theorem dX8_door_79 : decode cX8_door 79 = .ok (.goto (-38), 3) := by decide +kernel
theorem dX8_door_82 : decode cX8_door 82 = .ok (.aload_n 0, 1) := by decide +kernel
theorem dX8_door_83 : decode cX8_door 83 = .ok (.invokevirtual 74, 3) := by decide +kernel
theorem dX8_door_86 : decode cX8_door 86 = .ok (.aload_n 0, 1) := by decide +kernel
theorem dX8_door_87 : decode cX8_door 87 = .ok (.getfield 94, 3) := by decide +kernel
theorem dX8_door_90 : decode cX8_door 90 = .ok (.ireturn, 1) := by decide +kernel
set_option maxRecDepth 20000 in
theorem ggX8_ofPiece_X8_in : GoodIn wsX8_ofPiece wsX8_in := goodIn_r _ [10] (by decide +kernel) (by decide +kernel)
set_option maxRecDepth 20000 in
theorem gX8_ofPiece_X8_in : GoodIn wsX8_ofPiece (wsV RX8 125 RX8 yX8_in wsX8_in) := goodIn_app (goodIn_of _ (by decide +kernel)) ggX8_ofPiece_X8_in
set_option maxRecDepth 20000 in
theorem ggX8_ofPiece_X8_holds : GoodIn wsX8_ofPiece wsX8_holds := goodIn_r _ [14, 15, 26, 27, 28, 29, 30, 31, 32, 33, 34, 35, 36, 37, 38, 39, 40, 41, 42, 43, 44, 45, 46, 47, 48, 49, 50, 51, 52, 53, 54, 55, 56] (by decide +kernel) (by decide +kernel)
set_option maxRecDepth 20000 in
theorem gX8_ofPiece_X8_holds : GoodIn wsX8_ofPiece (wsV RX8 133 RX8 yX8_holds wsX8_holds) := goodIn_app (goodIn_of _ (by decide +kernel)) ggX8_ofPiece_X8_holds
set_option maxRecDepth 20000 in
theorem ggX8_ofPiece_X8_stripOfRow : GoodIn wsX8_ofPiece wsX8_stripOfRow := goodIn_r _ [19, 20, 21, 22, 23, 24, 9, 25, 26, 27, 28, 29, 30, 31, 32, 33, 34, 35, 36, 37, 38, 39, 40, 41, 42, 43, 44, 45, 46, 47, 48, 49, 50, 51, 52, 53, 54, 55, 56] (by decide +kernel) (by decide +kernel)
set_option maxRecDepth 20000 in
theorem gX8_ofPiece_X8_stripOfRow : GoodIn wsX8_ofPiece (wsV RX8 139 RX8 yX8_stripOfRow wsX8_stripOfRow) := goodIn_app (goodIn_of _ (by decide +kernel)) ggX8_ofPiece_X8_stripOfRow
theorem dX8_ofPiece_0 : decode cX8_ofPiece 0 = .ok (.aload_n 0, 1) := by decide +kernel
theorem dX8_ofPiece_1 : decode cX8_ofPiece 1 = .ok (.aload_n 0, 1) := by decide +kernel
theorem dX8_ofPiece_2 : decode cX8_ofPiece 2 = .ok (.iload_n 1, 1) := by decide +kernel
theorem dX8_ofPiece_3 : decode cX8_ofPiece 3 = .ok (.iconst 0, 1) := by decide +kernel
theorem dX8_ofPiece_4 : decode cX8_ofPiece 4 = .ok (.aload_n 0, 1) := by decide +kernel
theorem dX8_ofPiece_5 : decode cX8_ofPiece 5 = .ok (.getfield 94, 3) := by decide +kernel
theorem dX8_ofPiece_8 : decode cX8_ofPiece 8 = .ok (.iconst 1, 1) := by decide +kernel
theorem dX8_ofPiece_9 : decode cX8_ofPiece 9 = .ok (.isub, 1) := by decide +kernel
theorem dX8_ofPiece_10 : decode cX8_ofPiece 10 = .ok (.invokevirtual 125, 3) := by decide +kernel
theorem dX8_ofPiece_13 : decode cX8_ofPiece 13 = .ok (.ifCond .ne 7, 3) := by decide +kernel
theorem dX8_ofPiece_16 : decode cX8_ofPiece 16 = .ok (.iconst 1, 1) := by decide +kernel
theorem dX8_ofPiece_17 : decode cX8_ofPiece 17 = .ok (.goto 18, 3) := by decide +kernel
theorem dX8_ofPiece_20 : decode cX8_ofPiece 20 = .ok (.aload_n 0, 1) := by decide +kernel
theorem dX8_ofPiece_21 : decode cX8_ofPiece 21 = .ok (.iload_n 2, 1) := by decide +kernel
theorem dX8_ofPiece_22 : decode cX8_ofPiece 22 = .ok (.iconst 0, 1) := by decide +kernel
theorem dX8_ofPiece_23 : decode cX8_ofPiece 23 = .ok (.iconst 5, 1) := by decide +kernel
theorem dX8_ofPiece_24 : decode cX8_ofPiece 24 = .ok (.invokevirtual 125, 3) := by decide +kernel
theorem dX8_ofPiece_27 : decode cX8_ofPiece 27 = .ok (.ifCond .eq 7, 3) := by decide +kernel
theorem dX8_ofPiece_30 : decode cX8_ofPiece 30 = .ok (.iconst 0, 1) := by decide +kernel
theorem dX8_ofPiece_31 : decode cX8_ofPiece 31 = .ok (.goto 4, 3) := by decide +kernel
theorem dX8_ofPiece_34 : decode cX8_ofPiece 34 = .ok (.iconst 2, 1) := by decide +kernel
theorem dX8_ofPiece_35 : decode cX8_ofPiece 35 = .ok (.invokevirtual 133, 3) := by decide +kernel
theorem dX8_ofPiece_38 : decode cX8_ofPiece 38 = .ok (.ifCond .eq 5, 3) := by decide +kernel
theorem dX8_ofPiece_41 : decode cX8_ofPiece 41 = .ok (.iconst (-1), 1) := by decide +kernel
theorem dX8_ofPiece_42 : decode cX8_ofPiece 42 = .ok (.ireturn, 1) := by decide +kernel
theorem dX8_ofPiece_43 : decode cX8_ofPiece 43 = .ok (.iload_n 2, 1) := by decide +kernel
theorem dX8_ofPiece_44 : decode cX8_ofPiece 44 = .ok (.tableswitch 84 0 4 #[36, 43, 53, 63, 70], 36) := by decide +kernel
theorem dX8_ofPiece_80 : decode cX8_ofPiece 80 = .ok (.aload_n 0, 1) := by decide +kernel
theorem dX8_ofPiece_81 : decode cX8_ofPiece 81 = .ok (.getfield 23, 3) := by decide +kernel
theorem dX8_ofPiece_84 : decode cX8_ofPiece 84 = .ok (.iload_n 1, 1) := by decide +kernel
theorem dX8_ofPiece_85 : decode cX8_ofPiece 85 = .ok (.iaload, 1) := by decide +kernel
theorem dX8_ofPiece_86 : decode cX8_ofPiece 86 = .ok (.ireturn, 1) := by decide +kernel
theorem dX8_ofPiece_87 : decode cX8_ofPiece 87 = .ok (.aload_n 0, 1) := by decide +kernel
theorem dX8_ofPiece_88 : decode cX8_ofPiece 88 = .ok (.getfield 26, 3) := by decide +kernel
theorem dX8_ofPiece_91 : decode cX8_ofPiece 91 = .ok (.iload_n 1, 1) := by decide +kernel
theorem dX8_ofPiece_92 : decode cX8_ofPiece 92 = .ok (.iaload, 1) := by decide +kernel
theorem dX8_ofPiece_93 : decode cX8_ofPiece 93 = .ok (.bipush 12, 2) := by decide +kernel
theorem dX8_ofPiece_95 : decode cX8_ofPiece 95 = .ok (.irem, 1) := by decide +kernel
theorem dX8_ofPiece_96 : decode cX8_ofPiece 96 = .ok (.ireturn, 1) := by decide +kernel
theorem dX8_ofPiece_97 : decode cX8_ofPiece 97 = .ok (.aload_n 0, 1) := by decide +kernel
theorem dX8_ofPiece_98 : decode cX8_ofPiece 98 = .ok (.getfield 26, 3) := by decide +kernel
theorem dX8_ofPiece_101 : decode cX8_ofPiece 101 = .ok (.iload_n 1, 1) := by decide +kernel
theorem dX8_ofPiece_102 : decode cX8_ofPiece 102 = .ok (.iaload, 1) := by decide +kernel
theorem dX8_ofPiece_103 : decode cX8_ofPiece 103 = .ok (.bipush 12, 2) := by decide +kernel
theorem dX8_ofPiece_105 : decode cX8_ofPiece 105 = .ok (.idiv, 1) := by decide +kernel
theorem dX8_ofPiece_106 : decode cX8_ofPiece 106 = .ok (.ireturn, 1) := by decide +kernel
theorem dX8_ofPiece_107 : decode cX8_ofPiece 107 = .ok (.aload_n 0, 1) := by decide +kernel
theorem dX8_ofPiece_108 : decode cX8_ofPiece 108 = .ok (.getfield 29, 3) := by decide +kernel
theorem dX8_ofPiece_111 : decode cX8_ofPiece 111 = .ok (.iload_n 1, 1) := by decide +kernel
theorem dX8_ofPiece_112 : decode cX8_ofPiece 112 = .ok (.iaload, 1) := by decide +kernel
theorem dX8_ofPiece_113 : decode cX8_ofPiece 113 = .ok (.ireturn, 1) := by decide +kernel
theorem dX8_ofPiece_114 : decode cX8_ofPiece 114 = .ok (.aload_n 0, 1) := by decide +kernel
theorem dX8_ofPiece_115 : decode cX8_ofPiece 115 = .ok (.aload_n 0, 1) := by decide +kernel
theorem dX8_ofPiece_116 : decode cX8_ofPiece 116 = .ok (.getfield 26, 3) := by decide +kernel
theorem dX8_ofPiece_119 : decode cX8_ofPiece 119 = .ok (.iload_n 1, 1) := by decide +kernel
theorem dX8_ofPiece_120 : decode cX8_ofPiece 120 = .ok (.iaload, 1) := by decide +kernel
theorem dX8_ofPiece_121 : decode cX8_ofPiece 121 = .ok (.bipush 12, 2) := by decide +kernel
theorem dX8_ofPiece_123 : decode cX8_ofPiece 123 = .ok (.idiv, 1) := by decide +kernel
theorem dX8_ofPiece_124 : decode cX8_ofPiece 124 = .ok (.invokevirtual 139, 3) := by decide +kernel
theorem dX8_ofPiece_127 : decode cX8_ofPiece 127 = .ok (.ireturn, 1) := by decide +kernel
theorem dX8_ofPiece_128 : decode cX8_ofPiece 128 = .ok (.aload_n 0, 1) := by decide +kernel
theorem dX8_ofPiece_129 : decode cX8_ofPiece 129 = .ok (.getfield 32, 3) := by decide +kernel
theorem dX8_ofPiece_132 : decode cX8_ofPiece 132 = .ok (.iload_n 1, 1) := by decide +kernel
theorem dX8_ofPiece_133 : decode cX8_ofPiece 133 = .ok (.iaload, 1) := by decide +kernel
theorem dX8_ofPiece_134 : decode cX8_ofPiece 134 = .ok (.ireturn, 1) := by decide +kernel
set_option maxRecDepth 20000 in
theorem ggX8_pieceAt_X8_in : GoodIn wsX8_pieceAt wsX8_in := goodIn_r _ [6] (by decide +kernel) (by decide +kernel)
set_option maxRecDepth 20000 in
theorem gX8_pieceAt_X8_in : GoodIn wsX8_pieceAt (wsV RX8 125 RX8 yX8_in wsX8_in) := goodIn_app (goodIn_of _ (by decide +kernel)) ggX8_pieceAt_X8_in
set_option maxRecDepth 20000 in
theorem ggX8_pieceAt_X8_holds : GoodIn wsX8_pieceAt wsX8_holds := goodIn_r _ [10, 11, 12, 13, 14, 15, 16, 17, 18, 19, 20, 21, 22, 23, 24, 25, 26, 27, 28, 29, 30, 31, 32, 33, 34, 35, 36, 37, 38, 39, 40, 41, 42] (by decide +kernel) (by decide +kernel)
set_option maxRecDepth 20000 in
theorem gX8_pieceAt_X8_holds : GoodIn wsX8_pieceAt (wsV RX8 133 RX8 yX8_holds wsX8_holds) := goodIn_app (goodIn_of _ (by decide +kernel)) ggX8_pieceAt_X8_holds
theorem dX8_pieceAt_0 : decode cX8_pieceAt 0 = .ok (.aload_n 0, 1) := by decide +kernel
theorem dX8_pieceAt_1 : decode cX8_pieceAt 1 = .ok (.aload_n 0, 1) := by decide +kernel
theorem dX8_pieceAt_2 : decode cX8_pieceAt 2 = .ok (.iload_n 1, 1) := by decide +kernel
theorem dX8_pieceAt_3 : decode cX8_pieceAt 3 = .ok (.iconst 0, 1) := by decide +kernel
theorem dX8_pieceAt_4 : decode cX8_pieceAt 4 = .ok (.bipush 11, 2) := by decide +kernel
theorem dX8_pieceAt_6 : decode cX8_pieceAt 6 = .ok (.invokevirtual 125, 3) := by decide +kernel
theorem dX8_pieceAt_9 : decode cX8_pieceAt 9 = .ok (.ifCond .eq 18, 3) := by decide +kernel
theorem dX8_pieceAt_12 : decode cX8_pieceAt 12 = .ok (.aload_n 0, 1) := by decide +kernel
theorem dX8_pieceAt_13 : decode cX8_pieceAt 13 = .ok (.iload_n 2, 1) := by decide +kernel
theorem dX8_pieceAt_14 : decode cX8_pieceAt 14 = .ok (.iconst 0, 1) := by decide +kernel
theorem dX8_pieceAt_15 : decode cX8_pieceAt 15 = .ok (.bipush 7, 2) := by decide +kernel
theorem dX8_pieceAt_17 : decode cX8_pieceAt 17 = .ok (.invokevirtual 125, 3) := by decide +kernel
theorem dX8_pieceAt_20 : decode cX8_pieceAt 20 = .ok (.ifCond .eq 7, 3) := by decide +kernel
theorem dX8_pieceAt_23 : decode cX8_pieceAt 23 = .ok (.iconst 0, 1) := by decide +kernel
theorem dX8_pieceAt_24 : decode cX8_pieceAt 24 = .ok (.goto 4, 3) := by decide +kernel
theorem dX8_pieceAt_27 : decode cX8_pieceAt 27 = .ok (.iconst 1, 1) := by decide +kernel
theorem dX8_pieceAt_28 : decode cX8_pieceAt 28 = .ok (.invokevirtual 133, 3) := by decide +kernel
theorem dX8_pieceAt_31 : decode cX8_pieceAt 31 = .ok (.ifCond .eq 7, 3) := by decide +kernel
theorem dX8_pieceAt_34 : decode cX8_pieceAt 34 = .ok (.iconst (-1), 1) := by decide +kernel
theorem dX8_pieceAt_35 : decode cX8_pieceAt 35 = .ok (.goto 14, 3) := by decide +kernel
theorem dX8_pieceAt_38 : decode cX8_pieceAt 38 = .ok (.aload_n 0, 1) := by decide +kernel
theorem dX8_pieceAt_39 : decode cX8_pieceAt 39 = .ok (.getfield 47, 3) := by decide +kernel
theorem dX8_pieceAt_42 : decode cX8_pieceAt 42 = .ok (.bipush 12, 2) := by decide +kernel
theorem dX8_pieceAt_44 : decode cX8_pieceAt 44 = .ok (.iload_n 2, 1) := by decide +kernel
theorem dX8_pieceAt_45 : decode cX8_pieceAt 45 = .ok (.imul, 1) := by decide +kernel
theorem dX8_pieceAt_46 : decode cX8_pieceAt 46 = .ok (.iload_n 1, 1) := by decide +kernel
theorem dX8_pieceAt_47 : decode cX8_pieceAt 47 = .ok (.iadd, 1) := by decide +kernel
theorem dX8_pieceAt_48 : decode cX8_pieceAt 48 = .ok (.iaload, 1) := by decide +kernel
theorem dX8_pieceAt_49 : decode cX8_pieceAt 49 = .ok (.ireturn, 1) := by decide +kernel
set_option maxRecDepth 20000 in
theorem ggX8_piecesAnew_X8_holds : GoodIn wsX8_piecesAnew wsX8_holds := goodIn_r _ [6, 7, 8, 9, 10, 11, 12, 13, 14, 15, 16, 17, 18, 19, 20, 21, 22, 23, 24, 25, 26, 27, 28, 29, 30, 31, 32, 33, 34, 35, 36, 37, 38] (by decide +kernel) (by decide +kernel)
set_option maxRecDepth 20000 in
theorem gX8_piecesAnew_X8_holds : GoodIn wsX8_piecesAnew (wsV RX8 133 RX8 yX8_holds wsX8_holds) := goodIn_app (goodIn_of _ (by decide +kernel)) ggX8_piecesAnew_X8_holds
theorem dX8_piecesAnew_0 : decode cX8_piecesAnew 0 = .ok (.aload_n 0, 1) := by decide +kernel
theorem dX8_piecesAnew_1 : decode cX8_piecesAnew 1 = .ok (.iconst 0, 1) := by decide +kernel
theorem dX8_piecesAnew_2 : decode cX8_piecesAnew 2 = .ok (.invokevirtual 133, 3) := by decide +kernel
theorem dX8_piecesAnew_5 : decode cX8_piecesAnew 5 = .ok (.pop, 1) := by decide +kernel
theorem dX8_piecesAnew_6 : decode cX8_piecesAnew 6 = .ok (.aload_n 0, 1) := by decide +kernel
theorem dX8_piecesAnew_7 : decode cX8_piecesAnew 7 = .ok (.getfield 94, 3) := by decide +kernel
theorem dX8_piecesAnew_10 : decode cX8_piecesAnew 10 = .ok (.ireturn, 1) := by decide +kernel
set_option maxRecDepth 20000 in
theorem ggX8_tiles_X8_holds : GoodIn wsX8_tiles wsX8_holds := goodIn_r _ [6, 7, 8, 9, 10, 11, 12, 13, 14, 15, 16, 17, 18, 19, 20, 21, 22, 23, 24, 25, 26, 27, 28, 29, 30, 31, 32, 33, 34, 35, 36, 37, 38] (by decide +kernel) (by decide +kernel)
set_option maxRecDepth 20000 in
theorem gX8_tiles_X8_holds : GoodIn wsX8_tiles (wsV RX8 133 RX8 yX8_holds wsX8_holds) := goodIn_app (goodIn_of _ (by decide +kernel)) ggX8_tiles_X8_holds
theorem dX8_tiles_0 : decode cX8_tiles 0 = .ok (.aload_n 0, 1) := by decide +kernel
theorem dX8_tiles_1 : decode cX8_tiles 1 = .ok (.iconst 0, 1) := by decide +kernel
theorem dX8_tiles_2 : decode cX8_tiles 2 = .ok (.invokevirtual 133, 3) := by decide +kernel
theorem dX8_tiles_5 : decode cX8_tiles 5 = .ok (.pop, 1) := by decide +kernel
theorem dX8_tiles_6 : decode cX8_tiles 6 = .ok (.aload_n 0, 1) := by decide +kernel
theorem dX8_tiles_7 : decode cX8_tiles 7 = .ok (.getfield 110, 3) := by decide +kernel
theorem dX8_tiles_10 : decode cX8_tiles 10 = .ok (.ireturn, 1) := by decide +kernel
set_option maxRecDepth 20000 in
theorem ggX8_rest_X8_holds : GoodIn wsX8_rest wsX8_holds := goodIn_r _ [8, 9, 10, 11, 12, 13, 14, 15, 16, 17, 18, 19, 20, 21, 22, 23, 24, 25, 26, 27, 28, 29, 30, 31, 32, 33, 34, 35, 36, 37, 38, 39, 40] (by decide +kernel) (by decide +kernel)
set_option maxRecDepth 20000 in
theorem gX8_rest_X8_holds : GoodIn wsX8_rest (wsV RX8 133 RX8 yX8_holds wsX8_holds) := goodIn_app (goodIn_of _ (by decide +kernel)) ggX8_rest_X8_holds
theorem dX8_rest_0 : decode cX8_rest 0 = .ok (.aload_n 0, 1) := by decide +kernel
theorem dX8_rest_1 : decode cX8_rest 1 = .ok (.iload_n 1, 1) := by decide +kernel
theorem dX8_rest_2 : decode cX8_rest 2 = .ok (.ifCond .ge 7, 3) := by decide +kernel
theorem dX8_rest_5 : decode cX8_rest 5 = .ok (.iconst 1, 1) := by decide +kernel
theorem dX8_rest_6 : decode cX8_rest 6 = .ok (.goto 4, 3) := by decide +kernel
theorem dX8_rest_9 : decode cX8_rest 9 = .ok (.iconst 0, 1) := by decide +kernel
theorem dX8_rest_10 : decode cX8_rest 10 = .ok (.invokevirtual 133, 3) := by decide +kernel
theorem dX8_rest_13 : decode cX8_rest 13 = .ok (.ifCond .eq 5, 3) := by decide +kernel
theorem dX8_rest_16 : decode cX8_rest 16 = .ok (.iconst (-1), 1) := by decide +kernel
theorem dX8_rest_17 : decode cX8_rest 17 = .ok (.ireturn, 1) := by decide +kernel
theorem dX8_rest_18 : decode cX8_rest 18 = .ok (.iload_n 1, 1) := by decide +kernel
theorem dX8_rest_19 : decode cX8_rest 19 = .ok (.aload_n 0, 1) := by decide +kernel
theorem dX8_rest_20 : decode cX8_rest 20 = .ok (.getfield 107, 3) := by decide +kernel
theorem dX8_rest_23 : decode cX8_rest 23 = .ok (.if_icmp .ge 22, 3) := by decide +kernel
theorem dX8_rest_26 : decode cX8_rest 26 = .ok (.bipush 10, 2) := by decide +kernel
theorem dX8_rest_28 : decode cX8_rest 28 = .ok (.aload_n 0, 1) := by decide +kernel
theorem dX8_rest_29 : decode cX8_rest 29 = .ok (.getfield 50, 3) := by decide +kernel
theorem dX8_rest_32 : decode cX8_rest 32 = .ok (.iload_n 1, 1) := by decide +kernel
theorem dX8_rest_33 : decode cX8_rest 33 = .ok (.iaload, 1) := by decide +kernel
theorem dX8_rest_34 : decode cX8_rest 34 = .ok (.imul, 1) := by decide +kernel
theorem dX8_rest_35 : decode cX8_rest 35 = .ok (.aload_n 0, 1) := by decide +kernel
theorem dX8_rest_36 : decode cX8_rest 36 = .ok (.getfield 53, 3) := by decide +kernel
theorem dX8_rest_39 : decode cX8_rest 39 = .ok (.iload_n 1, 1) := by decide +kernel
theorem dX8_rest_40 : decode cX8_rest 40 = .ok (.iaload, 1) := by decide +kernel
theorem dX8_rest_41 : decode cX8_rest 41 = .ok (.iadd, 1) := by decide +kernel
theorem dX8_rest_42 : decode cX8_rest 42 = .ok (.goto 4, 3) := by decide +kernel
theorem dX8_rest_45 : decode cX8_rest 45 = .ok (.iconst (-1), 1) := by decide +kernel
theorem dX8_rest_46 : decode cX8_rest 46 = .ok (.ireturn, 1) := by decide +kernel
set_option maxRecDepth 20000 in
theorem ggX8_crate_X8_in : GoodIn wsX8_crate wsX8_in := goodIn_r _ [8] (by decide +kernel) (by decide +kernel)
set_option maxRecDepth 20000 in
theorem gX8_crate_X8_in : GoodIn wsX8_crate (wsV RX8 125 RX8 yX8_in wsX8_in) := goodIn_app (goodIn_of _ (by decide +kernel)) ggX8_crate_X8_in
set_option maxRecDepth 20000 in
theorem ggX8_crate_X8_holds : GoodIn wsX8_crate wsX8_holds := goodIn_r _ [12, 13, 14, 15, 16, 17, 18, 19, 20, 21, 22, 23, 24, 25, 26, 27, 28, 29, 30, 31, 32, 33, 34, 35, 36, 37, 38, 39, 40, 41, 42, 43, 44] (by decide +kernel) (by decide +kernel)
set_option maxRecDepth 20000 in
theorem gX8_crate_X8_holds : GoodIn wsX8_crate (wsV RX8 133 RX8 yX8_holds wsX8_holds) := goodIn_app (goodIn_of _ (by decide +kernel)) ggX8_crate_X8_holds
theorem dX8_crate_0 : decode cX8_crate 0 = .ok (.aload_n 0, 1) := by decide +kernel
theorem dX8_crate_1 : decode cX8_crate 1 = .ok (.aload_n 0, 1) := by decide +kernel
theorem dX8_crate_2 : decode cX8_crate 2 = .ok (.iload_n 1, 1) := by decide +kernel
theorem dX8_crate_3 : decode cX8_crate 3 = .ok (.iconst 0, 1) := by decide +kernel
theorem dX8_crate_4 : decode cX8_crate 4 = .ok (.bipush 9, 2) := by decide +kernel
theorem dX8_crate_6 : decode cX8_crate 6 = .ok (.invokevirtual 125, 3) := by decide +kernel
theorem dX8_crate_9 : decode cX8_crate 9 = .ok (.ifCond .eq 14, 3) := by decide +kernel
theorem dX8_crate_12 : decode cX8_crate 12 = .ok (.aload_n 0, 1) := by decide +kernel
theorem dX8_crate_13 : decode cX8_crate 13 = .ok (.iload_n 2, 1) := by decide +kernel
theorem dX8_crate_14 : decode cX8_crate 14 = .ok (.iconst 1, 1) := by decide +kernel
theorem dX8_crate_15 : decode cX8_crate 15 = .ok (.bipush 100, 2) := by decide +kernel
theorem dX8_crate_17 : decode cX8_crate 17 = .ok (.invokevirtual 125, 3) := by decide +kernel
theorem dX8_crate_20 : decode cX8_crate 20 = .ok (.ifCond .ne 7, 3) := by decide +kernel
theorem dX8_crate_23 : decode cX8_crate 23 = .ok (.iconst 1, 1) := by decide +kernel
theorem dX8_crate_24 : decode cX8_crate 24 = .ok (.goto 17, 3) := by decide +kernel
theorem dX8_crate_27 : decode cX8_crate 27 = .ok (.aload_n 0, 1) := by decide +kernel
theorem dX8_crate_28 : decode cX8_crate 28 = .ok (.getfield 142, 3) := by decide +kernel
theorem dX8_crate_31 : decode cX8_crate 31 = .ok (.bipush 20, 2) := by decide +kernel
theorem dX8_crate_33 : decode cX8_crate 33 = .ok (.if_icmp .ne 7, 3) := by decide +kernel
theorem dX8_crate_36 : decode cX8_crate 36 = .ok (.iconst 2, 1) := by decide +kernel
theorem dX8_crate_37 : decode cX8_crate 37 = .ok (.goto 4, 3) := by decide +kernel
theorem dX8_crate_40 : decode cX8_crate 40 = .ok (.iconst 0, 1) := by decide +kernel
theorem dX8_crate_41 : decode cX8_crate 41 = .ok (.invokevirtual 133, 3) := by decide +kernel
theorem dX8_crate_44 : decode cX8_crate 44 = .ok (.ifCond .eq 5, 3) := by decide +kernel
theorem dX8_crate_47 : decode cX8_crate 47 = .ok (.iconst (-1), 1) := by decide +kernel
theorem dX8_crate_48 : decode cX8_crate 48 = .ok (.ireturn, 1) := by decide +kernel
theorem dX8_crate_49 : decode cX8_crate 49 = .ok (.aload_n 0, 1) := by decide +kernel
theorem dX8_crate_50 : decode cX8_crate 50 = .ok (.getfield 59, 3) := by decide +kernel
theorem dX8_crate_53 : decode cX8_crate 53 = .ok (.aload_n 0, 1) := by decide +kernel
theorem dX8_crate_54 : decode cX8_crate 54 = .ok (.getfield 142, 3) := by decide +kernel
theorem dX8_crate_57 : decode cX8_crate 57 = .ok (.iload_n 1, 1) := by decide +kernel
theorem dX8_crate_58 : decode cX8_crate 58 = .ok (.iastore, 1) := by decide +kernel
theorem dX8_crate_59 : decode cX8_crate 59 = .ok (.aload_n 0, 1) := by decide +kernel
theorem dX8_crate_60 : decode cX8_crate 60 = .ok (.getfield 62, 3) := by decide +kernel
theorem dX8_crate_63 : decode cX8_crate 63 = .ok (.aload_n 0, 1) := by decide +kernel
theorem dX8_crate_64 : decode cX8_crate 64 = .ok (.getfield 142, 3) := by decide +kernel
theorem dX8_crate_67 : decode cX8_crate 67 = .ok (.iload_n 2, 1) := by decide +kernel
theorem dX8_crate_68 : decode cX8_crate 68 = .ok (.iastore, 1) := by decide +kernel
theorem dX8_crate_69 : decode cX8_crate 69 = .ok (.aload_n 0, 1) := by decide +kernel
theorem dX8_crate_70 : decode cX8_crate 70 = .ok (.dup, 1) := by decide +kernel
theorem dX8_crate_71 : decode cX8_crate 71 = .ok (.getfield 142, 3) := by decide +kernel
theorem dX8_crate_74 : decode cX8_crate 74 = .ok (.iconst 1, 1) := by decide +kernel
theorem dX8_crate_75 : decode cX8_crate 75 = .ok (.iadd, 1) := by decide +kernel
theorem dX8_crate_76 : decode cX8_crate 76 = .ok (.putfield 142, 3) := by decide +kernel
theorem dX8_crate_79 : decode cX8_crate 79 = .ok (.aload_n 0, 1) := by decide +kernel
theorem dX8_crate_80 : decode cX8_crate 80 = .ok (.getfield 142, 3) := by decide +kernel
theorem dX8_crate_83 : decode cX8_crate 83 = .ok (.ireturn, 1) := by decide +kernel
set_option maxRecDepth 20000 in
theorem ggX8_fetch_X8_in : GoodIn wsX8_fetch wsX8_in := goodIn_r _ [9] (by decide +kernel) (by decide +kernel)
set_option maxRecDepth 20000 in
theorem gX8_fetch_X8_in : GoodIn wsX8_fetch (wsV RX8 125 RX8 yX8_in wsX8_in) := goodIn_app (goodIn_of _ (by decide +kernel)) ggX8_fetch_X8_in
set_option maxRecDepth 20000 in
theorem ggX8_fetch_X8_holds : GoodIn wsX8_fetch wsX8_holds := goodIn_r _ [13, 14, 15, 16, 17, 18, 19, 20, 21, 22, 23, 24, 25, 26, 27, 28, 29, 30, 31, 32, 33, 34, 35, 36, 37, 38, 39, 40, 41, 42, 43, 44, 45] (by decide +kernel) (by decide +kernel)
set_option maxRecDepth 20000 in
theorem gX8_fetch_X8_holds : GoodIn wsX8_fetch (wsV RX8 133 RX8 yX8_holds wsX8_holds) := goodIn_app (goodIn_of _ (by decide +kernel)) ggX8_fetch_X8_holds
theorem dX8_fetch_0 : decode cX8_fetch 0 = .ok (.aload_n 0, 1) := by decide +kernel
theorem dX8_fetch_1 : decode cX8_fetch 1 = .ok (.aload_n 0, 1) := by decide +kernel
theorem dX8_fetch_2 : decode cX8_fetch 2 = .ok (.iload_n 1, 1) := by decide +kernel
theorem dX8_fetch_3 : decode cX8_fetch 3 = .ok (.iconst 0, 1) := by decide +kernel
theorem dX8_fetch_4 : decode cX8_fetch 4 = .ok (.bipush 9, 2) := by decide +kernel
theorem dX8_fetch_6 : decode cX8_fetch 6 = .ok (.invokevirtual 125, 3) := by decide +kernel
theorem dX8_fetch_9 : decode cX8_fetch 9 = .ok (.ifCond .eq 7, 3) := by decide +kernel
theorem dX8_fetch_12 : decode cX8_fetch 12 = .ok (.iconst 0, 1) := by decide +kernel
theorem dX8_fetch_13 : decode cX8_fetch 13 = .ok (.goto 4, 3) := by decide +kernel
theorem dX8_fetch_16 : decode cX8_fetch 16 = .ok (.iconst 1, 1) := by decide +kernel
theorem dX8_fetch_17 : decode cX8_fetch 17 = .ok (.invokevirtual 133, 3) := by decide +kernel
theorem dX8_fetch_20 : decode cX8_fetch 20 = .ok (.ifCond .eq 5, 3) := by decide +kernel
theorem dX8_fetch_23 : decode cX8_fetch 23 = .ok (.iconst (-1), 1) := by decide +kernel
theorem dX8_fetch_24 : decode cX8_fetch 24 = .ok (.ireturn, 1) := by decide +kernel
theorem dX8_fetch_25 : decode cX8_fetch 25 = .ok (.iconst (-1), 1) := by decide +kernel
theorem dX8_fetch_26 : decode cX8_fetch 26 = .ok (.istore_n 2, 1) := by decide +kernel
theorem dX8_fetch_27 : decode cX8_fetch 27 = .ok (.iconst 0, 1) := by decide +kernel
theorem dX8_fetch_28 : decode cX8_fetch 28 = .ok (.istore_n 3, 1) := by decide +kernel
theorem dX8_fetch_29 : decode cX8_fetch 29 = .ok (.iload_n 3, 1) := by decide +kernel
theorem dX8_fetch_30 : decode cX8_fetch 30 = .ok (.aload_n 0, 1) := by decide +kernel
theorem dX8_fetch_31 : decode cX8_fetch 31 = .ok (.getfield 142, 3) := by decide +kernel
theorem dX8_fetch_34 : decode cX8_fetch 34 = .ok (.if_icmp .ge 25, 3) := by decide +kernel
theorem dX8_fetch_37 : decode cX8_fetch 37 = .ok (.aload_n 0, 1) := by decide +kernel
theorem dX8_fetch_38 : decode cX8_fetch 38 = .ok (.getfield 59, 3) := by decide +kernel
theorem dX8_fetch_41 : decode cX8_fetch 41 = .ok (.iload_n 3, 1) := by decide +kernel
theorem dX8_fetch_42 : decode cX8_fetch 42 = .ok (.iaload, 1) := by decide +kernel
theorem dX8_fetch_43 : decode cX8_fetch 43 = .ok (.iload_n 1, 1) := by decide +kernel
theorem dX8_fetch_44 : decode cX8_fetch 44 = .ok (.if_icmp .ne 7, 3) := by decide +kernel
theorem dX8_fetch_47 : decode cX8_fetch 47 = .ok (.iload_n 3, 1) := by decide +kernel
theorem dX8_fetch_48 : decode cX8_fetch 48 = .ok (.goto 4, 3) := by decide +kernel
theorem dX8_fetch_51 : decode cX8_fetch 51 = .ok (.iload_n 2, 1) := by decide +kernel
theorem dX8_fetch_52 : decode cX8_fetch 52 = .ok (.istore_n 2, 1) := by decide +kernel
theorem dX8_fetch_53 : decode cX8_fetch 53 = .ok (.iinc 3 1, 3) := by decide +kernel
theorem dX8_fetch_56 : decode cX8_fetch 56 = .ok (.goto (-27), 3) := by decide +kernel
theorem dX8_fetch_59 : decode cX8_fetch 59 = .ok (.iload_n 2, 1) := by decide +kernel
theorem dX8_fetch_60 : decode cX8_fetch 60 = .ok (.ifCond .ge 5, 3) := by decide +kernel
theorem dX8_fetch_63 : decode cX8_fetch 63 = .ok (.iconst (-1), 1) := by decide +kernel
theorem dX8_fetch_64 : decode cX8_fetch 64 = .ok (.ireturn, 1) := by decide +kernel
theorem dX8_fetch_65 : decode cX8_fetch 65 = .ok (.aload_n 0, 1) := by decide +kernel
theorem dX8_fetch_66 : decode cX8_fetch 66 = .ok (.getfield 62, 3) := by decide +kernel
theorem dX8_fetch_69 : decode cX8_fetch 69 = .ok (.iload_n 2, 1) := by decide +kernel
theorem dX8_fetch_70 : decode cX8_fetch 70 = .ok (.iaload, 1) := by decide +kernel
theorem dX8_fetch_71 : decode cX8_fetch 71 = .ok (.istore_n 3, 1) := by decide +kernel
theorem dX8_fetch_72 : decode cX8_fetch 72 = .ok (.aload_n 0, 1) := by decide +kernel
theorem dX8_fetch_73 : decode cX8_fetch 73 = .ok (.dup, 1) := by decide +kernel
theorem dX8_fetch_74 : decode cX8_fetch 74 = .ok (.getfield 142, 3) := by decide +kernel
theorem dX8_fetch_77 : decode cX8_fetch 77 = .ok (.iconst 1, 1) := by decide +kernel
theorem dX8_fetch_78 : decode cX8_fetch 78 = .ok (.isub, 1) := by decide +kernel
theorem dX8_fetch_79 : decode cX8_fetch 79 = .ok (.putfield 142, 3) := by decide +kernel
theorem dX8_fetch_82 : decode cX8_fetch 82 = .ok (.aload_n 0, 1) := by decide +kernel
theorem dX8_fetch_83 : decode cX8_fetch 83 = .ok (.dup, 1) := by decide +kernel
theorem dX8_fetch_84 : decode cX8_fetch 84 = .ok (.getfield 145, 3) := by decide +kernel
theorem dX8_fetch_87 : decode cX8_fetch 87 = .ok (.iconst 2, 1) := by decide +kernel
theorem dX8_fetch_88 : decode cX8_fetch 88 = .ok (.aload_n 0, 1) := by decide +kernel
theorem dX8_fetch_89 : decode cX8_fetch 89 = .ok (.getfield 142, 3) := by decide +kernel
theorem dX8_fetch_92 : decode cX8_fetch 92 = .ok (.iload_n 2, 1) := by decide +kernel
theorem dX8_fetch_93 : decode cX8_fetch 93 = .ok (.isub, 1) := by decide +kernel
theorem dX8_fetch_94 : decode cX8_fetch 94 = .ok (.imul, 1) := by decide +kernel
theorem dX8_fetch_95 : decode cX8_fetch 95 = .ok (.iadd, 1) := by decide +kernel
theorem dX8_fetch_96 : decode cX8_fetch 96 = .ok (.putfield 145, 3) := by decide +kernel
theorem dX8_fetch_99 : decode cX8_fetch 99 = .ok (.iload_n 2, 1) := by decide +kernel
theorem dX8_fetch_100 : decode cX8_fetch 100 = .ok (.istore 4, 2) := by decide +kernel
theorem dX8_fetch_102 : decode cX8_fetch 102 = .ok (.iload 4, 2) := by decide +kernel
theorem dX8_fetch_104 : decode cX8_fetch 104 = .ok (.aload_n 0, 1) := by decide +kernel
theorem dX8_fetch_105 : decode cX8_fetch 105 = .ok (.getfield 142, 3) := by decide +kernel
theorem dX8_fetch_108 : decode cX8_fetch 108 = .ok (.if_icmp .ge 41, 3) := by decide +kernel
theorem dX8_fetch_111 : decode cX8_fetch 111 = .ok (.aload_n 0, 1) := by decide +kernel
theorem dX8_fetch_112 : decode cX8_fetch 112 = .ok (.getfield 59, 3) := by decide +kernel
theorem dX8_fetch_115 : decode cX8_fetch 115 = .ok (.iload 4, 2) := by decide +kernel
theorem dX8_fetch_117 : decode cX8_fetch 117 = .ok (.aload_n 0, 1) := by decide +kernel
theorem dX8_fetch_118 : decode cX8_fetch 118 = .ok (.getfield 59, 3) := by decide +kernel
theorem dX8_fetch_121 : decode cX8_fetch 121 = .ok (.iload 4, 2) := by decide +kernel
theorem dX8_fetch_123 : decode cX8_fetch 123 = .ok (.iconst 1, 1) := by decide +kernel
theorem dX8_fetch_124 : decode cX8_fetch 124 = .ok (.iadd, 1) := by decide +kernel
theorem dX8_fetch_125 : decode cX8_fetch 125 = .ok (.iaload, 1) := by decide +kernel
theorem dX8_fetch_126 : decode cX8_fetch 126 = .ok (.iastore, 1) := by decide +kernel
theorem dX8_fetch_127 : decode cX8_fetch 127 = .ok (.aload_n 0, 1) := by decide +kernel
theorem dX8_fetch_128 : decode cX8_fetch 128 = .ok (.getfield 62, 3) := by decide +kernel
theorem dX8_fetch_131 : decode cX8_fetch 131 = .ok (.iload 4, 2) := by decide +kernel
theorem dX8_fetch_133 : decode cX8_fetch 133 = .ok (.aload_n 0, 1) := by decide +kernel
theorem dX8_fetch_134 : decode cX8_fetch 134 = .ok (.getfield 62, 3) := by decide +kernel
theorem dX8_fetch_137 : decode cX8_fetch 137 = .ok (.iload 4, 2) := by decide +kernel
theorem dX8_fetch_139 : decode cX8_fetch 139 = .ok (.iconst 1, 1) := by decide +kernel
theorem dX8_fetch_140 : decode cX8_fetch 140 = .ok (.iadd, 1) := by decide +kernel
theorem dX8_fetch_141 : decode cX8_fetch 141 = .ok (.iaload, 1) := by decide +kernel
theorem dX8_fetch_142 : decode cX8_fetch 142 = .ok (.iastore, 1) := by decide +kernel
theorem dX8_fetch_143 : decode cX8_fetch 143 = .ok (.iinc 4 1, 3) := by decide +kernel
theorem dX8_fetch_146 : decode cX8_fetch 146 = .ok (.goto (-44), 3) := by decide +kernel
theorem dX8_fetch_149 : decode cX8_fetch 149 = .ok (.iload_n 3, 1) := by decide +kernel
theorem dX8_fetch_150 : decode cX8_fetch 150 = .ok (.ireturn, 1) := by decide +kernel
set_option maxRecDepth 20000 in
theorem ggX8_moves_X8_holds : GoodIn wsX8_moves wsX8_holds := goodIn_r _ [6, 7, 8, 9, 10, 11, 12, 13, 14, 15, 16, 17, 18, 19, 20, 21, 22, 23, 24, 25, 26, 27, 28, 29, 30, 31, 32, 33, 34, 35, 36, 37, 38] (by decide +kernel) (by decide +kernel)
set_option maxRecDepth 20000 in
theorem gX8_moves_X8_holds : GoodIn wsX8_moves (wsV RX8 133 RX8 yX8_holds wsX8_holds) := goodIn_app (goodIn_of _ (by decide +kernel)) ggX8_moves_X8_holds
theorem dX8_moves_0 : decode cX8_moves 0 = .ok (.aload_n 0, 1) := by decide +kernel
theorem dX8_moves_1 : decode cX8_moves 1 = .ok (.iconst 0, 1) := by decide +kernel
theorem dX8_moves_2 : decode cX8_moves 2 = .ok (.invokevirtual 133, 3) := by decide +kernel
theorem dX8_moves_5 : decode cX8_moves 5 = .ok (.pop, 1) := by decide +kernel
theorem dX8_moves_6 : decode cX8_moves 6 = .ok (.aload_n 0, 1) := by decide +kernel
theorem dX8_moves_7 : decode cX8_moves 7 = .ok (.getfield 145, 3) := by decide +kernel
theorem dX8_moves_10 : decode cX8_moves 10 = .ok (.ireturn, 1) := by decide +kernel
set_option maxRecDepth 20000 in
theorem ggX8_grout_X8_in : GoodIn wsX8_grout wsX8_in := goodIn_r _ [6] (by decide +kernel) (by decide +kernel)
set_option maxRecDepth 20000 in
theorem gX8_grout_X8_in : GoodIn wsX8_grout (wsV RX8 125 RX8 yX8_in wsX8_in) := goodIn_app (goodIn_of _ (by decide +kernel)) ggX8_grout_X8_in
set_option maxRecDepth 20000 in
theorem ggX8_grout_X8_holds : GoodIn wsX8_grout wsX8_holds := goodIn_r _ [10, 11, 12, 13, 14, 15, 16, 17, 18, 19, 20, 21, 22, 23, 24, 25, 26, 27, 28, 29, 30, 31, 32, 33, 34, 35, 36, 37, 38, 39, 40, 41, 42] (by decide +kernel) (by decide +kernel)
set_option maxRecDepth 20000 in
theorem gX8_grout_X8_holds : GoodIn wsX8_grout (wsV RX8 133 RX8 yX8_holds wsX8_holds) := goodIn_app (goodIn_of _ (by decide +kernel)) ggX8_grout_X8_holds
theorem dX8_grout_0 : decode cX8_grout 0 = .ok (.aload_n 0, 1) := by decide +kernel
theorem dX8_grout_1 : decode cX8_grout 1 = .ok (.aload_n 0, 1) := by decide +kernel
theorem dX8_grout_2 : decode cX8_grout 2 = .ok (.iload_n 1, 1) := by decide +kernel
theorem dX8_grout_3 : decode cX8_grout 3 = .ok (.iconst 0, 1) := by decide +kernel
theorem dX8_grout_4 : decode cX8_grout 4 = .ok (.bipush 48, 2) := by decide +kernel
theorem dX8_grout_6 : decode cX8_grout 6 = .ok (.invokevirtual 125, 3) := by decide +kernel
theorem dX8_grout_9 : decode cX8_grout 9 = .ok (.ifCond .eq 7, 3) := by decide +kernel
theorem dX8_grout_12 : decode cX8_grout 12 = .ok (.iconst 0, 1) := by decide +kernel
theorem dX8_grout_13 : decode cX8_grout 13 = .ok (.goto 4, 3) := by decide +kernel
theorem dX8_grout_16 : decode cX8_grout 16 = .ok (.iconst 1, 1) := by decide +kernel
theorem dX8_grout_17 : decode cX8_grout 17 = .ok (.invokevirtual 133, 3) := by decide +kernel
theorem dX8_grout_20 : decode cX8_grout 20 = .ok (.ifCond .eq 5, 3) := by decide +kernel
theorem dX8_grout_23 : decode cX8_grout 23 = .ok (.iconst (-1), 1) := by decide +kernel
theorem dX8_grout_24 : decode cX8_grout 24 = .ok (.ireturn, 1) := by decide +kernel
theorem dX8_grout_25 : decode cX8_grout 25 = .ok (.aload_n 0, 1) := by decide +kernel
theorem dX8_grout_26 : decode cX8_grout 26 = .ok (.getfield 68, 3) := by decide +kernel
theorem dX8_grout_29 : decode cX8_grout 29 = .ok (.istore_n 2, 1) := by decide +kernel
theorem dX8_grout_30 : decode cX8_grout 30 = .ok (.aload_n 0, 1) := by decide +kernel
theorem dX8_grout_31 : decode cX8_grout 31 = .ok (.iload_n 1, 1) := by decide +kernel
theorem dX8_grout_32 : decode cX8_grout 32 = .ok (.putfield 68, 3) := by decide +kernel
theorem dX8_grout_35 : decode cX8_grout 35 = .ok (.iload_n 2, 1) := by decide +kernel
theorem dX8_grout_36 : decode cX8_grout 36 = .ok (.ireturn, 1) := by decide +kernel
theorem dX8_isWet_0 : decode cX8_isWet 0 = .ok (.iconst 0, 1) := by decide +kernel
theorem dX8_isWet_1 : decode cX8_isWet 1 = .ok (.istore_n 2, 1) := by decide +kernel
theorem dX8_isWet_2 : decode cX8_isWet 2 = .ok (.iconst 0, 1) := by decide +kernel
theorem dX8_isWet_3 : decode cX8_isWet 3 = .ok (.istore_n 3, 1) := by decide +kernel
theorem dX8_isWet_4 : decode cX8_isWet 4 = .ok (.iload_n 3, 1) := by decide +kernel
theorem dX8_isWet_5 : decode cX8_isWet 5 = .ok (.iload_n 1, 1) := by decide +kernel
theorem dX8_isWet_6 : decode cX8_isWet 6 = .ok (.if_icmp .ge 30, 3) := by decide +kernel
theorem dX8_isWet_9 : decode cX8_isWet 9 = .ok (.iload_n 2, 1) := by decide +kernel
theorem dX8_isWet_10 : decode cX8_isWet 10 = .ok (.aload_n 0, 1) := by decide +kernel
theorem dX8_isWet_11 : decode cX8_isWet 11 = .ok (.getfield 65, 3) := by decide +kernel
theorem dX8_isWet_14 : decode cX8_isWet 14 = .ok (.iload_n 3, 1) := by decide +kernel
theorem dX8_isWet_15 : decode cX8_isWet 15 = .ok (.iaload, 1) := by decide +kernel
theorem dX8_isWet_16 : decode cX8_isWet 16 = .ok (.aload_n 0, 1) := by decide +kernel
theorem dX8_isWet_17 : decode cX8_isWet 17 = .ok (.getfield 148, 3) := by decide +kernel
theorem dX8_isWet_20 : decode cX8_isWet 20 = .ok (.if_icmp .le 7, 3) := by decide +kernel
theorem dX8_isWet_23 : decode cX8_isWet 23 = .ok (.iconst 1, 1) := by decide +kernel
theorem dX8_isWet_24 : decode cX8_isWet 24 = .ok (.goto 4, 3) := by decide +kernel
theorem dX8_isWet_27 : decode cX8_isWet 27 = .ok (.iconst 0, 1) := by decide +kernel
theorem dX8_isWet_28 : decode cX8_isWet 28 = .ok (.ior, 1) := by decide +kernel
theorem dX8_isWet_29 : decode cX8_isWet 29 = .ok (.istore_n 2, 1) := by decide +kernel
theorem dX8_isWet_30 : decode cX8_isWet 30 = .ok (.iinc 3 1, 3) := by decide +kernel
theorem dX8_isWet_33 : decode cX8_isWet 33 = .ok (.goto (-29), 3) := by decide +kernel
theorem dX8_isWet_36 : decode cX8_isWet 36 = .ok (.iload_n 2, 1) := by decide +kernel
theorem dX8_isWet_37 : decode cX8_isWet 37 = .ok (.ireturn, 1) := by decide +kernel
set_option maxRecDepth 20000 in
theorem ggX8_piecesOf_X8_stripOfRow : GoodIn wsX8_piecesOf wsX8_stripOfRow := goodIn_r _ [7, 8, 9, 10, 11, 12, 6, 13, 14, 15, 16, 17, 18, 19, 20, 21, 22, 23, 24, 25, 26, 27, 28, 29, 30, 31, 32, 33, 34, 35, 36, 37, 38, 39, 40, 41, 42, 43, 44] (by decide +kernel) (by decide +kernel)
set_option maxRecDepth 20000 in
theorem gX8_piecesOf_X8_stripOfRow : GoodIn wsX8_piecesOf (wsV RX8 139 RX8 yX8_stripOfRow wsX8_stripOfRow) := goodIn_app (goodIn_of _ (by decide +kernel)) ggX8_piecesOf_X8_stripOfRow
theorem dX8_piecesOf_0 : decode cX8_piecesOf 0 = .ok (.iconst 0, 1) := by decide +kernel
theorem dX8_piecesOf_1 : decode cX8_piecesOf 1 = .ok (.istore_n 2, 1) := by decide +kernel
theorem dX8_piecesOf_2 : decode cX8_piecesOf 2 = .ok (.iconst 0, 1) := by decide +kernel
theorem dX8_piecesOf_3 : decode cX8_piecesOf 3 = .ok (.istore_n 3, 1) := by decide +kernel
theorem dX8_piecesOf_4 : decode cX8_piecesOf 4 = .ok (.iload_n 3, 1) := by decide +kernel
theorem dX8_piecesOf_5 : decode cX8_piecesOf 5 = .ok (.aload_n 0, 1) := by decide +kernel
theorem dX8_piecesOf_6 : decode cX8_piecesOf 6 = .ok (.getfield 94, 3) := by decide +kernel
theorem dX8_piecesOf_9 : decode cX8_piecesOf 9 = .ok (.if_icmp .ge 34, 3) := by decide +kernel
theorem dX8_piecesOf_12 : decode cX8_piecesOf 12 = .ok (.iload_n 2, 1) := by decide +kernel
theorem dX8_piecesOf_13 : decode cX8_piecesOf 13 = .ok (.aload_n 0, 1) := by decide +kernel
theorem dX8_piecesOf_14 : decode cX8_piecesOf 14 = .ok (.aload_n 0, 1) := by decide +kernel
theorem dX8_piecesOf_15 : decode cX8_piecesOf 15 = .ok (.getfield 26, 3) := by decide +kernel
theorem dX8_piecesOf_18 : decode cX8_piecesOf 18 = .ok (.iload_n 3, 1) := by decide +kernel
theorem dX8_piecesOf_19 : decode cX8_piecesOf 19 = .ok (.iaload, 1) := by decide +kernel
theorem dX8_piecesOf_20 : decode cX8_piecesOf 20 = .ok (.bipush 12, 2) := by decide +kernel
theorem dX8_piecesOf_22 : decode cX8_piecesOf 22 = .ok (.idiv, 1) := by decide +kernel
theorem dX8_piecesOf_23 : decode cX8_piecesOf 23 = .ok (.invokevirtual 139, 3) := by decide +kernel
theorem dX8_piecesOf_26 : decode cX8_piecesOf 26 = .ok (.iload_n 1, 1) := by decide +kernel
theorem dX8_piecesOf_27 : decode cX8_piecesOf 27 = .ok (.if_icmp .ne 7, 3) := by decide +kernel
theorem dX8_piecesOf_30 : decode cX8_piecesOf 30 = .ok (.iconst 1, 1) := by decide +kernel
theorem dX8_piecesOf_31 : decode cX8_piecesOf 31 = .ok (.goto 4, 3) := by decide +kernel
theorem dX8_piecesOf_34 : decode cX8_piecesOf 34 = .ok (.iconst 0, 1) := by decide +kernel
theorem dX8_piecesOf_35 : decode cX8_piecesOf 35 = .ok (.iadd, 1) := by decide +kernel
theorem dX8_piecesOf_36 : decode cX8_piecesOf 36 = .ok (.istore_n 2, 1) := by decide +kernel
theorem dX8_piecesOf_37 : decode cX8_piecesOf 37 = .ok (.iinc 3 1, 3) := by decide +kernel
theorem dX8_piecesOf_40 : decode cX8_piecesOf 40 = .ok (.goto (-36), 3) := by decide +kernel
theorem dX8_piecesOf_43 : decode cX8_piecesOf 43 = .ok (.iload_n 2, 1) := by decide +kernel
theorem dX8_piecesOf_44 : decode cX8_piecesOf 44 = .ok (.ireturn, 1) := by decide +kernel
set_option maxRecDepth 20000 in
theorem ggX8_isStrip_X8_stripCount : GoodIn wsX8_isStrip wsX8_stripCount := goodIn_r _ [5, 6, 7, 8, 9, 4, 10, 11, 16, 17, 18, 19, 20, 21, 22, 23, 24, 25, 26, 27, 28, 29, 30, 31, 32, 33, 34, 35, 36, 37, 38, 39, 40, 41, 42, 43, 44, 45, 46] (by decide +kernel) (by decide +kernel)
set_option maxRecDepth 20000 in
theorem gX8_isStrip_X8_stripCount : GoodIn wsX8_isStrip (wsV RX8 151 RX8 yX8_stripCount wsX8_stripCount) := goodIn_app (goodIn_of _ (by decide +kernel)) ggX8_isStrip_X8_stripCount
set_option maxRecDepth 20000 in
theorem ggX8_isStrip_X8_in : GoodIn wsX8_isStrip wsX8_in := goodIn_r _ [15] (by decide +kernel) (by decide +kernel)
set_option maxRecDepth 20000 in
theorem gX8_isStrip_X8_in : GoodIn wsX8_isStrip (wsV RX8 125 RX8 yX8_in wsX8_in) := goodIn_app (goodIn_of _ (by decide +kernel)) ggX8_isStrip_X8_in
theorem dX8_isStrip_0 : decode cX8_isStrip 0 = .ok (.aload_n 0, 1) := by decide +kernel
theorem dX8_isStrip_1 : decode cX8_isStrip 1 = .ok (.iload_n 1, 1) := by decide +kernel
theorem dX8_isStrip_2 : decode cX8_isStrip 2 = .ok (.iconst 0, 1) := by decide +kernel
theorem dX8_isStrip_3 : decode cX8_isStrip 3 = .ok (.aload_n 0, 1) := by decide +kernel
theorem dX8_isStrip_4 : decode cX8_isStrip 4 = .ok (.invokevirtual 151, 3) := by decide +kernel
theorem dX8_isStrip_7 : decode cX8_isStrip 7 = .ok (.iconst 1, 1) := by decide +kernel
theorem dX8_isStrip_8 : decode cX8_isStrip 8 = .ok (.isub, 1) := by decide +kernel
theorem dX8_isStrip_9 : decode cX8_isStrip 9 = .ok (.invokevirtual 125, 3) := by decide +kernel
theorem dX8_isStrip_12 : decode cX8_isStrip 12 = .ok (.ireturn, 1) := by decide +kernel
set_option maxRecDepth 20000 in
theorem ggX8_lay_X8_isStrip : GoodIn wsX8_lay wsX8_isStrip := goodIn_r _ [9, 10, 11, 12, 8, 13, 14, 15, 16, 17, 18, 19, 20, 21, 22, 23, 43, 44, 45, 46, 47, 48, 49, 50, 51, 52, 53, 54, 55, 56, 57, 58, 59, 60, 61, 62, 63, 64, 65, 66, 67, 68, 69, 70, 71, 72, 73] (by decide +kernel) (by decide +kernel)
set_option maxRecDepth 20000 in
theorem gX8_lay_X8_isStrip : GoodIn wsX8_lay (wsV RX8 154 RX8 yX8_isStrip wsX8_isStrip) := goodIn_app (goodIn_of _ (by decide +kernel)) ggX8_lay_X8_isStrip
set_option maxRecDepth 20000 in
theorem ggX8_lay_X8_isWet : GoodIn wsX8_lay wsX8_isWet := goodIn_r _ [27, 1, 2, 43, 44, 45, 46, 47, 48, 49, 50, 51, 52, 53, 54, 55, 56, 57, 58, 59, 60, 61, 62, 63, 64, 65, 66, 67, 68, 69, 70, 71, 72, 73] (by decide +kernel) (by decide +kernel)
set_option maxRecDepth 20000 in
theorem gX8_lay_X8_isWet : GoodIn wsX8_lay (wsV RX8 157 RX8 yX8_isWet wsX8_isWet) := goodIn_app (goodIn_of _ (by decide +kernel)) ggX8_lay_X8_isWet
set_option maxRecDepth 20000 in
theorem ggX8_lay_X8_holds : GoodIn wsX8_lay wsX8_holds := goodIn_r _ [31, 32, 43, 44, 45, 46, 47, 48, 49, 50, 51, 52, 53, 54, 55, 56, 57, 58, 59, 60, 61, 62, 63, 64, 65, 66, 67, 68, 69, 70, 71, 72, 73] (by decide +kernel) (by decide +kernel)
set_option maxRecDepth 20000 in
theorem gX8_lay_X8_holds : GoodIn wsX8_lay (wsV RX8 133 RX8 yX8_holds wsX8_holds) := goodIn_app (goodIn_of _ (by decide +kernel)) ggX8_lay_X8_holds
set_option maxRecDepth 20000 in
theorem ggX8_lay_X8_piecesOf : GoodIn wsX8_lay wsX8_piecesOf := goodIn_r _ [36, 37, 38, 39, 40, 41, 8, 42, 14, 19, 15, 16, 17, 18, 43, 44, 45, 46, 47, 48, 49, 50, 51, 52, 53, 54, 55, 56, 57, 58, 59, 60, 61, 62, 63, 64, 65, 66, 67, 68, 69, 70, 71, 72, 73] (by decide +kernel) (by decide +kernel)
set_option maxRecDepth 20000 in
theorem gX8_lay_X8_piecesOf : GoodIn wsX8_lay (wsV RX8 160 RX8 yX8_piecesOf wsX8_piecesOf) := goodIn_app (goodIn_of _ (by decide +kernel)) ggX8_lay_X8_piecesOf
theorem dX8_lay_0 : decode cX8_lay 0 = .ok (.aload_n 0, 1) := by decide +kernel
theorem dX8_lay_1 : decode cX8_lay 1 = .ok (.iload_n 1, 1) := by decide +kernel
theorem dX8_lay_2 : decode cX8_lay 2 = .ok (.invokevirtual 154, 3) := by decide +kernel
theorem dX8_lay_5 : decode cX8_lay 5 = .ok (.istore_n 2, 1) := by decide +kernel
theorem dX8_lay_6 : decode cX8_lay 6 = .ok (.aload_n 0, 1) := by decide +kernel
theorem dX8_lay_7 : decode cX8_lay 7 = .ok (.iload_n 2, 1) := by decide +kernel
theorem dX8_lay_8 : decode cX8_lay 8 = .ok (.ifCond .ne 7, 3) := by decide +kernel
theorem dX8_lay_11 : decode cX8_lay 11 = .ok (.iconst 1, 1) := by decide +kernel
theorem dX8_lay_12 : decode cX8_lay 12 = .ok (.goto 25, 3) := by decide +kernel
theorem dX8_lay_15 : decode cX8_lay 15 = .ok (.aload_n 0, 1) := by decide +kernel
theorem dX8_lay_16 : decode cX8_lay 16 = .ok (.getfield 65, 3) := by decide +kernel
theorem dX8_lay_19 : decode cX8_lay 19 = .ok (.iload_n 1, 1) := by decide +kernel
theorem dX8_lay_20 : decode cX8_lay 20 = .ok (.iaload, 1) := by decide +kernel
theorem dX8_lay_21 : decode cX8_lay 21 = .ok (.ifCond .ge 11, 3) := by decide +kernel
theorem dX8_lay_24 : decode cX8_lay 24 = .ok (.aload_n 0, 1) := by decide +kernel
theorem dX8_lay_25 : decode cX8_lay 25 = .ok (.iload_n 1, 1) := by decide +kernel
theorem dX8_lay_26 : decode cX8_lay 26 = .ok (.invokevirtual 157, 3) := by decide +kernel
theorem dX8_lay_29 : decode cX8_lay 29 = .ok (.ifCond .eq 7, 3) := by decide +kernel
theorem dX8_lay_32 : decode cX8_lay 32 = .ok (.iconst 2, 1) := by decide +kernel
theorem dX8_lay_33 : decode cX8_lay 33 = .ok (.goto 4, 3) := by decide +kernel
theorem dX8_lay_36 : decode cX8_lay 36 = .ok (.iconst 0, 1) := by decide +kernel
theorem dX8_lay_37 : decode cX8_lay 37 = .ok (.invokevirtual 133, 3) := by decide +kernel
theorem dX8_lay_40 : decode cX8_lay 40 = .ok (.ifCond .eq 5, 3) := by decide +kernel
theorem dX8_lay_43 : decode cX8_lay 43 = .ok (.iconst (-1), 1) := by decide +kernel
theorem dX8_lay_44 : decode cX8_lay 44 = .ok (.ireturn, 1) := by decide +kernel
theorem dX8_lay_45 : decode cX8_lay 45 = .ok (.aload_n 0, 1) := by decide +kernel
theorem dX8_lay_46 : decode cX8_lay 46 = .ok (.dup, 1) := by decide +kernel
theorem dX8_lay_47 : decode cX8_lay 47 = .ok (.getfield 148, 3) := by decide +kernel
theorem dX8_lay_50 : decode cX8_lay 50 = .ok (.aload_n 0, 1) := by decide +kernel
theorem dX8_lay_51 : decode cX8_lay 51 = .ok (.iload_n 1, 1) := by decide +kernel
theorem dX8_lay_52 : decode cX8_lay 52 = .ok (.invokevirtual 160, 3) := by decide +kernel
theorem dX8_lay_55 : decode cX8_lay 55 = .ok (.iconst 3, 1) := by decide +kernel
theorem dX8_lay_56 : decode cX8_lay 56 = .ok (.iadd, 1) := by decide +kernel
theorem dX8_lay_57 : decode cX8_lay 57 = .ok (.iconst 4, 1) := by decide +kernel
theorem dX8_lay_58 : decode cX8_lay 58 = .ok (.idiv, 1) := by decide +kernel
theorem dX8_lay_59 : decode cX8_lay 59 = .ok (.iadd, 1) := by decide +kernel
theorem dX8_lay_60 : decode cX8_lay 60 = .ok (.putfield 148, 3) := by decide +kernel
theorem dX8_lay_63 : decode cX8_lay 63 = .ok (.aload_n 0, 1) := by decide +kernel
theorem dX8_lay_64 : decode cX8_lay 64 = .ok (.getfield 65, 3) := by decide +kernel
theorem dX8_lay_67 : decode cX8_lay 67 = .ok (.iload_n 1, 1) := by decide +kernel
theorem dX8_lay_68 : decode cX8_lay 68 = .ok (.aload_n 0, 1) := by decide +kernel
theorem dX8_lay_69 : decode cX8_lay 69 = .ok (.getfield 148, 3) := by decide +kernel
theorem dX8_lay_72 : decode cX8_lay 72 = .ok (.aload_n 0, 1) := by decide +kernel
theorem dX8_lay_73 : decode cX8_lay 73 = .ok (.getfield 68, 3) := by decide +kernel
theorem dX8_lay_76 : decode cX8_lay 76 = .ok (.iadd, 1) := by decide +kernel
theorem dX8_lay_77 : decode cX8_lay 77 = .ok (.iastore, 1) := by decide +kernel
theorem dX8_lay_78 : decode cX8_lay 78 = .ok (.aload_n 0, 1) := by decide +kernel
theorem dX8_lay_79 : decode cX8_lay 79 = .ok (.iconst 1, 1) := by decide +kernel
theorem dX8_lay_80 : decode cX8_lay 80 = .ok (.putfield 129, 3) := by decide +kernel
theorem dX8_lay_83 : decode cX8_lay 83 = .ok (.aload_n 0, 1) := by decide +kernel
theorem dX8_lay_84 : decode cX8_lay 84 = .ok (.getfield 148, 3) := by decide +kernel
theorem dX8_lay_87 : decode cX8_lay 87 = .ok (.ireturn, 1) := by decide +kernel
set_option maxRecDepth 20000 in
theorem ggX8_dry_X8_isStrip : GoodIn wsX8_dry wsX8_isStrip := goodIn_r _ [6, 7, 8, 9, 5, 10, 11, 12, 13, 14, 15, 16, 17, 18, 19, 20, 26, 27, 28, 29, 30, 31, 32, 33, 34, 35, 36, 37, 38, 39, 40, 41, 42, 43, 44, 45, 46, 47, 48, 49, 50, 51, 52, 53, 54, 55, 56] (by decide +kernel) (by decide +kernel)
set_option maxRecDepth 20000 in
theorem gX8_dry_X8_isStrip : GoodIn wsX8_dry (wsV RX8 154 RX8 yX8_isStrip wsX8_isStrip) := goodIn_app (goodIn_of _ (by decide +kernel)) ggX8_dry_X8_isStrip
set_option maxRecDepth 20000 in
theorem ggX8_dry_X8_holds : GoodIn wsX8_dry wsX8_holds := goodIn_r _ [24, 25, 26, 27, 28, 29, 30, 31, 32, 33, 34, 35, 36, 37, 38, 39, 40, 41, 42, 43, 44, 45, 46, 47, 48, 49, 50, 51, 52, 53, 54, 55, 56] (by decide +kernel) (by decide +kernel)
set_option maxRecDepth 20000 in
theorem gX8_dry_X8_holds : GoodIn wsX8_dry (wsV RX8 133 RX8 yX8_holds wsX8_holds) := goodIn_app (goodIn_of _ (by decide +kernel)) ggX8_dry_X8_holds
theorem dX8_dry_0 : decode cX8_dry 0 = .ok (.aload_n 0, 1) := by decide +kernel
theorem dX8_dry_1 : decode cX8_dry 1 = .ok (.aload_n 0, 1) := by decide +kernel
theorem dX8_dry_2 : decode cX8_dry 2 = .ok (.iload_n 1, 1) := by decide +kernel
theorem dX8_dry_3 : decode cX8_dry 3 = .ok (.invokevirtual 154, 3) := by decide +kernel
theorem dX8_dry_6 : decode cX8_dry 6 = .ok (.ifCond .eq 7, 3) := by decide +kernel
theorem dX8_dry_9 : decode cX8_dry 9 = .ok (.iconst 0, 1) := by decide +kernel
theorem dX8_dry_10 : decode cX8_dry 10 = .ok (.goto 4, 3) := by decide +kernel
theorem dX8_dry_13 : decode cX8_dry 13 = .ok (.iconst 1, 1) := by decide +kernel
theorem dX8_dry_14 : decode cX8_dry 14 = .ok (.invokevirtual 133, 3) := by decide +kernel
theorem dX8_dry_17 : decode cX8_dry 17 = .ok (.ifCond .eq 7, 3) := by decide +kernel
theorem dX8_dry_20 : decode cX8_dry 20 = .ok (.iconst (-1), 1) := by decide +kernel
theorem dX8_dry_21 : decode cX8_dry 21 = .ok (.goto 9, 3) := by decide +kernel
theorem dX8_dry_24 : decode cX8_dry 24 = .ok (.aload_n 0, 1) := by decide +kernel
theorem dX8_dry_25 : decode cX8_dry 25 = .ok (.getfield 65, 3) := by decide +kernel
theorem dX8_dry_28 : decode cX8_dry 28 = .ok (.iload_n 1, 1) := by decide +kernel
theorem dX8_dry_29 : decode cX8_dry 29 = .ok (.iaload, 1) := by decide +kernel
theorem dX8_dry_30 : decode cX8_dry 30 = .ok (.ireturn, 1) := by decide +kernel
set_option maxRecDepth 20000 in
theorem ggX8_strips_X8_holds : GoodIn wsX8_strips wsX8_holds := goodIn_r _ [5, 6, 17, 18, 19, 20, 21, 22, 23, 24, 25, 26, 27, 28, 29, 30, 31, 32, 33, 34, 35, 36, 37, 38, 39, 40, 41, 42, 43, 44, 45, 46, 47] (by decide +kernel) (by decide +kernel)
set_option maxRecDepth 20000 in
theorem gX8_strips_X8_holds : GoodIn wsX8_strips (wsV RX8 133 RX8 yX8_holds wsX8_holds) := goodIn_app (goodIn_of _ (by decide +kernel)) ggX8_strips_X8_holds
set_option maxRecDepth 20000 in
theorem ggX8_strips_X8_stripCount : GoodIn wsX8_strips wsX8_stripCount := goodIn_r _ [10, 11, 12, 13, 14, 4, 15, 16, 17, 18, 19, 20, 21, 22, 23, 24, 25, 26, 27, 28, 29, 30, 31, 32, 33, 34, 35, 36, 37, 38, 39, 40, 41, 42, 43, 44, 45, 46, 47] (by decide +kernel) (by decide +kernel)
set_option maxRecDepth 20000 in
theorem gX8_strips_X8_stripCount : GoodIn wsX8_strips (wsV RX8 151 RX8 yX8_stripCount wsX8_stripCount) := goodIn_app (goodIn_of _ (by decide +kernel)) ggX8_strips_X8_stripCount
theorem dX8_strips_0 : decode cX8_strips 0 = .ok (.aload_n 0, 1) := by decide +kernel
theorem dX8_strips_1 : decode cX8_strips 1 = .ok (.iconst 0, 1) := by decide +kernel
theorem dX8_strips_2 : decode cX8_strips 2 = .ok (.invokevirtual 133, 3) := by decide +kernel
theorem dX8_strips_5 : decode cX8_strips 5 = .ok (.pop, 1) := by decide +kernel
theorem dX8_strips_6 : decode cX8_strips 6 = .ok (.aload_n 0, 1) := by decide +kernel
theorem dX8_strips_7 : decode cX8_strips 7 = .ok (.invokevirtual 151, 3) := by decide +kernel
theorem dX8_strips_10 : decode cX8_strips 10 = .ok (.ireturn, 1) := by decide +kernel
set_option maxRecDepth 20000 in
theorem ggX8_pass_X8_in : GoodIn wsX8_pass wsX8_in := goodIn_r _ [6] (by decide +kernel) (by decide +kernel)
set_option maxRecDepth 20000 in
theorem gX8_pass_X8_in : GoodIn wsX8_pass (wsV RX8 125 RX8 yX8_in wsX8_in) := goodIn_app (goodIn_of _ (by decide +kernel)) ggX8_pass_X8_in
set_option maxRecDepth 20000 in
theorem ggX8_pass_X8_holds : GoodIn wsX8_pass wsX8_holds := goodIn_r _ [10, 11, 12, 13, 14, 15, 16, 17, 18, 19, 20, 21, 22, 23, 24, 25, 26, 27, 28, 29, 30, 31, 32, 33, 34, 35, 36, 37, 38, 39, 40, 41, 42] (by decide +kernel) (by decide +kernel)
set_option maxRecDepth 20000 in
theorem gX8_pass_X8_holds : GoodIn wsX8_pass (wsV RX8 133 RX8 yX8_holds wsX8_holds) := goodIn_app (goodIn_of _ (by decide +kernel)) ggX8_pass_X8_holds
theorem dX8_pass_0 : decode cX8_pass 0 = .ok (.aload_n 0, 1) := by decide +kernel
theorem dX8_pass_1 : decode cX8_pass 1 = .ok (.aload_n 0, 1) := by decide +kernel
theorem dX8_pass_2 : decode cX8_pass 2 = .ok (.iload_n 1, 1) := by decide +kernel
theorem dX8_pass_3 : decode cX8_pass 3 = .ok (.iconst 1, 1) := by decide +kernel
theorem dX8_pass_4 : decode cX8_pass 4 = .ok (.bipush 100, 2) := by decide +kernel
theorem dX8_pass_6 : decode cX8_pass 6 = .ok (.invokevirtual 125, 3) := by decide +kernel
theorem dX8_pass_9 : decode cX8_pass 9 = .ok (.ifCond .eq 7, 3) := by decide +kernel
theorem dX8_pass_12 : decode cX8_pass 12 = .ok (.iconst 0, 1) := by decide +kernel
theorem dX8_pass_13 : decode cX8_pass 13 = .ok (.goto 4, 3) := by decide +kernel
theorem dX8_pass_16 : decode cX8_pass 16 = .ok (.iconst 1, 1) := by decide +kernel
theorem dX8_pass_17 : decode cX8_pass 17 = .ok (.invokevirtual 133, 3) := by decide +kernel
theorem dX8_pass_20 : decode cX8_pass 20 = .ok (.ifCond .eq 5, 3) := by decide +kernel
theorem dX8_pass_23 : decode cX8_pass 23 = .ok (.iconst (-1), 1) := by decide +kernel
theorem dX8_pass_24 : decode cX8_pass 24 = .ok (.ireturn, 1) := by decide +kernel
theorem dX8_pass_25 : decode cX8_pass 25 = .ok (.aload_n 0, 1) := by decide +kernel
theorem dX8_pass_26 : decode cX8_pass 26 = .ok (.dup, 1) := by decide +kernel
theorem dX8_pass_27 : decode cX8_pass 27 = .ok (.getfield 148, 3) := by decide +kernel
theorem dX8_pass_30 : decode cX8_pass 30 = .ok (.iload_n 1, 1) := by decide +kernel
theorem dX8_pass_31 : decode cX8_pass 31 = .ok (.iadd, 1) := by decide +kernel
theorem dX8_pass_32 : decode cX8_pass 32 = .ok (.putfield 148, 3) := by decide +kernel
theorem dX8_pass_35 : decode cX8_pass 35 = .ok (.aload_n 0, 1) := by decide +kernel
theorem dX8_pass_36 : decode cX8_pass 36 = .ok (.getfield 148, 3) := by decide +kernel
theorem dX8_pass_39 : decode cX8_pass 39 = .ok (.ireturn, 1) := by decide +kernel
theorem dJ9_max_7cf53_0 : decode cJ9_max_7cf53 0 = .ok (.iload_n 0, 1) := by decide +kernel
theorem dJ9_max_7cf53_1 : decode cJ9_max_7cf53 1 = .ok (.iload_n 1, 1) := by decide +kernel
theorem dJ9_max_7cf53_2 : decode cJ9_max_7cf53 2 = .ok (.if_icmp .lt 7, 3) := by decide +kernel
theorem dJ9_max_7cf53_5 : decode cJ9_max_7cf53 5 = .ok (.iload_n 0, 1) := by decide +kernel
theorem dJ9_max_7cf53_6 : decode cJ9_max_7cf53 6 = .ok (.goto 4, 3) := by decide +kernel
theorem dJ9_max_7cf53_9 : decode cJ9_max_7cf53 9 = .ok (.iload_n 1, 1) := by decide +kernel
theorem dJ9_max_7cf53_10 : decode cJ9_max_7cf53 10 = .ok (.ireturn, 1) := by decide +kernel
theorem dJ9_min_7cf53_0 : decode cJ9_min_7cf53 0 = .ok (.iload_n 0, 1) := by decide +kernel
theorem dJ9_min_7cf53_1 : decode cJ9_min_7cf53 1 = .ok (.iload_n 1, 1) := by decide +kernel
theorem dJ9_min_7cf53_2 : decode cJ9_min_7cf53 2 = .ok (.if_icmp .gt 7, 3) := by decide +kernel
theorem dJ9_min_7cf53_5 : decode cJ9_min_7cf53 5 = .ok (.iload_n 0, 1) := by decide +kernel
theorem dJ9_min_7cf53_6 : decode cJ9_min_7cf53 6 = .ok (.goto 4, 3) := by decide +kernel
theorem dJ9_min_7cf53_9 : decode cJ9_min_7cf53 9 = .ok (.iload_n 1, 1) := by decide +kernel
theorem dJ9_min_7cf53_10 : decode cJ9_min_7cf53 10 = .ok (.ireturn, 1) := by decide +kernel
theorem dJ7_fill_53178_0 : decode cJ7_fill_53178 0 = .ok (.iconst 0, 1) := by decide +kernel
theorem dJ7_fill_53178_1 : decode cJ7_fill_53178 1 = .ok (.istore_n 2, 1) := by decide +kernel
theorem dJ7_fill_53178_2 : decode cJ7_fill_53178 2 = .ok (.aload_n 0, 1) := by decide +kernel
theorem dJ7_fill_53178_3 : decode cJ7_fill_53178 3 = .ok (.arraylength, 1) := by decide +kernel
theorem dJ7_fill_53178_4 : decode cJ7_fill_53178 4 = .ok (.istore_n 3, 1) := by decide +kernel
theorem dJ7_fill_53178_5 : decode cJ7_fill_53178 5 = .ok (.iload_n 2, 1) := by decide +kernel
theorem dJ7_fill_53178_6 : decode cJ7_fill_53178 6 = .ok (.iload_n 3, 1) := by decide +kernel
theorem dJ7_fill_53178_7 : decode cJ7_fill_53178 7 = .ok (.if_icmp .ge 13, 3) := by decide +kernel
theorem dJ7_fill_53178_10 : decode cJ7_fill_53178 10 = .ok (.aload_n 0, 1) := by decide +kernel
theorem dJ7_fill_53178_11 : decode cJ7_fill_53178 11 = .ok (.iload_n 2, 1) := by decide +kernel
theorem dJ7_fill_53178_12 : decode cJ7_fill_53178 12 = .ok (.iload_n 1, 1) := by decide +kernel
theorem dJ7_fill_53178_13 : decode cJ7_fill_53178 13 = .ok (.iastore, 1) := by decide +kernel
theorem dJ7_fill_53178_14 : decode cJ7_fill_53178 14 = .ok (.iinc 2 1, 3) := by decide +kernel
theorem dJ7_fill_53178_17 : decode cJ7_fill_53178 17 = .ok (.goto (-12), 3) := by decide +kernel
theorem dJ7_fill_53178_20 : decode cJ7_fill_53178 20 = .ok (.return_, 1) := by decide +kernel
set_option maxRecDepth 20000 in
theorem ggL_plan_X7_plan : GoodIn wsL_plan wsX7_plan := goodIn_ca (goodIn_ca (goodIn_r _ [7, 8, 9, 10, 11, 12, 13, 14, 15, 16, 17, 18, 6, 19, 20, 21, 22, 23, 24, 25, 26, 27, 28, 29, 30, 31, 32, 33, 34, 35, 36, 37, 38, 39, 40, 41, 42, 43, 44, 45, 46, 47, 48, 49, 50, 51, 52, 53, 54, 55, 56, 57, 58, 59, 60, 61, 62, 63, 64, 65, 66, 67, 68, 69, 70, 71, 72, 73, 74, 75, 76, 77, 78, 79, 80, 81, 82, 83, 84, 85, 86, 87, 88, 89, 90, 91, 92, 93, 94, 95, 96, 97, 98, 99, 100, 101, 102, 103, 104, 105, 106, 107, 108, 109, 110, 111, 112, 113, 114, 115, 116, 117, 118, 119, 120, 121, 122, 123, 124, 125, 126, 127, 128, 129, 130, 131, 132, 133, 134, 135, 136, 137, 138, 139, 140, 141, 142, 143, 144, 145, 146, 147, 148, 149, 150, 151, 152, 153, 154, 155, 156, 157, 158, 159, 160, 161, 162, 163, 164, 165, 166, 167, 168, 169, 170, 171, 172, 173, 174, 175, 176, 177, 178, 179, 180, 181, 182, 183, 184, 185, 186, 187, 188, 189, 190, 191, 192, 193, 194, 195, 196, 197, 198, 199, 200, 201, 202, 203, 204, 205, 206, 207, 208, 209, 210, 211, 212, 213, 214, 215, 216, 217, 218, 219, 220, 221, 222, 223, 224, 225, 226, 227, 228, 229] (by decide +kernel) (by decide +kernel)) (goodIn_sub (fun _ h => List.mem_cons_of_mem _ (List.mem_append_left _ (List.mem_append_right _ h))) (by decide +kernel))) (goodIn_sub (fun _ h => List.mem_cons_of_mem _ (List.mem_append_right _ h)) (by decide +kernel))
set_option maxRecDepth 20000 in
theorem gL_plan_X7_plan : GoodIn wsL_plan (wsV RL 7 RX7 yX7_plan wsX7_plan) := goodIn_app (goodIn_of _ (by decide +kernel)) ggL_plan_X7_plan
theorem dL_plan_0 : decode cL_plan 0 = .ok (.aload 5, 2) := by decide +kernel
theorem dL_plan_2 : decode cL_plan 2 = .ok (.iconst 0, 1) := by decide +kernel
theorem dL_plan_3 : decode cL_plan 3 = .ok (.aload_n 0, 1) := by decide +kernel
theorem dL_plan_4 : decode cL_plan 4 = .ok (.iload_n 1, 1) := by decide +kernel
theorem dL_plan_5 : decode cL_plan 5 = .ok (.iload_n 2, 1) := by decide +kernel
theorem dL_plan_6 : decode cL_plan 6 = .ok (.iload_n 3, 1) := by decide +kernel
theorem dL_plan_7 : decode cL_plan 7 = .ok (.iload 4, 2) := by decide +kernel
theorem dL_plan_9 : decode cL_plan 9 = .ok (.invokevirtual 7, 3) := by decide +kernel
theorem dL_plan_12 : decode cL_plan 12 = .ok (.i2l, 1) := by decide +kernel
theorem dL_plan_13 : decode cL_plan 13 = .ok (.lastore, 1) := by decide +kernel
theorem dL_plan_14 : decode cL_plan 14 = .ok (.goto 11, 3) := by decide +kernel
theorem dL_plan_17 : decode cL_plan 17 = .ok (.astore 6, 2) := by decide +kernel
theorem dL_plan_19 : decode cL_plan 19 = .ok (.iconst 1, 1) := by decide +kernel
theorem dL_plan_20 : decode cL_plan 20 = .ok (.ireturn, 1) := by decide +kernel
theorem dL_plan_21 : decode cL_plan 21 = .ok (.astore 6, 2) := by decide +kernel
theorem dL_plan_23 : decode cL_plan 23 = .ok (.iconst 2, 1) := by decide +kernel
theorem dL_plan_24 : decode cL_plan 24 = .ok (.ireturn, 1) := by decide +kernel
theorem dL_plan_25 : decode cL_plan 25 = .ok (.iconst 0, 1) := by decide +kernel
theorem dL_plan_26 : decode cL_plan 26 = .ok (.ireturn, 1) := by decide +kernel
set_option maxRecDepth 20000 in
theorem ggL_pillar_X7_pillar : GoodIn wsL_pillar wsX7_pillar := goodIn_ca (goodIn_ca (goodIn_r _ [7, 8, 9, 10, 11, 12, 13, 14, 15, 16, 6, 17, 18, 19, 20, 21, 22, 23, 24, 25, 26, 27, 28, 29, 30, 31, 32, 33, 34, 35, 36, 37, 38, 39, 40, 41, 42, 43, 44, 45, 46, 47, 48, 49, 50, 51, 52, 53, 54, 55, 56, 57, 58, 59, 60, 61, 62, 63, 64, 65, 66, 67, 68, 69, 70, 71, 72, 73, 74, 75, 76, 77, 78, 79, 80, 81, 82, 83, 84, 85, 86, 87, 88, 89, 90, 91, 92, 93, 94, 95, 96, 97, 98, 99, 100, 101, 102, 103, 104, 105, 106, 107, 108, 109, 110, 111, 112, 113, 114, 115, 116, 117, 118, 119, 120, 121, 122, 123, 124, 125, 126, 127, 128, 129, 130, 131, 132, 133, 134, 135, 136, 137, 138, 139, 140, 141, 142, 143, 144, 145, 146, 147, 148, 149, 150, 151, 152, 153, 154, 155, 156, 157, 158, 159, 160, 161, 162, 163, 164, 165, 166, 167, 168, 169, 170, 171, 172, 173, 174, 175, 176, 177, 178, 179, 180, 181, 182, 183, 184, 185, 186, 187, 188, 189, 190, 191, 192, 193, 194, 195, 196, 197, 198, 199, 200, 201, 202, 203, 204, 205, 206, 207, 208, 209, 210, 211, 212, 213, 214, 215, 216, 217, 218, 219, 220, 221, 222, 223, 224, 225, 226] (by decide +kernel) (by decide +kernel)) (goodIn_sub (fun _ h => List.mem_cons_of_mem _ (List.mem_append_left _ (List.mem_append_right _ h))) (by decide +kernel))) (goodIn_sub (fun _ h => List.mem_cons_of_mem _ (List.mem_append_right _ h)) (by decide +kernel))
set_option maxRecDepth 20000 in
theorem gL_pillar_X7_pillar : GoodIn wsL_pillar (wsV RL 17 RX7 yX7_pillar wsX7_pillar) := goodIn_app (goodIn_of _ (by decide +kernel)) ggL_pillar_X7_pillar
theorem dL_pillar_0 : decode cL_pillar 0 = .ok (.aload 4, 2) := by decide +kernel
theorem dL_pillar_2 : decode cL_pillar 2 = .ok (.iconst 0, 1) := by decide +kernel
theorem dL_pillar_3 : decode cL_pillar 3 = .ok (.aload_n 0, 1) := by decide +kernel
theorem dL_pillar_4 : decode cL_pillar 4 = .ok (.iload_n 1, 1) := by decide +kernel
theorem dL_pillar_5 : decode cL_pillar 5 = .ok (.iload_n 2, 1) := by decide +kernel
theorem dL_pillar_6 : decode cL_pillar 6 = .ok (.iload_n 3, 1) := by decide +kernel
theorem dL_pillar_7 : decode cL_pillar 7 = .ok (.invokevirtual 17, 3) := by decide +kernel
theorem dL_pillar_10 : decode cL_pillar 10 = .ok (.ifCond .eq 7, 3) := by decide +kernel
theorem dL_pillar_13 : decode cL_pillar 13 = .ok (.lconst 1, 1) := by decide +kernel
theorem dL_pillar_14 : decode cL_pillar 14 = .ok (.goto 4, 3) := by decide +kernel
theorem dL_pillar_17 : decode cL_pillar 17 = .ok (.lconst 0, 1) := by decide +kernel
theorem dL_pillar_18 : decode cL_pillar 18 = .ok (.lastore, 1) := by decide +kernel
theorem dL_pillar_19 : decode cL_pillar 19 = .ok (.goto 11, 3) := by decide +kernel
theorem dL_pillar_22 : decode cL_pillar 22 = .ok (.astore 5, 2) := by decide +kernel
theorem dL_pillar_24 : decode cL_pillar 24 = .ok (.iconst 1, 1) := by decide +kernel
theorem dL_pillar_25 : decode cL_pillar 25 = .ok (.ireturn, 1) := by decide +kernel
theorem dL_pillar_26 : decode cL_pillar 26 = .ok (.astore 5, 2) := by decide +kernel
theorem dL_pillar_28 : decode cL_pillar 28 = .ok (.iconst 2, 1) := by decide +kernel
theorem dL_pillar_29 : decode cL_pillar 29 = .ok (.ireturn, 1) := by decide +kernel
theorem dL_pillar_30 : decode cL_pillar 30 = .ok (.iconst 0, 1) := by decide +kernel
theorem dL_pillar_31 : decode cL_pillar 31 = .ok (.ireturn, 1) := by decide +kernel
set_option maxRecDepth 20000 in
theorem ggL_door_X7_door : GoodIn wsL_door wsX7_door := goodIn_ca (goodIn_r _ [6, 7, 8, 9, 10, 11, 12, 13, 14, 5, 15, 16, 17, 18, 19, 20, 21, 22, 23, 24, 25, 26, 27, 28, 29, 30, 31, 32, 33, 34, 35, 36, 37, 38, 39, 40, 41, 42, 43, 44, 45, 46, 47, 48, 49, 50, 51, 52, 53, 54, 55, 56, 57, 58, 59, 60, 61, 62, 63, 64, 65, 66, 67, 68, 69, 70, 71, 72, 73, 74, 75, 76, 77, 78, 79, 80, 81, 82, 83, 84, 85, 86, 87, 88, 89, 90, 91, 92, 93, 94, 95, 96, 97, 98, 99, 100, 101, 102, 103, 104, 105, 106, 107, 108, 109, 110, 111, 112, 113, 114, 115, 116, 117, 118, 119, 120, 121, 122, 123, 124, 125, 126, 127, 128, 129, 130, 131, 132, 133, 134, 135, 136, 137, 138, 139, 140, 141, 142, 143, 144, 145, 146, 147, 148, 149, 150, 151, 152, 153, 154, 155, 156, 157, 158, 159, 160, 161, 162, 163, 164, 165, 166, 167, 168, 169, 170, 171, 172, 173, 174, 175, 176, 177, 178, 179, 180, 181, 182, 183, 184, 185, 186, 187, 188, 189, 190, 191, 192, 193, 194, 195, 196, 197, 198, 199, 200, 201, 202, 203, 204, 205, 206, 207, 208, 209, 210, 211, 212, 213, 214, 215, 216, 217, 218, 219, 220, 221, 222] (by decide +kernel) (by decide +kernel)) (goodIn_sub (fun _ h => List.mem_cons_of_mem _ (List.mem_append_right _ h)) (by decide +kernel))
set_option maxRecDepth 20000 in
theorem gL_door_X7_door : GoodIn wsL_door (wsV RL 23 RX7 yX7_door wsX7_door) := goodIn_app (goodIn_of _ (by decide +kernel)) ggL_door_X7_door
theorem dL_door_0 : decode cL_door 0 = .ok (.aload_n 2, 1) := by decide +kernel
theorem dL_door_1 : decode cL_door 1 = .ok (.iconst 0, 1) := by decide +kernel
theorem dL_door_2 : decode cL_door 2 = .ok (.aload_n 0, 1) := by decide +kernel
theorem dL_door_3 : decode cL_door 3 = .ok (.iload_n 1, 1) := by decide +kernel
theorem dL_door_4 : decode cL_door 4 = .ok (.invokevirtual 23, 3) := by decide +kernel
theorem dL_door_7 : decode cL_door 7 = .ok (.i2l, 1) := by decide +kernel
theorem dL_door_8 : decode cL_door 8 = .ok (.lastore, 1) := by decide +kernel
theorem dL_door_9 : decode cL_door 9 = .ok (.goto 6, 3) := by decide +kernel
theorem dL_door_12 : decode cL_door 12 = .ok (.astore_n 3, 1) := by decide +kernel
theorem dL_door_13 : decode cL_door 13 = .ok (.iconst 1, 1) := by decide +kernel
theorem dL_door_14 : decode cL_door 14 = .ok (.ireturn, 1) := by decide +kernel
theorem dL_door_15 : decode cL_door 15 = .ok (.iconst 0, 1) := by decide +kernel
theorem dL_door_16 : decode cL_door 16 = .ok (.ireturn, 1) := by decide +kernel
set_option maxRecDepth 20000 in
theorem ggL_ofPiece_X7_ofPiece : GoodIn wsL_ofPiece wsX7_ofPiece := goodIn_ca (goodIn_ca (goodIn_r _ [7, 8, 9, 10, 11, 12, 13, 14, 15, 16, 17, 18, 19, 20, 21, 22, 23, 24, 25, 26, 27, 6, 28, 29, 30, 31, 32, 33, 34, 35, 36, 37, 38, 39, 40, 41, 42, 43, 44, 45, 46, 47, 48, 49, 50, 51, 52, 53, 54, 55, 56, 57, 58, 59, 60, 61, 62, 63, 64, 65, 66, 67, 68, 69, 70, 71, 72, 73, 74, 75] (by decide +kernel) (by decide +kernel)) (goodIn_sub (fun _ h => List.mem_cons_of_mem _ (List.mem_append_left _ (List.mem_append_right _ h))) (by decide +kernel))) (goodIn_sub (fun _ h => List.mem_cons_of_mem _ (List.mem_append_right _ h)) (by decide +kernel))
set_option maxRecDepth 20000 in
theorem gL_ofPiece_X7_ofPiece : GoodIn wsL_ofPiece (wsV RL 27 RX7 yX7_ofPiece wsX7_ofPiece) := goodIn_app (goodIn_of _ (by decide +kernel)) ggL_ofPiece_X7_ofPiece
theorem dL_ofPiece_0 : decode cL_ofPiece 0 = .ok (.aload_n 3, 1) := by decide +kernel
theorem dL_ofPiece_1 : decode cL_ofPiece 1 = .ok (.iconst 0, 1) := by decide +kernel
theorem dL_ofPiece_2 : decode cL_ofPiece 2 = .ok (.aload_n 0, 1) := by decide +kernel
theorem dL_ofPiece_3 : decode cL_ofPiece 3 = .ok (.iload_n 1, 1) := by decide +kernel
theorem dL_ofPiece_4 : decode cL_ofPiece 4 = .ok (.iload_n 2, 1) := by decide +kernel
theorem dL_ofPiece_5 : decode cL_ofPiece 5 = .ok (.invokevirtual 27, 3) := by decide +kernel
theorem dL_ofPiece_8 : decode cL_ofPiece 8 = .ok (.i2l, 1) := by decide +kernel
theorem dL_ofPiece_9 : decode cL_ofPiece 9 = .ok (.lastore, 1) := by decide +kernel
theorem dL_ofPiece_10 : decode cL_ofPiece 10 = .ok (.goto 11, 3) := by decide +kernel
theorem dL_ofPiece_13 : decode cL_ofPiece 13 = .ok (.astore 4, 2) := by decide +kernel
theorem dL_ofPiece_15 : decode cL_ofPiece 15 = .ok (.iconst 1, 1) := by decide +kernel
theorem dL_ofPiece_16 : decode cL_ofPiece 16 = .ok (.ireturn, 1) := by decide +kernel
theorem dL_ofPiece_17 : decode cL_ofPiece 17 = .ok (.astore 4, 2) := by decide +kernel
theorem dL_ofPiece_19 : decode cL_ofPiece 19 = .ok (.iconst 2, 1) := by decide +kernel
theorem dL_ofPiece_20 : decode cL_ofPiece 20 = .ok (.ireturn, 1) := by decide +kernel
theorem dL_ofPiece_21 : decode cL_ofPiece 21 = .ok (.iconst 0, 1) := by decide +kernel
theorem dL_ofPiece_22 : decode cL_ofPiece 22 = .ok (.ireturn, 1) := by decide +kernel
set_option maxRecDepth 20000 in
theorem ggL_pieceAt_X7_pieceAt : GoodIn wsL_pieceAt wsX7_pieceAt := goodIn_ca (goodIn_r _ [6, 7, 8, 9, 10, 11, 12, 5, 13, 14, 15, 16, 17, 18, 19, 20, 21, 22, 23, 24, 25, 26, 27, 28, 29, 30, 31, 32] (by decide +kernel) (by decide +kernel)) (goodIn_sub (fun _ h => List.mem_cons_of_mem _ (List.mem_append_right _ h)) (by decide +kernel))
set_option maxRecDepth 20000 in
theorem gL_pieceAt_X7_pieceAt : GoodIn wsL_pieceAt (wsV RL 31 RX7 yX7_pieceAt wsX7_pieceAt) := goodIn_app (goodIn_of _ (by decide +kernel)) ggL_pieceAt_X7_pieceAt
theorem dL_pieceAt_0 : decode cL_pieceAt 0 = .ok (.aload_n 3, 1) := by decide +kernel
theorem dL_pieceAt_1 : decode cL_pieceAt 1 = .ok (.iconst 0, 1) := by decide +kernel
theorem dL_pieceAt_2 : decode cL_pieceAt 2 = .ok (.aload_n 0, 1) := by decide +kernel
theorem dL_pieceAt_3 : decode cL_pieceAt 3 = .ok (.iload_n 1, 1) := by decide +kernel
theorem dL_pieceAt_4 : decode cL_pieceAt 4 = .ok (.iload_n 2, 1) := by decide +kernel
theorem dL_pieceAt_5 : decode cL_pieceAt 5 = .ok (.invokevirtual 31, 3) := by decide +kernel
theorem dL_pieceAt_8 : decode cL_pieceAt 8 = .ok (.i2l, 1) := by decide +kernel
theorem dL_pieceAt_9 : decode cL_pieceAt 9 = .ok (.lastore, 1) := by decide +kernel
theorem dL_pieceAt_10 : decode cL_pieceAt 10 = .ok (.goto 7, 3) := by decide +kernel
theorem dL_pieceAt_13 : decode cL_pieceAt 13 = .ok (.astore 4, 2) := by decide +kernel
theorem dL_pieceAt_15 : decode cL_pieceAt 15 = .ok (.iconst 1, 1) := by decide +kernel
theorem dL_pieceAt_16 : decode cL_pieceAt 16 = .ok (.ireturn, 1) := by decide +kernel
theorem dL_pieceAt_17 : decode cL_pieceAt 17 = .ok (.iconst 0, 1) := by decide +kernel
theorem dL_pieceAt_18 : decode cL_pieceAt 18 = .ok (.ireturn, 1) := by decide +kernel
set_option maxRecDepth 20000 in
theorem ggL_rest_X7_rest : GoodIn wsL_rest wsX7_rest := goodIn_ca (goodIn_r _ [6, 7, 8, 9, 10, 11, 12, 13, 14, 15, 16, 17, 18, 19, 20, 21, 22, 23, 24, 25, 26, 27, 28, 29, 30, 31, 32, 33, 34] (by decide +kernel) (by decide +kernel)) (goodIn_sub (fun _ h => List.mem_cons_of_mem _ (List.mem_append_right _ h)) (by decide +kernel))
set_option maxRecDepth 20000 in
theorem gL_rest_X7_rest : GoodIn wsL_rest (wsV RL 34 RX7 yX7_rest wsX7_rest) := goodIn_app (goodIn_of _ (by decide +kernel)) ggL_rest_X7_rest
theorem dL_rest_0 : decode cL_rest 0 = .ok (.aload_n 2, 1) := by decide +kernel
theorem dL_rest_1 : decode cL_rest 1 = .ok (.iconst 0, 1) := by decide +kernel
theorem dL_rest_2 : decode cL_rest 2 = .ok (.aload_n 0, 1) := by decide +kernel
theorem dL_rest_3 : decode cL_rest 3 = .ok (.iload_n 1, 1) := by decide +kernel
theorem dL_rest_4 : decode cL_rest 4 = .ok (.invokevirtual 34, 3) := by decide +kernel
theorem dL_rest_7 : decode cL_rest 7 = .ok (.i2l, 1) := by decide +kernel
theorem dL_rest_8 : decode cL_rest 8 = .ok (.lastore, 1) := by decide +kernel
theorem dL_rest_9 : decode cL_rest 9 = .ok (.goto 6, 3) := by decide +kernel
theorem dL_rest_12 : decode cL_rest 12 = .ok (.astore_n 3, 1) := by decide +kernel
theorem dL_rest_13 : decode cL_rest 13 = .ok (.iconst 1, 1) := by decide +kernel
theorem dL_rest_14 : decode cL_rest 14 = .ok (.ireturn, 1) := by decide +kernel
theorem dL_rest_15 : decode cL_rest 15 = .ok (.iconst 0, 1) := by decide +kernel
theorem dL_rest_16 : decode cL_rest 16 = .ok (.ireturn, 1) := by decide +kernel
set_option maxRecDepth 20000 in
theorem ggL_crate_X7_crate : GoodIn wsL_crate wsX7_crate := goodIn_ca (goodIn_ca (goodIn_r _ [7, 8, 9, 10, 11, 12, 13, 14, 15, 6, 16, 17, 18, 19, 20, 21, 22, 23, 24, 25, 26, 27, 28, 29, 30, 31, 32, 33, 34, 35, 36, 37, 38, 39, 40, 41, 42] (by decide +kernel) (by decide +kernel)) (goodIn_sub (fun _ h => List.mem_cons_of_mem _ (List.mem_append_left _ (List.mem_append_right _ h))) (by decide +kernel))) (goodIn_sub (fun _ h => List.mem_cons_of_mem _ (List.mem_append_right _ h)) (by decide +kernel))
set_option maxRecDepth 20000 in
theorem gL_crate_X7_crate : GoodIn wsL_crate (wsV RL 37 RX7 yX7_crate wsX7_crate) := goodIn_app (goodIn_of _ (by decide +kernel)) ggL_crate_X7_crate
theorem dL_crate_0 : decode cL_crate 0 = .ok (.aload_n 3, 1) := by decide +kernel
theorem dL_crate_1 : decode cL_crate 1 = .ok (.iconst 0, 1) := by decide +kernel
theorem dL_crate_2 : decode cL_crate 2 = .ok (.aload_n 0, 1) := by decide +kernel
theorem dL_crate_3 : decode cL_crate 3 = .ok (.iload_n 1, 1) := by decide +kernel
theorem dL_crate_4 : decode cL_crate 4 = .ok (.iload_n 2, 1) := by decide +kernel
theorem dL_crate_5 : decode cL_crate 5 = .ok (.invokevirtual 37, 3) := by decide +kernel
theorem dL_crate_8 : decode cL_crate 8 = .ok (.i2l, 1) := by decide +kernel
theorem dL_crate_9 : decode cL_crate 9 = .ok (.lastore, 1) := by decide +kernel
theorem dL_crate_10 : decode cL_crate 10 = .ok (.goto 11, 3) := by decide +kernel
theorem dL_crate_13 : decode cL_crate 13 = .ok (.astore 4, 2) := by decide +kernel
theorem dL_crate_15 : decode cL_crate 15 = .ok (.iconst 1, 1) := by decide +kernel
theorem dL_crate_16 : decode cL_crate 16 = .ok (.ireturn, 1) := by decide +kernel
theorem dL_crate_17 : decode cL_crate 17 = .ok (.astore 4, 2) := by decide +kernel
theorem dL_crate_19 : decode cL_crate 19 = .ok (.iconst 2, 1) := by decide +kernel
theorem dL_crate_20 : decode cL_crate 20 = .ok (.ireturn, 1) := by decide +kernel
theorem dL_crate_21 : decode cL_crate 21 = .ok (.iconst 0, 1) := by decide +kernel
theorem dL_crate_22 : decode cL_crate 22 = .ok (.ireturn, 1) := by decide +kernel
set_option maxRecDepth 20000 in
theorem ggL_fetch_X7_fetch : GoodIn wsL_fetch wsX7_fetch := goodIn_ca (goodIn_r _ [6, 7, 8, 9, 10, 11, 5, 12, 13, 14, 15, 16, 17, 18, 19, 20, 21, 22, 23, 24, 25, 26, 27, 28, 29, 30, 31, 32, 33, 34, 35, 36, 37, 38, 39, 40, 41, 42, 43] (by decide +kernel) (by decide +kernel)) (goodIn_sub (fun _ h => List.mem_cons_of_mem _ (List.mem_append_right _ h)) (by decide +kernel))
set_option maxRecDepth 20000 in
theorem gL_fetch_X7_fetch : GoodIn wsL_fetch (wsV RL 40 RX7 yX7_fetch wsX7_fetch) := goodIn_app (goodIn_of _ (by decide +kernel)) ggL_fetch_X7_fetch
theorem dL_fetch_0 : decode cL_fetch 0 = .ok (.aload_n 2, 1) := by decide +kernel
theorem dL_fetch_1 : decode cL_fetch 1 = .ok (.iconst 0, 1) := by decide +kernel
theorem dL_fetch_2 : decode cL_fetch 2 = .ok (.aload_n 0, 1) := by decide +kernel
theorem dL_fetch_3 : decode cL_fetch 3 = .ok (.iload_n 1, 1) := by decide +kernel
theorem dL_fetch_4 : decode cL_fetch 4 = .ok (.invokevirtual 40, 3) := by decide +kernel
theorem dL_fetch_7 : decode cL_fetch 7 = .ok (.i2l, 1) := by decide +kernel
theorem dL_fetch_8 : decode cL_fetch 8 = .ok (.lastore, 1) := by decide +kernel
theorem dL_fetch_9 : decode cL_fetch 9 = .ok (.goto 6, 3) := by decide +kernel
theorem dL_fetch_12 : decode cL_fetch 12 = .ok (.astore_n 3, 1) := by decide +kernel
theorem dL_fetch_13 : decode cL_fetch 13 = .ok (.iconst 1, 1) := by decide +kernel
theorem dL_fetch_14 : decode cL_fetch 14 = .ok (.ireturn, 1) := by decide +kernel
theorem dL_fetch_15 : decode cL_fetch 15 = .ok (.iconst 0, 1) := by decide +kernel
theorem dL_fetch_16 : decode cL_fetch 16 = .ok (.ireturn, 1) := by decide +kernel
set_option maxRecDepth 20000 in
theorem ggL_grout_X7_grout : GoodIn wsL_grout wsX7_grout := goodIn_ca (goodIn_r _ [6, 7, 8, 9, 10, 11, 12, 5, 13, 14, 15, 16, 17, 18, 19, 20, 21, 22, 23, 24, 25] (by decide +kernel) (by decide +kernel)) (goodIn_sub (fun _ h => List.mem_cons_of_mem _ (List.mem_append_right _ h)) (by decide +kernel))
set_option maxRecDepth 20000 in
theorem gL_grout_X7_grout : GoodIn wsL_grout (wsV RL 43 RX7 yX7_grout wsX7_grout) := goodIn_app (goodIn_of _ (by decide +kernel)) ggL_grout_X7_grout
theorem dL_grout_0 : decode cL_grout 0 = .ok (.aload_n 2, 1) := by decide +kernel
theorem dL_grout_1 : decode cL_grout 1 = .ok (.iconst 0, 1) := by decide +kernel
theorem dL_grout_2 : decode cL_grout 2 = .ok (.aload_n 0, 1) := by decide +kernel
theorem dL_grout_3 : decode cL_grout 3 = .ok (.iload_n 1, 1) := by decide +kernel
theorem dL_grout_4 : decode cL_grout 4 = .ok (.invokevirtual 43, 3) := by decide +kernel
theorem dL_grout_7 : decode cL_grout 7 = .ok (.i2l, 1) := by decide +kernel
theorem dL_grout_8 : decode cL_grout 8 = .ok (.lastore, 1) := by decide +kernel
theorem dL_grout_9 : decode cL_grout 9 = .ok (.goto 6, 3) := by decide +kernel
theorem dL_grout_12 : decode cL_grout 12 = .ok (.astore_n 3, 1) := by decide +kernel
theorem dL_grout_13 : decode cL_grout 13 = .ok (.iconst 1, 1) := by decide +kernel
theorem dL_grout_14 : decode cL_grout 14 = .ok (.ireturn, 1) := by decide +kernel
theorem dL_grout_15 : decode cL_grout 15 = .ok (.iconst 0, 1) := by decide +kernel
theorem dL_grout_16 : decode cL_grout 16 = .ok (.ireturn, 1) := by decide +kernel
set_option maxRecDepth 20000 in
theorem ggL_lay_X7_lay : GoodIn wsL_lay wsX7_lay := goodIn_ca (goodIn_ca (goodIn_r _ [7, 8, 9, 10, 11, 12, 13, 14, 15, 16, 17, 18, 19, 20, 21, 22, 23, 24, 25, 26, 27, 28, 29, 30, 31, 32, 33, 34, 35, 36, 37, 38, 6, 39, 40, 41, 42, 43, 44, 45, 46, 47, 48, 49, 50, 51, 52, 53, 54, 55, 56, 57, 58, 59, 60, 61, 62, 63, 64, 65, 66, 67, 68, 69, 70, 71, 72, 73, 74, 75, 76, 77, 78, 79, 80, 81, 82, 83, 84, 85, 86, 87, 88, 89, 90, 91, 92, 93, 94, 95, 96, 97, 98] (by decide +kernel) (by decide +kernel)) (goodIn_sub (fun _ h => List.mem_cons_of_mem _ (List.mem_append_left _ (List.mem_append_right _ h))) (by decide +kernel))) (goodIn_sub (fun _ h => List.mem_cons_of_mem _ (List.mem_append_right _ h)) (by decide +kernel))
set_option maxRecDepth 20000 in
theorem gL_lay_X7_lay : GoodIn wsL_lay (wsV RL 46 RX7 yX7_lay wsX7_lay) := goodIn_app (goodIn_of _ (by decide +kernel)) ggL_lay_X7_lay
theorem dL_lay_0 : decode cL_lay 0 = .ok (.aload_n 2, 1) := by decide +kernel
theorem dL_lay_1 : decode cL_lay 1 = .ok (.iconst 0, 1) := by decide +kernel
theorem dL_lay_2 : decode cL_lay 2 = .ok (.aload_n 0, 1) := by decide +kernel
theorem dL_lay_3 : decode cL_lay 3 = .ok (.iload_n 1, 1) := by decide +kernel
theorem dL_lay_4 : decode cL_lay 4 = .ok (.invokevirtual 46, 3) := by decide +kernel
theorem dL_lay_7 : decode cL_lay 7 = .ok (.i2l, 1) := by decide +kernel
theorem dL_lay_8 : decode cL_lay 8 = .ok (.lastore, 1) := by decide +kernel
theorem dL_lay_9 : decode cL_lay 9 = .ok (.goto 9, 3) := by decide +kernel
theorem dL_lay_12 : decode cL_lay 12 = .ok (.astore_n 3, 1) := by decide +kernel
theorem dL_lay_13 : decode cL_lay 13 = .ok (.iconst 1, 1) := by decide +kernel
theorem dL_lay_14 : decode cL_lay 14 = .ok (.ireturn, 1) := by decide +kernel
theorem dL_lay_15 : decode cL_lay 15 = .ok (.astore_n 3, 1) := by decide +kernel
theorem dL_lay_16 : decode cL_lay 16 = .ok (.iconst 2, 1) := by decide +kernel
theorem dL_lay_17 : decode cL_lay 17 = .ok (.ireturn, 1) := by decide +kernel
theorem dL_lay_18 : decode cL_lay 18 = .ok (.iconst 0, 1) := by decide +kernel
theorem dL_lay_19 : decode cL_lay 19 = .ok (.ireturn, 1) := by decide +kernel
set_option maxRecDepth 20000 in
theorem ggL_dry_X7_dry : GoodIn wsL_dry wsX7_dry := goodIn_ca (goodIn_r _ [6, 7, 8, 9, 10, 11, 12, 13, 14, 15, 16, 17, 18, 19, 20, 21, 22, 23, 24, 25, 26, 27, 28, 29, 30, 31, 32, 33, 34, 5, 35, 36, 37, 38, 39, 40, 41, 42, 43, 44, 45, 46, 47, 48, 49, 50, 51, 52, 53, 54, 55, 56, 57, 58, 59, 60, 61, 62] (by decide +kernel) (by decide +kernel)) (goodIn_sub (fun _ h => List.mem_cons_of_mem _ (List.mem_append_right _ h)) (by decide +kernel))
set_option maxRecDepth 20000 in
theorem gL_dry_X7_dry : GoodIn wsL_dry (wsV RL 49 RX7 yX7_dry wsX7_dry) := goodIn_app (goodIn_of _ (by decide +kernel)) ggL_dry_X7_dry
theorem dL_dry_0 : decode cL_dry 0 = .ok (.aload_n 2, 1) := by decide +kernel
theorem dL_dry_1 : decode cL_dry 1 = .ok (.iconst 0, 1) := by decide +kernel
theorem dL_dry_2 : decode cL_dry 2 = .ok (.aload_n 0, 1) := by decide +kernel
theorem dL_dry_3 : decode cL_dry 3 = .ok (.iload_n 1, 1) := by decide +kernel
theorem dL_dry_4 : decode cL_dry 4 = .ok (.invokevirtual 49, 3) := by decide +kernel
theorem dL_dry_7 : decode cL_dry 7 = .ok (.i2l, 1) := by decide +kernel
theorem dL_dry_8 : decode cL_dry 8 = .ok (.lastore, 1) := by decide +kernel
theorem dL_dry_9 : decode cL_dry 9 = .ok (.goto 6, 3) := by decide +kernel
theorem dL_dry_12 : decode cL_dry 12 = .ok (.astore_n 3, 1) := by decide +kernel
theorem dL_dry_13 : decode cL_dry 13 = .ok (.iconst 1, 1) := by decide +kernel
theorem dL_dry_14 : decode cL_dry 14 = .ok (.ireturn, 1) := by decide +kernel
theorem dL_dry_15 : decode cL_dry 15 = .ok (.iconst 0, 1) := by decide +kernel
theorem dL_dry_16 : decode cL_dry 16 = .ok (.ireturn, 1) := by decide +kernel
set_option maxRecDepth 20000 in
theorem ggL_pass_X7_pass : GoodIn wsL_pass wsX7_pass := goodIn_ca (goodIn_r _ [6, 7, 8, 9, 10, 11, 12, 5, 13, 14, 15, 16, 17, 18, 19, 20, 21, 22, 23, 24, 25] (by decide +kernel) (by decide +kernel)) (goodIn_sub (fun _ h => List.mem_cons_of_mem _ (List.mem_append_right _ h)) (by decide +kernel))
set_option maxRecDepth 20000 in
theorem gL_pass_X7_pass : GoodIn wsL_pass (wsV RL 52 RX7 yX7_pass wsX7_pass) := goodIn_app (goodIn_of _ (by decide +kernel)) ggL_pass_X7_pass
theorem dL_pass_0 : decode cL_pass 0 = .ok (.aload_n 2, 1) := by decide +kernel
theorem dL_pass_1 : decode cL_pass 1 = .ok (.iconst 0, 1) := by decide +kernel
theorem dL_pass_2 : decode cL_pass 2 = .ok (.aload_n 0, 1) := by decide +kernel
theorem dL_pass_3 : decode cL_pass 3 = .ok (.iload_n 1, 1) := by decide +kernel
theorem dL_pass_4 : decode cL_pass 4 = .ok (.invokevirtual 52, 3) := by decide +kernel
theorem dL_pass_7 : decode cL_pass 7 = .ok (.i2l, 1) := by decide +kernel
theorem dL_pass_8 : decode cL_pass 8 = .ok (.lastore, 1) := by decide +kernel
theorem dL_pass_9 : decode cL_pass 9 = .ok (.goto 6, 3) := by decide +kernel
theorem dL_pass_12 : decode cL_pass 12 = .ok (.astore_n 3, 1) := by decide +kernel
theorem dL_pass_13 : decode cL_pass 13 = .ok (.iconst 1, 1) := by decide +kernel
theorem dL_pass_14 : decode cL_pass 14 = .ok (.ireturn, 1) := by decide +kernel
theorem dL_pass_15 : decode cL_pass 15 = .ok (.iconst 0, 1) := by decide +kernel
theorem dL_pass_16 : decode cL_pass 16 = .ok (.ireturn, 1) := by decide +kernel
set_option maxRecDepth 20000 in
theorem ggL_law_X7_init : GoodIn wsL_law wsX7_init := goodIn_r _ [9, 10, 11, 12, 13, 14, 15, 16, 17, 18, 19, 20, 21, 22, 23, 24, 25, 26, 27, 28, 29, 30, 31, 32, 33, 34, 35, 36, 37, 38, 39, 40, 41, 42, 43, 44, 45, 46, 47, 48, 49, 50, 51, 52, 53, 54, 55, 56, 57, 58, 59, 60, 61, 62, 63, 64, 65, 66, 67, 68, 69, 70, 71, 72, 73, 74, 75, 76, 77, 78, 79, 80, 81, 82, 83, 84, 85, 86, 87, 88, 89, 90, 91, 92, 93, 94, 95, 96, 97, 98, 99, 100, 101, 102, 2, 103, 104, 105, 106, 107, 108, 109, 110, 111, 112, 113, 114, 115, 116, 117, 118, 119, 120, 121, 122, 123, 124, 125, 126, 127, 128, 129, 130, 131, 132, 133, 134, 135, 136, 137, 138, 139, 140, 141, 142, 143, 144, 145, 146, 147, 148, 149, 150, 151, 152, 153, 154, 155, 156, 157, 158, 159, 160, 161, 162, 163, 164, 165, 166, 167, 168, 169, 170, 171, 172, 173, 174, 175, 176, 177, 178, 179, 180, 181, 182, 183, 184, 185, 186, 187, 188, 189, 190, 191, 192, 193, 194, 195, 196, 197, 198, 199, 200, 201, 202, 203, 204, 205, 206, 207, 208, 209, 210, 211, 212, 213, 214, 215, 216, 217, 218, 219, 220, 221, 222, 223, 224, 225, 226, 227, 228, 229, 230, 231, 232, 643, 644, 645, 646, 605, 606, 607, 608, 609, 610, 611, 647, 648, 649, 650, 651, 652, 653, 654, 655, 656, 657, 658, 659, 660, 661, 662, 663, 664, 665, 666, 667, 668, 669, 670, 671, 672, 673, 674, 675, 676, 677] (by decide +kernel) (by decide +kernel)
set_option maxRecDepth 20000 in
theorem gL_law_X7_init : GoodIn wsL_law (wsX7_init) := ggL_law_X7_init
set_option maxRecDepth 20000 in
theorem ggL_law_X8_init : GoodIn wsL_law wsX8_init := goodIn_r _ [235, 236, 11, 12, 237, 238, 59, 239, 240, 241, 242, 243, 244, 245, 246, 247, 248, 249, 250, 251, 252, 253, 254, 255, 256, 257, 258, 259, 5, 260, 261, 262, 263, 264, 265, 266, 267, 268, 269, 270, 271, 272, 273, 274, 275, 276, 277, 278, 279, 280, 281, 282, 283, 284, 285, 286, 287, 288, 289, 290, 291, 292, 293, 294, 295, 296, 297, 612, 613, 614, 615, 616, 617, 618, 619, 620, 621, 622, 623, 624, 625, 626, 627, 628, 629, 630, 631, 632, 633, 634, 635, 636, 637, 638, 639, 640, 641, 642] (by decide +kernel) (by decide +kernel)
set_option maxRecDepth 20000 in
theorem gL_law_X8_init : GoodIn wsL_law (wsX8_init) := ggL_law_X8_init
set_option maxRecDepth 20000 in
theorem ggL_law_L_plan : GoodIn wsL_law wsL_plan := goodIn_ca (goodIn_ca (goodIn_r _ [301, 302, 303, 304, 305, 306, 2, 307, 308, 309, 310, 311, 36, 312, 16, 24, 313, 314, 315, 316, 317, 318, 319, 15, 320, 44, 45, 46, 47, 100, 101, 102, 103, 20, 28, 104, 105, 106, 19, 107, 108, 109, 110, 111, 112, 113, 114, 115, 116, 117, 118, 119, 120, 121, 122, 123, 124, 125, 126, 127, 128, 35, 129, 98, 130, 131, 132, 133, 53, 52, 134, 135, 136, 137, 138, 139, 140, 141, 54, 142, 143, 144, 23, 145, 58, 60, 146, 147, 148, 149, 150, 151, 152, 153, 154, 155, 156, 157, 62, 63, 68, 61, 64, 158, 159, 160, 161, 162, 163, 164, 165, 166, 167, 168, 169, 170, 171, 172, 173, 174, 175, 176, 177, 178, 179, 180, 181, 182, 183, 184, 185, 39, 186, 72, 73, 74, 75, 187, 188, 189, 190, 191, 192, 193, 194, 195, 196, 65, 66, 197, 198, 199, 200, 27, 201, 79, 81, 80, 202, 203, 204, 205, 206, 207, 208, 209, 210, 211, 212, 82, 83, 84, 213, 214, 215, 216, 217, 218, 219, 220, 221, 222, 223, 224, 225, 226, 227, 228, 229, 230, 231, 232, 605, 606, 607, 608, 609, 610, 611, 669, 670, 671, 672, 673, 650, 651, 652, 653, 654, 655, 656, 657, 658, 643, 644, 645, 646, 647, 648, 649, 674, 675, 676, 677, 659, 660, 661, 662, 663, 664] (by decide +kernel) (by decide +kernel)) (goodIn_sub (fun _ h => List.mem_append_left _ (List.mem_append_left _ (List.mem_append_right _ h))) (by decide +kernel))) (goodIn_sub (fun _ h => List.mem_append_left _ (List.mem_append_right _ h)) (by decide +kernel))
set_option maxRecDepth 20000 in
theorem gL_law_L_plan : GoodIn wsL_law (va_wsS RL 59 yL_plan wsL_plan) := goodIn_app (goodIn_of _ (by decide +kernel)) ggL_law_L_plan
set_option maxRecDepth 20000 in
theorem ggL_law_X8_plan : GoodIn wsL_law wsX8_plan := goodIn_r _ [324, 325, 237, 238, 278, 283, 265, 326, 327, 328, 5, 329, 330, 331, 332, 333, 334, 261, 262, 263, 264, 249, 242, 243, 245, 246, 247, 248, 241, 266, 267, 268, 269, 239, 240, 270, 271, 272, 273, 274, 275, 276, 277, 279, 280, 281, 282, 284, 285, 286, 287, 288, 289, 244, 252, 250, 251, 290, 291, 292, 293, 294, 295, 296, 297, 612, 613, 614, 615, 616, 617, 618, 619, 620, 621, 622, 623, 624, 625, 626, 627, 628, 629, 630, 631, 632, 633, 634, 635, 636, 637, 638, 639, 640, 641, 642] (by decide +kernel) (by decide +kernel)
set_option maxRecDepth 20000 in
theorem gL_law_X8_plan : GoodIn wsL_law (wsV RL 64 RX8 yX8_plan wsX8_plan) := goodIn_app (goodIn_of _ (by decide +kernel)) ggL_law_X8_plan
set_option maxRecDepth 20000 in
theorem ggL_law_X8_thrown : GoodIn wsL_law wsX8_thrown := goodIn_r _ [338, 334, 612, 613, 614, 615, 616, 617, 618, 619, 620, 621, 622, 623, 624, 625, 626, 627, 628, 629, 630, 631, 632, 633, 634, 635, 636, 637, 638, 639, 640, 641, 642] (by decide +kernel) (by decide +kernel)
set_option maxRecDepth 20000 in
theorem gL_law_X8_thrown : GoodIn wsL_law (wsV RL 65 RX8 yX8_thrown wsX8_thrown) := goodIn_app (goodIn_of _ (by decide +kernel)) ggL_law_X8_thrown
set_option maxRecDepth 20000 in
theorem ggL_law_L_pillar : GoodIn wsL_law wsL_pillar := goodIn_ca (goodIn_ca (goodIn_r _ [341, 342, 303, 343, 344, 345, 2, 346, 347, 348, 310, 311, 36, 312, 20, 349, 134, 135, 350, 351, 352, 19, 353, 52, 136, 137, 100, 101, 102, 103, 16, 24, 28, 104, 105, 106, 107, 108, 109, 110, 15, 111, 46, 112, 113, 114, 115, 116, 117, 118, 119, 120, 121, 122, 123, 45, 124, 125, 126, 127, 128, 35, 129, 98, 130, 131, 132, 133, 53, 138, 139, 140, 141, 54, 142, 143, 144, 23, 145, 58, 60, 146, 147, 148, 149, 150, 151, 152, 153, 154, 155, 156, 157, 62, 63, 68, 61, 64, 158, 159, 160, 161, 162, 163, 164, 165, 166, 167, 47, 44, 168, 169, 170, 171, 172, 173, 174, 175, 176, 177, 178, 179, 180, 181, 182, 183, 184, 185, 39, 186, 72, 73, 74, 75, 187, 188, 189, 190, 191, 192, 193, 194, 195, 196, 65, 66, 197, 198, 199, 200, 27, 201, 79, 81, 80, 202, 203, 204, 205, 206, 207, 208, 209, 210, 211, 212, 82, 83, 84, 213, 214, 215, 216, 217, 218, 219, 220, 221, 222, 223, 224, 225, 226, 227, 228, 229, 230, 231, 232, 605, 606, 607, 608, 609, 610, 611, 669, 670, 671, 672, 673, 647, 648, 649, 643, 644, 645, 646, 650, 651, 652, 653, 654, 655, 656, 657, 658, 674, 675, 676, 677, 659, 660, 661, 662, 663, 664] (by decide +kernel) (by decide +kernel)) (goodIn_sub (fun _ h => List.mem_append_right _ h) (by decide +kernel))) (goodIn_sub (fun _ h => List.mem_append_left _ (List.mem_append_right _ h)) (by decide +kernel))
set_option maxRecDepth 20000 in
theorem gL_law_L_pillar : GoodIn wsL_law (va_wsS RL 69 yL_pillar wsL_pillar) := goodIn_app (goodIn_of _ (by decide +kernel)) ggL_law_L_pillar
set_option maxRecDepth 20000 in
theorem ggL_law_X8_pillar : GoodIn wsL_law wsX8_pillar := goodIn_r _ [357, 325, 239, 326, 327, 328, 5, 329, 330, 331, 332, 333, 334, 261, 262, 263, 264, 265, 249, 242, 243, 245, 246, 247, 248, 241, 237, 238, 266, 267, 268, 269, 240, 270, 271, 272, 273, 274, 275, 276, 277, 278, 279, 280, 281, 282, 283, 284, 285, 286, 287, 288, 289, 244, 252, 250, 251, 290, 291, 292, 293, 294, 295, 296, 297, 612, 613, 614, 615, 616, 617, 618, 619, 620, 621, 622, 623, 624, 625, 626, 627, 628, 629, 630, 631, 632, 633, 634, 635, 636, 637, 638, 639, 640, 641, 642] (by decide +kernel) (by decide +kernel)
set_option maxRecDepth 20000 in
theorem gL_law_X8_pillar : GoodIn wsL_law (wsV RL 72 RX8 yX8_pillar wsX8_pillar) := goodIn_app (goodIn_of _ (by decide +kernel)) ggL_law_X8_pillar
set_option maxRecDepth 20000 in
theorem ggL_law_L_door : GoodIn wsL_law wsL_door := goodIn_ca (goodIn_r _ [360, 342, 361, 362, 363, 2, 364, 347, 348, 20, 365, 24, 313, 314, 315, 316, 100, 101, 102, 103, 16, 36, 28, 104, 105, 106, 19, 107, 108, 109, 110, 15, 111, 46, 112, 113, 114, 115, 116, 117, 118, 119, 120, 121, 122, 123, 45, 124, 125, 126, 127, 128, 35, 129, 98, 130, 131, 132, 133, 53, 52, 134, 135, 136, 137, 138, 139, 140, 141, 54, 142, 143, 144, 23, 145, 58, 60, 146, 147, 148, 149, 150, 151, 152, 153, 154, 155, 156, 157, 62, 63, 68, 61, 64, 158, 159, 160, 161, 162, 163, 164, 165, 166, 167, 47, 44, 168, 169, 170, 171, 172, 173, 174, 175, 176, 177, 178, 179, 180, 181, 182, 183, 184, 185, 39, 186, 72, 73, 74, 75, 187, 188, 189, 190, 191, 192, 193, 194, 195, 196, 65, 66, 197, 198, 199, 200, 27, 201, 79, 81, 80, 202, 203, 204, 205, 206, 207, 208, 209, 210, 211, 212, 82, 83, 84, 213, 214, 215, 216, 217, 218, 219, 220, 221, 222, 223, 224, 225, 226, 227, 228, 229, 230, 231, 232, 605, 606, 607, 608, 609, 610, 611, 647, 648, 649, 650, 651, 652, 653, 654, 655, 656, 657, 658, 643, 644, 645, 646, 669, 670, 671, 672, 673, 674, 675, 676, 677, 659, 660, 661, 662, 663, 664] (by decide +kernel) (by decide +kernel)) (goodIn_sub (fun _ h => List.mem_append_right _ h) (by decide +kernel))
set_option maxRecDepth 20000 in
theorem gL_law_L_door : GoodIn wsL_law (va_wsS RL 73 yL_door wsL_door) := goodIn_app (goodIn_of _ (by decide +kernel)) ggL_law_L_door
set_option maxRecDepth 20000 in
theorem ggL_law_X8_door : GoodIn wsL_law wsX8_door := goodIn_r _ [369, 370, 255, 240, 265, 326, 327, 328, 5, 329, 330, 331, 332, 333, 334, 261, 262, 263, 264, 249, 242, 243, 245, 246, 247, 248, 241, 237, 238, 266, 267, 268, 269, 239, 270, 271, 272, 273, 274, 275, 276, 277, 278, 279, 280, 281, 282, 283, 284, 285, 286, 287, 288, 289, 244, 252, 250, 251, 290, 291, 292, 293, 294, 295, 296, 297, 612, 613, 614, 615, 616, 617, 618, 619, 620, 621, 622, 623, 624, 625, 626, 627, 628, 629, 630, 631, 632, 633, 634, 635, 636, 637, 638, 639, 640, 641, 642] (by decide +kernel) (by decide +kernel)
set_option maxRecDepth 20000 in
theorem gL_law_X8_door : GoodIn wsL_law (wsV RL 76 RX8 yX8_door wsX8_door) := goodIn_app (goodIn_of _ (by decide +kernel)) ggL_law_X8_door
set_option maxRecDepth 20000 in
theorem ggL_law_L_ofPiece : GoodIn wsL_law wsL_ofPiece := goodIn_ca (goodIn_ca (goodIn_r _ [373, 342, 302, 374, 375, 376, 2, 377, 347, 348, 308, 309, 24, 378, 379, 380, 381, 16, 28, 382, 383, 161, 162, 23, 163, 58, 314, 315, 316, 384, 109, 110, 15, 111, 46, 112, 113, 114, 115, 116, 117, 118, 119, 120, 121, 122, 123, 45, 124, 125, 605, 606, 607, 608, 609, 610, 611, 650, 651, 652, 653, 654, 655, 656, 657, 658, 659, 660, 661, 662, 663, 664, 643, 644, 645, 646] (by decide +kernel) (by decide +kernel)) (goodIn_sub (fun _ h => List.mem_append_right _ h) (by decide +kernel))) (goodIn_sub (fun _ h => List.mem_append_left _ (List.mem_append_left _ (List.mem_append_right _ h))) (by decide +kernel))
set_option maxRecDepth 20000 in
theorem gL_law_L_ofPiece : GoodIn wsL_law (va_wsS RL 77 yL_ofPiece wsL_ofPiece) := goodIn_app (goodIn_of _ (by decide +kernel)) ggL_law_L_ofPiece
set_option maxRecDepth 20000 in
theorem ggL_law_X8_ofPiece : GoodIn wsL_law wsX8_ofPiece := goodIn_r _ [388, 265, 241, 242, 243, 244, 326, 327, 328, 5, 329, 330, 331, 332, 333, 334, 389, 390, 391, 392, 278, 238, 393, 394, 395, 396, 612, 613, 614, 615, 616, 617, 618, 619, 620, 621, 622, 623, 624, 625, 626, 627, 628, 629, 630, 631, 632, 633, 634, 635, 636, 637, 638, 639, 640, 641, 642] (by decide +kernel) (by decide +kernel)
set_option maxRecDepth 20000 in
theorem gL_law_X8_ofPiece : GoodIn wsL_law (wsV RL 80 RX8 yX8_ofPiece wsX8_ofPiece) := goodIn_app (goodIn_of _ (by decide +kernel)) ggL_law_X8_ofPiece
set_option maxRecDepth 20000 in
theorem ggL_law_L_pieceAt : GoodIn wsL_law wsL_pieceAt := goodIn_ca (goodIn_r _ [399, 342, 400, 401, 402, 2, 403, 347, 348, 24, 404, 349, 134, 135, 405, 136, 137, 605, 606, 607, 608, 609, 610, 611, 650, 651, 652, 653, 654, 655, 656, 657, 658] (by decide +kernel) (by decide +kernel)) (goodIn_sub (fun _ h => List.mem_append_right _ h) (by decide +kernel))
set_option maxRecDepth 20000 in
theorem gL_law_L_pieceAt : GoodIn wsL_law (va_wsS RL 81 yL_pieceAt wsL_pieceAt) := goodIn_app (goodIn_of _ (by decide +kernel)) ggL_law_L_pieceAt
set_option maxRecDepth 20000 in
theorem ggL_law_X8_pieceAt : GoodIn wsL_law wsX8_pieceAt := goodIn_r _ [409, 249, 326, 327, 328, 5, 329, 330, 331, 332, 333, 334, 612, 613, 614, 615, 616, 617, 618, 619, 620, 621, 622, 623, 624, 625, 626, 627, 628, 629, 630, 631, 632, 633, 634, 635, 636, 637, 638, 639, 640, 641, 642] (by decide +kernel) (by decide +kernel)
set_option maxRecDepth 20000 in
theorem gL_law_X8_pieceAt : GoodIn wsL_law (wsV RL 83 RX8 yX8_pieceAt wsX8_pieceAt) := goodIn_app (goodIn_of _ (by decide +kernel)) ggL_law_X8_pieceAt
set_option maxRecDepth 20000 in
theorem ggL_law_X7_piecesAnew : GoodIn wsL_law wsX7_piecesAnew := goodIn_r _ [413, 414, 415, 416, 2, 417, 20, 16, 40, 418, 419, 420, 421, 151, 152, 19, 153, 53, 134, 135, 136, 137, 422, 165, 166, 15, 167, 47, 46, 44, 45, 168, 169, 170, 171, 172, 173, 174, 175, 176, 177, 178, 179, 180, 181, 182, 112, 113, 114, 115, 183, 184, 185, 39, 186, 72, 73, 74, 75, 120, 121, 122, 123, 124, 125, 605, 606, 607, 608, 609, 610, 611, 674, 675, 676, 677, 647, 648, 649, 643, 644, 645, 646] (by decide +kernel) (by decide +kernel)
set_option maxRecDepth 20000 in
theorem gL_law_X7_piecesAnew : GoodIn wsL_law (wsV RL 84 RX7 yX7_piecesAnew wsX7_piecesAnew) := goodIn_app (goodIn_of _ (by decide +kernel)) ggL_law_X7_piecesAnew
set_option maxRecDepth 20000 in
theorem ggL_law_X8_piecesAnew : GoodIn wsL_law wsX8_piecesAnew := goodIn_r _ [426, 265, 330, 331, 332, 5, 333, 334, 612, 613, 614, 615, 616, 617, 618, 619, 620, 621, 622, 623, 624, 625, 626, 627, 628, 629, 630, 631, 632, 633, 634, 635, 636, 637, 638, 639, 640, 641, 642] (by decide +kernel) (by decide +kernel)
set_option maxRecDepth 20000 in
theorem gL_law_X8_piecesAnew : GoodIn wsL_law (wsV RL 87 RX8 yX8_piecesAnew wsX8_piecesAnew) := goodIn_app (goodIn_of _ (by decide +kernel)) ggL_law_X8_piecesAnew
set_option maxRecDepth 20000 in
theorem ggL_law_X7_tiles : GoodIn wsL_law wsX7_tiles := goodIn_r _ [430, 28, 431, 605, 606, 607, 608, 609, 610, 611, 659, 660, 661, 662, 663, 664] (by decide +kernel) (by decide +kernel)
set_option maxRecDepth 20000 in
theorem gL_law_X7_tiles : GoodIn wsL_law (wsV RL 88 RX7 yX7_tiles wsX7_tiles) := goodIn_app (goodIn_of _ (by decide +kernel)) ggL_law_X7_tiles
set_option maxRecDepth 20000 in
theorem ggL_law_X8_tiles : GoodIn wsL_law wsX8_tiles := goodIn_r _ [435, 289, 330, 331, 332, 5, 333, 334, 612, 613, 614, 615, 616, 617, 618, 619, 620, 621, 622, 623, 624, 625, 626, 627, 628, 629, 630, 631, 632, 633, 634, 635, 636, 637, 638, 639, 640, 641, 642] (by decide +kernel) (by decide +kernel)
set_option maxRecDepth 20000 in
theorem gL_law_X8_tiles : GoodIn wsL_law (wsV RL 91 RX8 yX8_tiles wsX8_tiles) := goodIn_app (goodIn_of _ (by decide +kernel)) ggL_law_X8_tiles
set_option maxRecDepth 20000 in
theorem ggL_law_L_rest : GoodIn wsL_law wsL_rest := goodIn_ca (goodIn_r _ [438, 342, 439, 440, 441, 2, 442, 347, 348, 28, 443, 444, 445, 27, 446, 82, 83, 217, 218, 219, 220, 81, 605, 606, 607, 608, 609, 610, 611, 659, 660, 661, 662, 663, 664] (by decide +kernel) (by decide +kernel)) (goodIn_sub (fun _ h => List.mem_append_right _ h) (by decide +kernel))
set_option maxRecDepth 20000 in
theorem gL_law_L_rest : GoodIn wsL_law (va_wsS RL 92 yL_rest wsL_rest) := goodIn_app (goodIn_of _ (by decide +kernel)) ggL_law_L_rest
set_option maxRecDepth 20000 in
theorem ggL_law_X8_rest : GoodIn wsL_law wsX8_rest := goodIn_r _ [450, 288, 250, 251, 330, 331, 332, 5, 333, 334, 612, 613, 614, 615, 616, 617, 618, 619, 620, 621, 622, 623, 624, 625, 626, 627, 628, 629, 630, 631, 632, 633, 634, 635, 636, 637, 638, 639, 640, 641, 642] (by decide +kernel) (by decide +kernel)
set_option maxRecDepth 20000 in
theorem gL_law_X8_rest : GoodIn wsL_law (wsV RL 94 RX8 yX8_rest wsX8_rest) := goodIn_app (goodIn_of _ (by decide +kernel)) ggL_law_X8_rest
set_option maxRecDepth 20000 in
theorem ggL_law_L_crate : GoodIn wsL_law wsL_crate := goodIn_ca (goodIn_ca (goodIn_r _ [453, 302, 303, 454, 455, 456, 2, 457, 308, 309, 310, 311, 32, 458, 459, 460, 461, 314, 315, 316, 462, 463, 464, 31, 465, 88, 466, 467, 468, 469, 90, 91, 605, 606, 607, 608, 609, 610, 611, 665, 666, 667, 668] (by decide +kernel) (by decide +kernel)) (goodIn_sub (fun _ h => List.mem_append_left _ (List.mem_append_left _ (List.mem_append_right _ h))) (by decide +kernel))) (goodIn_sub (fun _ h => List.mem_append_left _ (List.mem_append_right _ h)) (by decide +kernel))
set_option maxRecDepth 20000 in
theorem gL_law_L_crate : GoodIn wsL_law (va_wsS RL 95 yL_crate wsL_crate) := goodIn_app (goodIn_of _ (by decide +kernel)) ggL_law_L_crate
set_option maxRecDepth 20000 in
theorem ggL_law_X8_crate : GoodIn wsL_law wsX8_crate := goodIn_r _ [473, 474, 253, 254, 326, 327, 328, 5, 329, 330, 331, 332, 333, 334, 612, 613, 614, 615, 616, 617, 618, 619, 620, 621, 622, 623, 624, 625, 626, 627, 628, 629, 630, 631, 632, 633, 634, 635, 636, 637, 638, 639, 640, 641, 642] (by decide +kernel) (by decide +kernel)
set_option maxRecDepth 20000 in
theorem gL_law_X8_crate : GoodIn wsL_law (wsV RL 97 RX8 yX8_crate wsX8_crate) := goodIn_app (goodIn_of _ (by decide +kernel)) ggL_law_X8_crate
set_option maxRecDepth 20000 in
theorem ggL_law_L_fetch : GoodIn wsL_law wsL_fetch := goodIn_ca (goodIn_r _ [477, 302, 478, 479, 480, 2, 481, 308, 309, 32, 459, 460, 461, 314, 315, 316, 482, 483, 484, 31, 485, 88, 90, 91, 486, 487, 488, 489, 490, 491, 492, 493, 89, 605, 606, 607, 608, 609, 610, 611, 665, 666, 667, 668] (by decide +kernel) (by decide +kernel)) (goodIn_sub (fun _ h => List.mem_append_left _ (List.mem_append_left _ (List.mem_append_right _ h))) (by decide +kernel))
set_option maxRecDepth 20000 in
theorem gL_law_L_fetch : GoodIn wsL_law (va_wsS RL 98 yL_fetch wsL_fetch) := goodIn_app (goodIn_of _ (by decide +kernel)) ggL_law_L_fetch
set_option maxRecDepth 20000 in
theorem ggL_law_X8_fetch : GoodIn wsL_law wsX8_fetch := goodIn_r _ [497, 474, 253, 254, 498, 326, 327, 328, 5, 329, 330, 331, 332, 333, 334, 612, 613, 614, 615, 616, 617, 618, 619, 620, 621, 622, 623, 624, 625, 626, 627, 628, 629, 630, 631, 632, 633, 634, 635, 636, 637, 638, 639, 640, 641, 642] (by decide +kernel) (by decide +kernel)
set_option maxRecDepth 20000 in
theorem gL_law_X8_fetch : GoodIn wsL_law (wsV RL 100 RX8 yX8_fetch wsX8_fetch) := goodIn_app (goodIn_of _ (by decide +kernel)) ggL_law_X8_fetch
set_option maxRecDepth 20000 in
theorem ggL_law_X7_moves : GoodIn wsL_law wsX7_moves := goodIn_r _ [502, 32, 503, 605, 606, 607, 608, 609, 610, 611, 665, 666, 667, 668] (by decide +kernel) (by decide +kernel)
set_option maxRecDepth 20000 in
theorem gL_law_X7_moves : GoodIn wsL_law (wsV RL 101 RX7 yX7_moves wsX7_moves) := goodIn_app (goodIn_of _ (by decide +kernel)) ggL_law_X7_moves
set_option maxRecDepth 20000 in
theorem ggL_law_X8_moves : GoodIn wsL_law wsX8_moves := goodIn_r _ [507, 498, 330, 331, 332, 5, 333, 334, 612, 613, 614, 615, 616, 617, 618, 619, 620, 621, 622, 623, 624, 625, 626, 627, 628, 629, 630, 631, 632, 633, 634, 635, 636, 637, 638, 639, 640, 641, 642] (by decide +kernel) (by decide +kernel)
set_option maxRecDepth 20000 in
theorem gL_law_X8_moves : GoodIn wsL_law (wsV RL 104 RX8 yX8_moves wsX8_moves) := goodIn_app (goodIn_of _ (by decide +kernel)) ggL_law_X8_moves
set_option maxRecDepth 20000 in
theorem ggL_law_L_grout : GoodIn wsL_law wsL_grout := goodIn_ca (goodIn_r _ [510, 302, 511, 512, 513, 2, 514, 308, 309, 36, 515, 314, 315, 316, 605, 606, 607, 608, 609, 610, 611, 669, 670, 671, 672, 673] (by decide +kernel) (by decide +kernel)) (goodIn_sub (fun _ h => List.mem_append_left _ (List.mem_append_left _ (List.mem_append_right _ h))) (by decide +kernel))
set_option maxRecDepth 20000 in
theorem gL_law_L_grout : GoodIn wsL_law (va_wsS RL 105 yL_grout wsL_grout) := goodIn_app (goodIn_of _ (by decide +kernel)) ggL_law_L_grout
set_option maxRecDepth 20000 in
theorem ggL_law_X8_grout : GoodIn wsL_law wsX8_grout := goodIn_r _ [519, 256, 326, 327, 328, 5, 329, 330, 331, 332, 333, 334, 612, 613, 614, 615, 616, 617, 618, 619, 620, 621, 622, 623, 624, 625, 626, 627, 628, 629, 630, 631, 632, 633, 634, 635, 636, 637, 638, 639, 640, 641, 642] (by decide +kernel) (by decide +kernel)
set_option maxRecDepth 20000 in
theorem gL_law_X8_grout : GoodIn wsL_law (wsV RL 107 RX8 yX8_grout wsX8_grout) := goodIn_app (goodIn_of _ (by decide +kernel)) ggL_law_X8_grout
set_option maxRecDepth 20000 in
theorem ggL_law_L_lay : GoodIn wsL_law wsL_lay := goodIn_ca (goodIn_ca (goodIn_r _ [522, 342, 303, 523, 524, 525, 2, 526, 347, 348, 310, 311, 16, 36, 527, 528, 529, 530, 15, 531, 532, 533, 534, 535, 46, 116, 117, 118, 119, 112, 113, 114, 115, 120, 121, 122, 123, 45, 124, 125, 536, 537, 538, 35, 539, 98, 95, 99, 540, 127, 128, 129, 541, 542, 543, 544, 24, 380, 383, 161, 162, 23, 163, 58, 384, 109, 110, 111, 545, 546, 547, 548, 96, 97, 605, 606, 607, 608, 609, 610, 611, 669, 670, 671, 672, 673, 643, 644, 645, 646, 650, 651, 652, 653, 654, 655, 656, 657, 658] (by decide +kernel) (by decide +kernel)) (goodIn_sub (fun _ h => List.mem_append_right _ h) (by decide +kernel))) (goodIn_sub (fun _ h => List.mem_append_left _ (List.mem_append_right _ h)) (by decide +kernel))
set_option maxRecDepth 20000 in
theorem gL_law_L_lay : GoodIn wsL_law (va_wsS RL 108 yL_lay wsL_lay) := goodIn_app (goodIn_of _ (by decide +kernel)) ggL_law_L_lay
set_option maxRecDepth 20000 in
theorem ggL_law_X8_lay : GoodIn wsL_law wsX8_lay := goodIn_r _ [552, 255, 553, 256, 325, 554, 555, 556, 5, 557, 558, 559, 560, 561, 278, 393, 394, 395, 396, 238, 326, 327, 328, 329, 562, 563, 564, 565, 330, 331, 332, 333, 334, 566, 567, 568, 569, 265, 242, 389, 390, 391, 392, 612, 613, 614, 615, 616, 617, 618, 619, 620, 621, 622, 623, 624, 625, 626, 627, 628, 629, 630, 631, 632, 633, 634, 635, 636, 637, 638, 639, 640, 641, 642] (by decide +kernel) (by decide +kernel)
set_option maxRecDepth 20000 in
theorem gL_law_X8_lay : GoodIn wsL_law (wsV RL 110 RX8 yX8_lay wsX8_lay) := goodIn_app (goodIn_of _ (by decide +kernel)) ggL_law_X8_lay
set_option maxRecDepth 20000 in
theorem ggL_law_L_dry : GoodIn wsL_law wsL_dry := goodIn_ca (goodIn_r _ [572, 342, 573, 574, 575, 2, 576, 347, 348, 16, 36, 528, 529, 530, 15, 531, 532, 533, 534, 535, 46, 116, 117, 118, 119, 112, 113, 114, 115, 120, 121, 122, 123, 45, 124, 125, 577, 578, 579, 35, 580, 99, 540, 127, 128, 129, 98, 605, 606, 607, 608, 609, 610, 611, 643, 644, 645, 646, 669, 670, 671, 672, 673] (by decide +kernel) (by decide +kernel)) (goodIn_sub (fun _ h => List.mem_append_right _ h) (by decide +kernel))
set_option maxRecDepth 20000 in
theorem gL_law_L_dry : GoodIn wsL_law (va_wsS RL 111 yL_dry wsL_dry) := goodIn_app (goodIn_of _ (by decide +kernel)) ggL_law_L_dry
set_option maxRecDepth 20000 in
theorem ggL_law_X8_dry : GoodIn wsL_law wsX8_dry := goodIn_r _ [584, 255, 554, 555, 556, 5, 557, 558, 559, 560, 561, 278, 393, 394, 395, 396, 238, 326, 327, 328, 329, 330, 331, 332, 333, 334, 612, 613, 614, 615, 616, 617, 618, 619, 620, 621, 622, 623, 624, 625, 626, 627, 628, 629, 630, 631, 632, 633, 634, 635, 636, 637, 638, 639, 640, 641, 642] (by decide +kernel) (by decide +kernel)
set_option maxRecDepth 20000 in
theorem gL_law_X8_dry : GoodIn wsL_law (wsV RL 113 RX8 yX8_dry wsX8_dry) := goodIn_app (goodIn_of _ (by decide +kernel)) ggL_law_X8_dry
set_option maxRecDepth 20000 in
theorem ggL_law_X7_strips : GoodIn wsL_law wsX7_strips := goodIn_r _ [588, 16, 589, 533, 534, 15, 535, 46, 116, 117, 118, 119, 112, 113, 114, 115, 120, 121, 122, 123, 45, 124, 2, 125, 605, 606, 607, 608, 609, 610, 611, 643, 644, 645, 646] (by decide +kernel) (by decide +kernel)
set_option maxRecDepth 20000 in
theorem gL_law_X7_strips : GoodIn wsL_law (wsV RL 114 RX7 yX7_strips wsX7_strips) := goodIn_app (goodIn_of _ (by decide +kernel)) ggL_law_X7_strips
set_option maxRecDepth 20000 in
theorem ggL_law_X8_strips : GoodIn wsL_law wsX8_strips := goodIn_r _ [593, 330, 331, 332, 5, 333, 334, 558, 559, 560, 561, 278, 393, 394, 395, 396, 238, 612, 613, 614, 615, 616, 617, 618, 619, 620, 621, 622, 623, 624, 625, 626, 627, 628, 629, 630, 631, 632, 633, 634, 635, 636, 637, 638, 639, 640, 641, 642] (by decide +kernel) (by decide +kernel)
set_option maxRecDepth 20000 in
theorem gL_law_X8_strips : GoodIn wsL_law (wsV RL 117 RX8 yX8_strips wsX8_strips) := goodIn_app (goodIn_of _ (by decide +kernel)) ggL_law_X8_strips
set_option maxRecDepth 20000 in
theorem ggL_law_L_pass : GoodIn wsL_law wsL_pass := goodIn_ca (goodIn_r _ [596, 302, 597, 598, 599, 2, 600, 308, 309, 36, 527, 314, 315, 316, 605, 606, 607, 608, 609, 610, 611, 669, 670, 671, 672, 673] (by decide +kernel) (by decide +kernel)) (goodIn_sub (fun _ h => List.mem_append_left _ (List.mem_append_left _ (List.mem_append_right _ h))) (by decide +kernel))
set_option maxRecDepth 20000 in
theorem gL_law_L_pass : GoodIn wsL_law (va_wsS RL 118 yL_pass wsL_pass) := goodIn_app (goodIn_of _ (by decide +kernel)) ggL_law_L_pass
set_option maxRecDepth 20000 in
theorem ggL_law_X8_pass : GoodIn wsL_law wsX8_pass := goodIn_r _ [604, 553, 326, 327, 328, 5, 329, 330, 331, 332, 333, 334, 612, 613, 614, 615, 616, 617, 618, 619, 620, 621, 622, 623, 624, 625, 626, 627, 628, 629, 630, 631, 632, 633, 634, 635, 636, 637, 638, 639, 640, 641, 642] (by decide +kernel) (by decide +kernel)
set_option maxRecDepth 20000 in
theorem gL_law_X8_pass : GoodIn wsL_law (wsV RL 120 RX8 yX8_pass wsX8_pass) := goodIn_app (goodIn_of _ (by decide +kernel)) ggL_law_X8_pass
theorem dL_law_0 : decode cL_law 0 = .ok (.new 8, 3) := by decide +kernel
theorem dL_law_3 : decode cL_law 3 = .ok (.dup, 1) := by decide +kernel
theorem dL_law_4 : decode cL_law 4 = .ok (.invokespecial 55, 3) := by decide +kernel
theorem dL_law_7 : decode cL_law 7 = .ok (.astore_n 1, 1) := by decide +kernel
theorem dL_law_8 : decode cL_law 8 = .ok (.new 56, 3) := by decide +kernel
theorem dL_law_11 : decode cL_law 11 = .ok (.dup, 1) := by decide +kernel
theorem dL_law_12 : decode cL_law 12 = .ok (.invokespecial 58, 3) := by decide +kernel
theorem dL_law_15 : decode cL_law 15 = .ok (.astore_n 2, 1) := by decide +kernel
theorem dL_law_16 : decode cL_law 16 = .ok (.iconst 1, 1) := by decide +kernel
theorem dL_law_17 : decode cL_law 17 = .ok (.newarray .long, 2) := by decide +kernel
theorem dL_law_19 : decode cL_law 19 = .ok (.astore_n 3, 1) := by decide +kernel
theorem dL_law_20 : decode cL_law 20 = .ok (.iconst 0, 1) := by decide +kernel
theorem dL_law_21 : decode cL_law 21 = .ok (.istore 4, 2) := by decide +kernel
theorem dL_law_23 : decode cL_law 23 = .ok (.iload 4, 2) := by decide +kernel
theorem dL_law_25 : decode cL_law 25 = .ok (.aload_n 0, 1) := by decide +kernel
theorem dL_law_26 : decode cL_law 26 = .ok (.arraylength, 1) := by decide +kernel
theorem dL_law_27 : decode cL_law 27 = .ok (.iconst 5, 1) := by decide +kernel
theorem dL_law_28 : decode cL_law 28 = .ok (.isub, 1) := by decide +kernel
theorem dL_law_29 : decode cL_law 29 = .ok (.if_icmp .gt 936, 3) := by decide +kernel
theorem dL_law_32 : decode cL_law 32 = .ok (.aload_n 0, 1) := by decide +kernel
theorem dL_law_33 : decode cL_law 33 = .ok (.iload 4, 2) := by decide +kernel
theorem dL_law_35 : decode cL_law 35 = .ok (.iaload, 1) := by decide +kernel
theorem dL_law_36 : decode cL_law 36 = .ok (.bipush 15, 2) := by decide +kernel
theorem dL_law_38 : decode cL_law 38 = .ok (.iand, 1) := by decide +kernel
theorem dL_law_39 : decode cL_law 39 = .ok (.tableswitch 920 0 15 #[77, 169, 272, 328, 396, 464, 477, 490, 546, 614, 670, 683, 739, 795, 851, 864], 77) := by decide +kernel
theorem dL_law_116 : decode cL_law 116 = .ok (.aload_n 1, 1) := by decide +kernel
theorem dL_law_117 : decode cL_law 117 = .ok (.aload_n 0, 1) := by decide +kernel
theorem dL_law_118 : decode cL_law 118 = .ok (.iload 4, 2) := by decide +kernel
theorem dL_law_120 : decode cL_law 120 = .ok (.iconst 1, 1) := by decide +kernel
theorem dL_law_121 : decode cL_law 121 = .ok (.iadd, 1) := by decide +kernel
theorem dL_law_122 : decode cL_law 122 = .ok (.iaload, 1) := by decide +kernel
theorem dL_law_123 : decode cL_law 123 = .ok (.aload_n 0, 1) := by decide +kernel
theorem dL_law_124 : decode cL_law 124 = .ok (.iload 4, 2) := by decide +kernel
theorem dL_law_126 : decode cL_law 126 = .ok (.iconst 2, 1) := by decide +kernel
theorem dL_law_127 : decode cL_law 127 = .ok (.iadd, 1) := by decide +kernel
theorem dL_law_128 : decode cL_law 128 = .ok (.iaload, 1) := by decide +kernel
theorem dL_law_129 : decode cL_law 129 = .ok (.aload_n 0, 1) := by decide +kernel
theorem dL_law_130 : decode cL_law 130 = .ok (.iload 4, 2) := by decide +kernel
theorem dL_law_132 : decode cL_law 132 = .ok (.iconst 3, 1) := by decide +kernel
theorem dL_law_133 : decode cL_law 133 = .ok (.iadd, 1) := by decide +kernel
theorem dL_law_134 : decode cL_law 134 = .ok (.iaload, 1) := by decide +kernel
theorem dL_law_135 : decode cL_law 135 = .ok (.aload_n 0, 1) := by decide +kernel
theorem dL_law_136 : decode cL_law 136 = .ok (.iload 4, 2) := by decide +kernel
theorem dL_law_138 : decode cL_law 138 = .ok (.iconst 4, 1) := by decide +kernel
theorem dL_law_139 : decode cL_law 139 = .ok (.iadd, 1) := by decide +kernel
theorem dL_law_140 : decode cL_law 140 = .ok (.iaload, 1) := by decide +kernel
theorem dL_law_141 : decode cL_law 141 = .ok (.aload_n 3, 1) := by decide +kernel
theorem dL_law_142 : decode cL_law 142 = .ok (.invokestatic 59, 3) := by decide +kernel
theorem dL_law_145 : decode cL_law 145 = .ok (.istore 5, 2) := by decide +kernel
theorem dL_law_147 : decode cL_law 147 = .ok (.aload_n 2, 1) := by decide +kernel
theorem dL_law_148 : decode cL_law 148 = .ok (.aload_n 0, 1) := by decide +kernel
theorem dL_law_149 : decode cL_law 149 = .ok (.iload 4, 2) := by decide +kernel
theorem dL_law_151 : decode cL_law 151 = .ok (.iconst 1, 1) := by decide +kernel
theorem dL_law_152 : decode cL_law 152 = .ok (.iadd, 1) := by decide +kernel
theorem dL_law_153 : decode cL_law 153 = .ok (.iaload, 1) := by decide +kernel
theorem dL_law_154 : decode cL_law 154 = .ok (.aload_n 0, 1) := by decide +kernel
theorem dL_law_155 : decode cL_law 155 = .ok (.iload 4, 2) := by decide +kernel
theorem dL_law_157 : decode cL_law 157 = .ok (.iconst 2, 1) := by decide +kernel
theorem dL_law_158 : decode cL_law 158 = .ok (.iadd, 1) := by decide +kernel
theorem dL_law_159 : decode cL_law 159 = .ok (.iaload, 1) := by decide +kernel
theorem dL_law_160 : decode cL_law 160 = .ok (.aload_n 0, 1) := by decide +kernel
theorem dL_law_161 : decode cL_law 161 = .ok (.iload 4, 2) := by decide +kernel
theorem dL_law_163 : decode cL_law 163 = .ok (.iconst 3, 1) := by decide +kernel
theorem dL_law_164 : decode cL_law 164 = .ok (.iadd, 1) := by decide +kernel
theorem dL_law_165 : decode cL_law 165 = .ok (.iaload, 1) := by decide +kernel
theorem dL_law_166 : decode cL_law 166 = .ok (.aload_n 0, 1) := by decide +kernel
theorem dL_law_167 : decode cL_law 167 = .ok (.iload 4, 2) := by decide +kernel
theorem dL_law_169 : decode cL_law 169 = .ok (.iconst 4, 1) := by decide +kernel
theorem dL_law_170 : decode cL_law 170 = .ok (.iadd, 1) := by decide +kernel
theorem dL_law_171 : decode cL_law 171 = .ok (.iaload, 1) := by decide +kernel
theorem dL_law_172 : decode cL_law 172 = .ok (.invokevirtual 64, 3) := by decide +kernel
theorem dL_law_175 : decode cL_law 175 = .ok (.istore 6, 2) := by decide +kernel
theorem dL_law_177 : decode cL_law 177 = .ok (.aload_n 2, 1) := by decide +kernel
theorem dL_law_178 : decode cL_law 178 = .ok (.invokevirtual 65, 3) := by decide +kernel
theorem dL_law_181 : decode cL_law 181 = .ok (.iload 5, 2) := by decide +kernel
theorem dL_law_183 : decode cL_law 183 = .ok (.if_icmp .eq 5, 3) := by decide +kernel
theorem dL_law_186 : decode cL_law 186 = .ok (.iconst 0, 1) := by decide +kernel
theorem dL_law_187 : decode cL_law 187 = .ok (.ireturn, 1) := by decide +kernel
theorem dL_law_188 : decode cL_law 188 = .ok (.iload 5, 2) := by decide +kernel
theorem dL_law_190 : decode cL_law 190 = .ok (.ifCond .ne 15, 3) := by decide +kernel
theorem dL_law_193 : decode cL_law 193 = .ok (.aload_n 3, 1) := by decide +kernel
theorem dL_law_194 : decode cL_law 194 = .ok (.iconst 0, 1) := by decide +kernel
theorem dL_law_195 : decode cL_law 195 = .ok (.laload, 1) := by decide +kernel
theorem dL_law_196 : decode cL_law 196 = .ok (.iload 6, 2) := by decide +kernel
theorem dL_law_198 : decode cL_law 198 = .ok (.i2l, 1) := by decide +kernel
theorem dL_law_199 : decode cL_law 199 = .ok (.lcmp, 1) := by decide +kernel
theorem dL_law_200 : decode cL_law 200 = .ok (.ifCond .eq 5, 3) := by decide +kernel
theorem dL_law_203 : decode cL_law 203 = .ok (.iconst 0, 1) := by decide +kernel
theorem dL_law_204 : decode cL_law 204 = .ok (.ireturn, 1) := by decide +kernel
theorem dL_law_205 : decode cL_law 205 = .ok (.goto 754, 3) := by decide +kernel
theorem dL_law_208 : decode cL_law 208 = .ok (.aload_n 1, 1) := by decide +kernel
theorem dL_law_209 : decode cL_law 209 = .ok (.aload_n 0, 1) := by decide +kernel
theorem dL_law_210 : decode cL_law 210 = .ok (.iload 4, 2) := by decide +kernel
theorem dL_law_212 : decode cL_law 212 = .ok (.iconst 1, 1) := by decide +kernel
theorem dL_law_213 : decode cL_law 213 = .ok (.iadd, 1) := by decide +kernel
theorem dL_law_214 : decode cL_law 214 = .ok (.iaload, 1) := by decide +kernel
theorem dL_law_215 : decode cL_law 215 = .ok (.aload_n 0, 1) := by decide +kernel
theorem dL_law_216 : decode cL_law 216 = .ok (.iload 4, 2) := by decide +kernel
theorem dL_law_218 : decode cL_law 218 = .ok (.iconst 2, 1) := by decide +kernel
theorem dL_law_219 : decode cL_law 219 = .ok (.iadd, 1) := by decide +kernel
theorem dL_law_220 : decode cL_law 220 = .ok (.iaload, 1) := by decide +kernel
theorem dL_law_221 : decode cL_law 221 = .ok (.aload_n 0, 1) := by decide +kernel
theorem dL_law_222 : decode cL_law 222 = .ok (.iload 4, 2) := by decide +kernel
theorem dL_law_224 : decode cL_law 224 = .ok (.iconst 3, 1) := by decide +kernel
theorem dL_law_225 : decode cL_law 225 = .ok (.iadd, 1) := by decide +kernel
theorem dL_law_226 : decode cL_law 226 = .ok (.iaload, 1) := by decide +kernel
theorem dL_law_227 : decode cL_law 227 = .ok (.ifCond .eq 7, 3) := by decide +kernel
theorem dL_law_230 : decode cL_law 230 = .ok (.iconst 1, 1) := by decide +kernel
theorem dL_law_231 : decode cL_law 231 = .ok (.goto 4, 3) := by decide +kernel
theorem dL_law_234 : decode cL_law 234 = .ok (.iconst 0, 1) := by decide +kernel
theorem dL_law_235 : decode cL_law 235 = .ok (.aload_n 3, 1) := by decide +kernel
theorem dL_law_236 : decode cL_law 236 = .ok (.invokestatic 69, 3) := by decide +kernel
theorem dL_law_239 : decode cL_law 239 = .ok (.istore 5, 2) := by decide +kernel
theorem dL_law_241 : decode cL_law 241 = .ok (.aload_n 2, 1) := by decide +kernel
theorem dL_law_242 : decode cL_law 242 = .ok (.aload_n 0, 1) := by decide +kernel
theorem dL_law_243 : decode cL_law 243 = .ok (.iload 4, 2) := by decide +kernel
theorem dL_law_245 : decode cL_law 245 = .ok (.iconst 1, 1) := by decide +kernel
theorem dL_law_246 : decode cL_law 246 = .ok (.iadd, 1) := by decide +kernel
theorem dL_law_247 : decode cL_law 247 = .ok (.iaload, 1) := by decide +kernel
theorem dL_law_248 : decode cL_law 248 = .ok (.aload_n 0, 1) := by decide +kernel
theorem dL_law_249 : decode cL_law 249 = .ok (.iload 4, 2) := by decide +kernel
theorem dL_law_251 : decode cL_law 251 = .ok (.iconst 2, 1) := by decide +kernel
theorem dL_law_252 : decode cL_law 252 = .ok (.iadd, 1) := by decide +kernel
theorem dL_law_253 : decode cL_law 253 = .ok (.iaload, 1) := by decide +kernel
theorem dL_law_254 : decode cL_law 254 = .ok (.aload_n 0, 1) := by decide +kernel
theorem dL_law_255 : decode cL_law 255 = .ok (.iload 4, 2) := by decide +kernel
theorem dL_law_257 : decode cL_law 257 = .ok (.iconst 3, 1) := by decide +kernel
theorem dL_law_258 : decode cL_law 258 = .ok (.iadd, 1) := by decide +kernel
theorem dL_law_259 : decode cL_law 259 = .ok (.iaload, 1) := by decide +kernel
theorem dL_law_260 : decode cL_law 260 = .ok (.ifCond .eq 7, 3) := by decide +kernel
theorem dL_law_263 : decode cL_law 263 = .ok (.iconst 1, 1) := by decide +kernel
theorem dL_law_264 : decode cL_law 264 = .ok (.goto 4, 3) := by decide +kernel
theorem dL_law_267 : decode cL_law 267 = .ok (.iconst 0, 1) := by decide +kernel
theorem dL_law_268 : decode cL_law 268 = .ok (.invokevirtual 72, 3) := by decide +kernel
theorem dL_law_271 : decode cL_law 271 = .ok (.istore 6, 2) := by decide +kernel
theorem dL_law_273 : decode cL_law 273 = .ok (.aload_n 2, 1) := by decide +kernel
theorem dL_law_274 : decode cL_law 274 = .ok (.invokevirtual 65, 3) := by decide +kernel
theorem dL_law_277 : decode cL_law 277 = .ok (.iload 5, 2) := by decide +kernel
theorem dL_law_279 : decode cL_law 279 = .ok (.if_icmp .eq 5, 3) := by decide +kernel
theorem dL_law_282 : decode cL_law 282 = .ok (.iconst 0, 1) := by decide +kernel
theorem dL_law_283 : decode cL_law 283 = .ok (.ireturn, 1) := by decide +kernel
theorem dL_law_284 : decode cL_law 284 = .ok (.iload 5, 2) := by decide +kernel
theorem dL_law_286 : decode cL_law 286 = .ok (.ifCond .ne 22, 3) := by decide +kernel
theorem dL_law_289 : decode cL_law 289 = .ok (.aload_n 3, 1) := by decide +kernel
theorem dL_law_290 : decode cL_law 290 = .ok (.iconst 0, 1) := by decide +kernel
theorem dL_law_291 : decode cL_law 291 = .ok (.laload, 1) := by decide +kernel
theorem dL_law_292 : decode cL_law 292 = .ok (.iload 6, 2) := by decide +kernel
theorem dL_law_294 : decode cL_law 294 = .ok (.ifCond .eq 7, 3) := by decide +kernel
theorem dL_law_297 : decode cL_law 297 = .ok (.lconst 1, 1) := by decide +kernel
theorem dL_law_298 : decode cL_law 298 = .ok (.goto 4, 3) := by decide +kernel
theorem dL_law_301 : decode cL_law 301 = .ok (.lconst 0, 1) := by decide +kernel
theorem dL_law_302 : decode cL_law 302 = .ok (.lcmp, 1) := by decide +kernel
theorem dL_law_303 : decode cL_law 303 = .ok (.ifCond .eq 5, 3) := by decide +kernel
theorem dL_law_306 : decode cL_law 306 = .ok (.iconst 0, 1) := by decide +kernel
theorem dL_law_307 : decode cL_law 307 = .ok (.ireturn, 1) := by decide +kernel
theorem dL_law_308 : decode cL_law 308 = .ok (.goto 651, 3) := by decide +kernel
theorem dL_law_311 : decode cL_law 311 = .ok (.aload_n 1, 1) := by decide +kernel
theorem dL_law_312 : decode cL_law 312 = .ok (.aload_n 0, 1) := by decide +kernel
theorem dL_law_313 : decode cL_law 313 = .ok (.iload 4, 2) := by decide +kernel
theorem dL_law_315 : decode cL_law 315 = .ok (.iconst 1, 1) := by decide +kernel
theorem dL_law_316 : decode cL_law 316 = .ok (.iadd, 1) := by decide +kernel
theorem dL_law_317 : decode cL_law 317 = .ok (.iaload, 1) := by decide +kernel
theorem dL_law_318 : decode cL_law 318 = .ok (.aload_n 3, 1) := by decide +kernel
theorem dL_law_319 : decode cL_law 319 = .ok (.invokestatic 73, 3) := by decide +kernel
theorem dL_law_322 : decode cL_law 322 = .ok (.istore 5, 2) := by decide +kernel
theorem dL_law_324 : decode cL_law 324 = .ok (.aload_n 2, 1) := by decide +kernel
theorem dL_law_325 : decode cL_law 325 = .ok (.aload_n 0, 1) := by decide +kernel
theorem dL_law_326 : decode cL_law 326 = .ok (.iload 4, 2) := by decide +kernel
theorem dL_law_328 : decode cL_law 328 = .ok (.iconst 1, 1) := by decide +kernel
theorem dL_law_329 : decode cL_law 329 = .ok (.iadd, 1) := by decide +kernel
theorem dL_law_330 : decode cL_law 330 = .ok (.iaload, 1) := by decide +kernel
theorem dL_law_331 : decode cL_law 331 = .ok (.invokevirtual 76, 3) := by decide +kernel
theorem dL_law_334 : decode cL_law 334 = .ok (.istore 6, 2) := by decide +kernel
theorem dL_law_336 : decode cL_law 336 = .ok (.aload_n 2, 1) := by decide +kernel
theorem dL_law_337 : decode cL_law 337 = .ok (.invokevirtual 65, 3) := by decide +kernel
theorem dL_law_340 : decode cL_law 340 = .ok (.iload 5, 2) := by decide +kernel
theorem dL_law_342 : decode cL_law 342 = .ok (.if_icmp .eq 5, 3) := by decide +kernel
theorem dL_law_345 : decode cL_law 345 = .ok (.iconst 0, 1) := by decide +kernel
theorem dL_law_346 : decode cL_law 346 = .ok (.ireturn, 1) := by decide +kernel
theorem dL_law_347 : decode cL_law 347 = .ok (.iload 5, 2) := by decide +kernel
theorem dL_law_349 : decode cL_law 349 = .ok (.ifCond .ne 15, 3) := by decide +kernel
theorem dL_law_352 : decode cL_law 352 = .ok (.aload_n 3, 1) := by decide +kernel
theorem dL_law_353 : decode cL_law 353 = .ok (.iconst 0, 1) := by decide +kernel
theorem dL_law_354 : decode cL_law 354 = .ok (.laload, 1) := by decide +kernel
theorem dL_law_355 : decode cL_law 355 = .ok (.iload 6, 2) := by decide +kernel
theorem dL_law_357 : decode cL_law 357 = .ok (.i2l, 1) := by decide +kernel
theorem dL_law_358 : decode cL_law 358 = .ok (.lcmp, 1) := by decide +kernel
theorem dL_law_359 : decode cL_law 359 = .ok (.ifCond .eq 5, 3) := by decide +kernel
theorem dL_law_362 : decode cL_law 362 = .ok (.iconst 0, 1) := by decide +kernel
theorem dL_law_363 : decode cL_law 363 = .ok (.ireturn, 1) := by decide +kernel
theorem dL_law_364 : decode cL_law 364 = .ok (.goto 595, 3) := by decide +kernel
theorem dL_law_367 : decode cL_law 367 = .ok (.aload_n 1, 1) := by decide +kernel
theorem dL_law_368 : decode cL_law 368 = .ok (.aload_n 0, 1) := by decide +kernel
theorem dL_law_369 : decode cL_law 369 = .ok (.iload 4, 2) := by decide +kernel
theorem dL_law_371 : decode cL_law 371 = .ok (.iconst 1, 1) := by decide +kernel
theorem dL_law_372 : decode cL_law 372 = .ok (.iadd, 1) := by decide +kernel
theorem dL_law_373 : decode cL_law 373 = .ok (.iaload, 1) := by decide +kernel
theorem dL_law_374 : decode cL_law 374 = .ok (.aload_n 0, 1) := by decide +kernel
theorem dL_law_375 : decode cL_law 375 = .ok (.iload 4, 2) := by decide +kernel
theorem dL_law_377 : decode cL_law 377 = .ok (.iconst 2, 1) := by decide +kernel
theorem dL_law_378 : decode cL_law 378 = .ok (.iadd, 1) := by decide +kernel
theorem dL_law_379 : decode cL_law 379 = .ok (.iaload, 1) := by decide +kernel
theorem dL_law_380 : decode cL_law 380 = .ok (.aload_n 3, 1) := by decide +kernel
theorem dL_law_381 : decode cL_law 381 = .ok (.invokestatic 77, 3) := by decide +kernel
theorem dL_law_384 : decode cL_law 384 = .ok (.istore 5, 2) := by decide +kernel
theorem dL_law_386 : decode cL_law 386 = .ok (.aload_n 2, 1) := by decide +kernel
theorem dL_law_387 : decode cL_law 387 = .ok (.aload_n 0, 1) := by decide +kernel
theorem dL_law_388 : decode cL_law 388 = .ok (.iload 4, 2) := by decide +kernel
theorem dL_law_390 : decode cL_law 390 = .ok (.iconst 1, 1) := by decide +kernel
theorem dL_law_391 : decode cL_law 391 = .ok (.iadd, 1) := by decide +kernel
theorem dL_law_392 : decode cL_law 392 = .ok (.iaload, 1) := by decide +kernel
theorem dL_law_393 : decode cL_law 393 = .ok (.aload_n 0, 1) := by decide +kernel
theorem dL_law_394 : decode cL_law 394 = .ok (.iload 4, 2) := by decide +kernel
theorem dL_law_396 : decode cL_law 396 = .ok (.iconst 2, 1) := by decide +kernel
theorem dL_law_397 : decode cL_law 397 = .ok (.iadd, 1) := by decide +kernel
theorem dL_law_398 : decode cL_law 398 = .ok (.iaload, 1) := by decide +kernel
theorem dL_law_399 : decode cL_law 399 = .ok (.invokevirtual 80, 3) := by decide +kernel
theorem dL_law_402 : decode cL_law 402 = .ok (.istore 6, 2) := by decide +kernel
theorem dL_law_404 : decode cL_law 404 = .ok (.aload_n 2, 1) := by decide +kernel
theorem dL_law_405 : decode cL_law 405 = .ok (.invokevirtual 65, 3) := by decide +kernel
theorem dL_law_408 : decode cL_law 408 = .ok (.iload 5, 2) := by decide +kernel
theorem dL_law_410 : decode cL_law 410 = .ok (.if_icmp .eq 5, 3) := by decide +kernel
theorem dL_law_413 : decode cL_law 413 = .ok (.iconst 0, 1) := by decide +kernel
theorem dL_law_414 : decode cL_law 414 = .ok (.ireturn, 1) := by decide +kernel
theorem dL_law_415 : decode cL_law 415 = .ok (.iload 5, 2) := by decide +kernel
theorem dL_law_417 : decode cL_law 417 = .ok (.ifCond .ne 15, 3) := by decide +kernel
theorem dL_law_420 : decode cL_law 420 = .ok (.aload_n 3, 1) := by decide +kernel
theorem dL_law_421 : decode cL_law 421 = .ok (.iconst 0, 1) := by decide +kernel
theorem dL_law_422 : decode cL_law 422 = .ok (.laload, 1) := by decide +kernel
theorem dL_law_423 : decode cL_law 423 = .ok (.iload 6, 2) := by decide +kernel
theorem dL_law_425 : decode cL_law 425 = .ok (.i2l, 1) := by decide +kernel
theorem dL_law_426 : decode cL_law 426 = .ok (.lcmp, 1) := by decide +kernel
theorem dL_law_427 : decode cL_law 427 = .ok (.ifCond .eq 5, 3) := by decide +kernel
theorem dL_law_430 : decode cL_law 430 = .ok (.iconst 0, 1) := by decide +kernel
theorem dL_law_431 : decode cL_law 431 = .ok (.ireturn, 1) := by decide +kernel
theorem dL_law_432 : decode cL_law 432 = .ok (.goto 527, 3) := by decide +kernel
theorem dL_law_435 : decode cL_law 435 = .ok (.aload_n 1, 1) := by decide +kernel
theorem dL_law_436 : decode cL_law 436 = .ok (.aload_n 0, 1) := by decide +kernel
theorem dL_law_437 : decode cL_law 437 = .ok (.iload 4, 2) := by decide +kernel
theorem dL_law_439 : decode cL_law 439 = .ok (.iconst 1, 1) := by decide +kernel
theorem dL_law_440 : decode cL_law 440 = .ok (.iadd, 1) := by decide +kernel
theorem dL_law_441 : decode cL_law 441 = .ok (.iaload, 1) := by decide +kernel
theorem dL_law_442 : decode cL_law 442 = .ok (.aload_n 0, 1) := by decide +kernel
theorem dL_law_443 : decode cL_law 443 = .ok (.iload 4, 2) := by decide +kernel
theorem dL_law_445 : decode cL_law 445 = .ok (.iconst 2, 1) := by decide +kernel
theorem dL_law_446 : decode cL_law 446 = .ok (.iadd, 1) := by decide +kernel
theorem dL_law_447 : decode cL_law 447 = .ok (.iaload, 1) := by decide +kernel
theorem dL_law_448 : decode cL_law 448 = .ok (.aload_n 3, 1) := by decide +kernel
theorem dL_law_449 : decode cL_law 449 = .ok (.invokestatic 81, 3) := by decide +kernel
theorem dL_law_452 : decode cL_law 452 = .ok (.istore 5, 2) := by decide +kernel
theorem dL_law_454 : decode cL_law 454 = .ok (.aload_n 2, 1) := by decide +kernel
theorem dL_law_455 : decode cL_law 455 = .ok (.aload_n 0, 1) := by decide +kernel
theorem dL_law_456 : decode cL_law 456 = .ok (.iload 4, 2) := by decide +kernel
theorem dL_law_458 : decode cL_law 458 = .ok (.iconst 1, 1) := by decide +kernel
theorem dL_law_459 : decode cL_law 459 = .ok (.iadd, 1) := by decide +kernel
theorem dL_law_460 : decode cL_law 460 = .ok (.iaload, 1) := by decide +kernel
theorem dL_law_461 : decode cL_law 461 = .ok (.aload_n 0, 1) := by decide +kernel
theorem dL_law_462 : decode cL_law 462 = .ok (.iload 4, 2) := by decide +kernel
theorem dL_law_464 : decode cL_law 464 = .ok (.iconst 2, 1) := by decide +kernel
theorem dL_law_465 : decode cL_law 465 = .ok (.iadd, 1) := by decide +kernel
theorem dL_law_466 : decode cL_law 466 = .ok (.iaload, 1) := by decide +kernel
theorem dL_law_467 : decode cL_law 467 = .ok (.invokevirtual 83, 3) := by decide +kernel
theorem dL_law_470 : decode cL_law 470 = .ok (.istore 6, 2) := by decide +kernel
theorem dL_law_472 : decode cL_law 472 = .ok (.aload_n 2, 1) := by decide +kernel
theorem dL_law_473 : decode cL_law 473 = .ok (.invokevirtual 65, 3) := by decide +kernel
theorem dL_law_476 : decode cL_law 476 = .ok (.iload 5, 2) := by decide +kernel
theorem dL_law_478 : decode cL_law 478 = .ok (.if_icmp .eq 5, 3) := by decide +kernel
theorem dL_law_481 : decode cL_law 481 = .ok (.iconst 0, 1) := by decide +kernel
theorem dL_law_482 : decode cL_law 482 = .ok (.ireturn, 1) := by decide +kernel
theorem dL_law_483 : decode cL_law 483 = .ok (.iload 5, 2) := by decide +kernel
theorem dL_law_485 : decode cL_law 485 = .ok (.ifCond .ne 15, 3) := by decide +kernel
theorem dL_law_488 : decode cL_law 488 = .ok (.aload_n 3, 1) := by decide +kernel
theorem dL_law_489 : decode cL_law 489 = .ok (.iconst 0, 1) := by decide +kernel
theorem dL_law_490 : decode cL_law 490 = .ok (.laload, 1) := by decide +kernel
theorem dL_law_491 : decode cL_law 491 = .ok (.iload 6, 2) := by decide +kernel
theorem dL_law_493 : decode cL_law 493 = .ok (.i2l, 1) := by decide +kernel
theorem dL_law_494 : decode cL_law 494 = .ok (.lcmp, 1) := by decide +kernel
theorem dL_law_495 : decode cL_law 495 = .ok (.ifCond .eq 5, 3) := by decide +kernel
theorem dL_law_498 : decode cL_law 498 = .ok (.iconst 0, 1) := by decide +kernel
theorem dL_law_499 : decode cL_law 499 = .ok (.ireturn, 1) := by decide +kernel
theorem dL_law_500 : decode cL_law 500 = .ok (.goto 459, 3) := by decide +kernel
theorem dL_law_503 : decode cL_law 503 = .ok (.aload_n 1, 1) := by decide +kernel
theorem dL_law_504 : decode cL_law 504 = .ok (.invokevirtual 84, 3) := by decide +kernel
theorem dL_law_507 : decode cL_law 507 = .ok (.aload_n 2, 1) := by decide +kernel
theorem dL_law_508 : decode cL_law 508 = .ok (.invokevirtual 87, 3) := by decide +kernel
theorem dL_law_511 : decode cL_law 511 = .ok (.if_icmp .eq 448, 3) := by decide +kernel
theorem dL_law_514 : decode cL_law 514 = .ok (.iconst 0, 1) := by decide +kernel
theorem dL_law_515 : decode cL_law 515 = .ok (.ireturn, 1) := by decide +kernel
theorem dL_law_516 : decode cL_law 516 = .ok (.aload_n 1, 1) := by decide +kernel
theorem dL_law_517 : decode cL_law 517 = .ok (.invokevirtual 88, 3) := by decide +kernel
theorem dL_law_520 : decode cL_law 520 = .ok (.aload_n 2, 1) := by decide +kernel
theorem dL_law_521 : decode cL_law 521 = .ok (.invokevirtual 91, 3) := by decide +kernel
theorem dL_law_524 : decode cL_law 524 = .ok (.if_icmp .eq 435, 3) := by decide +kernel
theorem dL_law_527 : decode cL_law 527 = .ok (.iconst 0, 1) := by decide +kernel
theorem dL_law_528 : decode cL_law 528 = .ok (.ireturn, 1) := by decide +kernel
theorem dL_law_529 : decode cL_law 529 = .ok (.aload_n 1, 1) := by decide +kernel
theorem dL_law_530 : decode cL_law 530 = .ok (.aload_n 0, 1) := by decide +kernel
theorem dL_law_531 : decode cL_law 531 = .ok (.iload 4, 2) := by decide +kernel
theorem dL_law_533 : decode cL_law 533 = .ok (.iconst 1, 1) := by decide +kernel
theorem dL_law_534 : decode cL_law 534 = .ok (.iadd, 1) := by decide +kernel
theorem dL_law_535 : decode cL_law 535 = .ok (.iaload, 1) := by decide +kernel
theorem dL_law_536 : decode cL_law 536 = .ok (.aload_n 3, 1) := by decide +kernel
theorem dL_law_537 : decode cL_law 537 = .ok (.invokestatic 92, 3) := by decide +kernel
theorem dL_law_540 : decode cL_law 540 = .ok (.istore 5, 2) := by decide +kernel
theorem dL_law_542 : decode cL_law 542 = .ok (.aload_n 2, 1) := by decide +kernel
theorem dL_law_543 : decode cL_law 543 = .ok (.aload_n 0, 1) := by decide +kernel
theorem dL_law_544 : decode cL_law 544 = .ok (.iload 4, 2) := by decide +kernel
theorem dL_law_546 : decode cL_law 546 = .ok (.iconst 1, 1) := by decide +kernel
theorem dL_law_547 : decode cL_law 547 = .ok (.iadd, 1) := by decide +kernel
theorem dL_law_548 : decode cL_law 548 = .ok (.iaload, 1) := by decide +kernel
theorem dL_law_549 : decode cL_law 549 = .ok (.invokevirtual 94, 3) := by decide +kernel
theorem dL_law_552 : decode cL_law 552 = .ok (.istore 6, 2) := by decide +kernel
theorem dL_law_554 : decode cL_law 554 = .ok (.aload_n 2, 1) := by decide +kernel
theorem dL_law_555 : decode cL_law 555 = .ok (.invokevirtual 65, 3) := by decide +kernel
theorem dL_law_558 : decode cL_law 558 = .ok (.iload 5, 2) := by decide +kernel
theorem dL_law_560 : decode cL_law 560 = .ok (.if_icmp .eq 5, 3) := by decide +kernel
theorem dL_law_563 : decode cL_law 563 = .ok (.iconst 0, 1) := by decide +kernel
theorem dL_law_564 : decode cL_law 564 = .ok (.ireturn, 1) := by decide +kernel
theorem dL_law_565 : decode cL_law 565 = .ok (.iload 5, 2) := by decide +kernel
theorem dL_law_567 : decode cL_law 567 = .ok (.ifCond .ne 15, 3) := by decide +kernel
theorem dL_law_570 : decode cL_law 570 = .ok (.aload_n 3, 1) := by decide +kernel
theorem dL_law_571 : decode cL_law 571 = .ok (.iconst 0, 1) := by decide +kernel
theorem dL_law_572 : decode cL_law 572 = .ok (.laload, 1) := by decide +kernel
theorem dL_law_573 : decode cL_law 573 = .ok (.iload 6, 2) := by decide +kernel
theorem dL_law_575 : decode cL_law 575 = .ok (.i2l, 1) := by decide +kernel
theorem dL_law_576 : decode cL_law 576 = .ok (.lcmp, 1) := by decide +kernel
theorem dL_law_577 : decode cL_law 577 = .ok (.ifCond .eq 5, 3) := by decide +kernel
theorem dL_law_580 : decode cL_law 580 = .ok (.iconst 0, 1) := by decide +kernel
theorem dL_law_581 : decode cL_law 581 = .ok (.ireturn, 1) := by decide +kernel
theorem dL_law_582 : decode cL_law 582 = .ok (.goto 377, 3) := by decide +kernel
theorem dL_law_585 : decode cL_law 585 = .ok (.aload_n 1, 1) := by decide +kernel
theorem dL_law_586 : decode cL_law 586 = .ok (.aload_n 0, 1) := by decide +kernel
theorem dL_law_587 : decode cL_law 587 = .ok (.iload 4, 2) := by decide +kernel
theorem dL_law_589 : decode cL_law 589 = .ok (.iconst 1, 1) := by decide +kernel
theorem dL_law_590 : decode cL_law 590 = .ok (.iadd, 1) := by decide +kernel
theorem dL_law_591 : decode cL_law 591 = .ok (.iaload, 1) := by decide +kernel
theorem dL_law_592 : decode cL_law 592 = .ok (.aload_n 0, 1) := by decide +kernel
theorem dL_law_593 : decode cL_law 593 = .ok (.iload 4, 2) := by decide +kernel
theorem dL_law_595 : decode cL_law 595 = .ok (.iconst 2, 1) := by decide +kernel
theorem dL_law_596 : decode cL_law 596 = .ok (.iadd, 1) := by decide +kernel
theorem dL_law_597 : decode cL_law 597 = .ok (.iaload, 1) := by decide +kernel
theorem dL_law_598 : decode cL_law 598 = .ok (.aload_n 3, 1) := by decide +kernel
theorem dL_law_599 : decode cL_law 599 = .ok (.invokestatic 95, 3) := by decide +kernel
theorem dL_law_602 : decode cL_law 602 = .ok (.istore 5, 2) := by decide +kernel
theorem dL_law_604 : decode cL_law 604 = .ok (.aload_n 2, 1) := by decide +kernel
theorem dL_law_605 : decode cL_law 605 = .ok (.aload_n 0, 1) := by decide +kernel
theorem dL_law_606 : decode cL_law 606 = .ok (.iload 4, 2) := by decide +kernel
theorem dL_law_608 : decode cL_law 608 = .ok (.iconst 1, 1) := by decide +kernel
theorem dL_law_609 : decode cL_law 609 = .ok (.iadd, 1) := by decide +kernel
theorem dL_law_610 : decode cL_law 610 = .ok (.iaload, 1) := by decide +kernel
theorem dL_law_611 : decode cL_law 611 = .ok (.aload_n 0, 1) := by decide +kernel
theorem dL_law_612 : decode cL_law 612 = .ok (.iload 4, 2) := by decide +kernel
theorem dL_law_614 : decode cL_law 614 = .ok (.iconst 2, 1) := by decide +kernel
theorem dL_law_615 : decode cL_law 615 = .ok (.iadd, 1) := by decide +kernel
theorem dL_law_616 : decode cL_law 616 = .ok (.iaload, 1) := by decide +kernel
theorem dL_law_617 : decode cL_law 617 = .ok (.invokevirtual 97, 3) := by decide +kernel
theorem dL_law_620 : decode cL_law 620 = .ok (.istore 6, 2) := by decide +kernel
theorem dL_law_622 : decode cL_law 622 = .ok (.aload_n 2, 1) := by decide +kernel
theorem dL_law_623 : decode cL_law 623 = .ok (.invokevirtual 65, 3) := by decide +kernel
theorem dL_law_626 : decode cL_law 626 = .ok (.iload 5, 2) := by decide +kernel
theorem dL_law_628 : decode cL_law 628 = .ok (.if_icmp .eq 5, 3) := by decide +kernel
theorem dL_law_631 : decode cL_law 631 = .ok (.iconst 0, 1) := by decide +kernel
theorem dL_law_632 : decode cL_law 632 = .ok (.ireturn, 1) := by decide +kernel
theorem dL_law_633 : decode cL_law 633 = .ok (.iload 5, 2) := by decide +kernel
theorem dL_law_635 : decode cL_law 635 = .ok (.ifCond .ne 15, 3) := by decide +kernel
theorem dL_law_638 : decode cL_law 638 = .ok (.aload_n 3, 1) := by decide +kernel
theorem dL_law_639 : decode cL_law 639 = .ok (.iconst 0, 1) := by decide +kernel
theorem dL_law_640 : decode cL_law 640 = .ok (.laload, 1) := by decide +kernel
theorem dL_law_641 : decode cL_law 641 = .ok (.iload 6, 2) := by decide +kernel
theorem dL_law_643 : decode cL_law 643 = .ok (.i2l, 1) := by decide +kernel
theorem dL_law_644 : decode cL_law 644 = .ok (.lcmp, 1) := by decide +kernel
theorem dL_law_645 : decode cL_law 645 = .ok (.ifCond .eq 5, 3) := by decide +kernel
theorem dL_law_648 : decode cL_law 648 = .ok (.iconst 0, 1) := by decide +kernel
theorem dL_law_649 : decode cL_law 649 = .ok (.ireturn, 1) := by decide +kernel
theorem dL_law_650 : decode cL_law 650 = .ok (.goto 309, 3) := by decide +kernel
theorem dL_law_653 : decode cL_law 653 = .ok (.aload_n 1, 1) := by decide +kernel
theorem dL_law_654 : decode cL_law 654 = .ok (.aload_n 0, 1) := by decide +kernel
theorem dL_law_655 : decode cL_law 655 = .ok (.iload 4, 2) := by decide +kernel
theorem dL_law_657 : decode cL_law 657 = .ok (.iconst 1, 1) := by decide +kernel
theorem dL_law_658 : decode cL_law 658 = .ok (.iadd, 1) := by decide +kernel
theorem dL_law_659 : decode cL_law 659 = .ok (.iaload, 1) := by decide +kernel
theorem dL_law_660 : decode cL_law 660 = .ok (.aload_n 3, 1) := by decide +kernel
theorem dL_law_661 : decode cL_law 661 = .ok (.invokestatic 98, 3) := by decide +kernel
theorem dL_law_664 : decode cL_law 664 = .ok (.istore 5, 2) := by decide +kernel
theorem dL_law_666 : decode cL_law 666 = .ok (.aload_n 2, 1) := by decide +kernel
theorem dL_law_667 : decode cL_law 667 = .ok (.aload_n 0, 1) := by decide +kernel
theorem dL_law_668 : decode cL_law 668 = .ok (.iload 4, 2) := by decide +kernel
theorem dL_law_670 : decode cL_law 670 = .ok (.iconst 1, 1) := by decide +kernel
theorem dL_law_671 : decode cL_law 671 = .ok (.iadd, 1) := by decide +kernel
theorem dL_law_672 : decode cL_law 672 = .ok (.iaload, 1) := by decide +kernel
theorem dL_law_673 : decode cL_law 673 = .ok (.invokevirtual 100, 3) := by decide +kernel
theorem dL_law_676 : decode cL_law 676 = .ok (.istore 6, 2) := by decide +kernel
theorem dL_law_678 : decode cL_law 678 = .ok (.aload_n 2, 1) := by decide +kernel
theorem dL_law_679 : decode cL_law 679 = .ok (.invokevirtual 65, 3) := by decide +kernel
theorem dL_law_682 : decode cL_law 682 = .ok (.iload 5, 2) := by decide +kernel
theorem dL_law_684 : decode cL_law 684 = .ok (.if_icmp .eq 5, 3) := by decide +kernel
theorem dL_law_687 : decode cL_law 687 = .ok (.iconst 0, 1) := by decide +kernel
theorem dL_law_688 : decode cL_law 688 = .ok (.ireturn, 1) := by decide +kernel
theorem dL_law_689 : decode cL_law 689 = .ok (.iload 5, 2) := by decide +kernel
theorem dL_law_691 : decode cL_law 691 = .ok (.ifCond .ne 15, 3) := by decide +kernel
theorem dL_law_694 : decode cL_law 694 = .ok (.aload_n 3, 1) := by decide +kernel
theorem dL_law_695 : decode cL_law 695 = .ok (.iconst 0, 1) := by decide +kernel
theorem dL_law_696 : decode cL_law 696 = .ok (.laload, 1) := by decide +kernel
theorem dL_law_697 : decode cL_law 697 = .ok (.iload 6, 2) := by decide +kernel
theorem dL_law_699 : decode cL_law 699 = .ok (.i2l, 1) := by decide +kernel
theorem dL_law_700 : decode cL_law 700 = .ok (.lcmp, 1) := by decide +kernel
theorem dL_law_701 : decode cL_law 701 = .ok (.ifCond .eq 5, 3) := by decide +kernel
theorem dL_law_704 : decode cL_law 704 = .ok (.iconst 0, 1) := by decide +kernel
theorem dL_law_705 : decode cL_law 705 = .ok (.ireturn, 1) := by decide +kernel
theorem dL_law_706 : decode cL_law 706 = .ok (.goto 253, 3) := by decide +kernel
theorem dL_law_709 : decode cL_law 709 = .ok (.aload_n 1, 1) := by decide +kernel
theorem dL_law_710 : decode cL_law 710 = .ok (.invokevirtual 101, 3) := by decide +kernel
theorem dL_law_713 : decode cL_law 713 = .ok (.aload_n 2, 1) := by decide +kernel
theorem dL_law_714 : decode cL_law 714 = .ok (.invokevirtual 104, 3) := by decide +kernel
theorem dL_law_717 : decode cL_law 717 = .ok (.if_icmp .eq 242, 3) := by decide +kernel
theorem dL_law_720 : decode cL_law 720 = .ok (.iconst 0, 1) := by decide +kernel
theorem dL_law_721 : decode cL_law 721 = .ok (.ireturn, 1) := by decide +kernel
theorem dL_law_722 : decode cL_law 722 = .ok (.aload_n 1, 1) := by decide +kernel
theorem dL_law_723 : decode cL_law 723 = .ok (.aload_n 0, 1) := by decide +kernel
theorem dL_law_724 : decode cL_law 724 = .ok (.iload 4, 2) := by decide +kernel
theorem dL_law_726 : decode cL_law 726 = .ok (.iconst 1, 1) := by decide +kernel
theorem dL_law_727 : decode cL_law 727 = .ok (.iadd, 1) := by decide +kernel
theorem dL_law_728 : decode cL_law 728 = .ok (.iaload, 1) := by decide +kernel
theorem dL_law_729 : decode cL_law 729 = .ok (.aload_n 3, 1) := by decide +kernel
theorem dL_law_730 : decode cL_law 730 = .ok (.invokestatic 105, 3) := by decide +kernel
theorem dL_law_733 : decode cL_law 733 = .ok (.istore 5, 2) := by decide +kernel
theorem dL_law_735 : decode cL_law 735 = .ok (.aload_n 2, 1) := by decide +kernel
theorem dL_law_736 : decode cL_law 736 = .ok (.aload_n 0, 1) := by decide +kernel
theorem dL_law_737 : decode cL_law 737 = .ok (.iload 4, 2) := by decide +kernel
theorem dL_law_739 : decode cL_law 739 = .ok (.iconst 1, 1) := by decide +kernel
theorem dL_law_740 : decode cL_law 740 = .ok (.iadd, 1) := by decide +kernel
theorem dL_law_741 : decode cL_law 741 = .ok (.iaload, 1) := by decide +kernel
theorem dL_law_742 : decode cL_law 742 = .ok (.invokevirtual 107, 3) := by decide +kernel
theorem dL_law_745 : decode cL_law 745 = .ok (.istore 6, 2) := by decide +kernel
theorem dL_law_747 : decode cL_law 747 = .ok (.aload_n 2, 1) := by decide +kernel
theorem dL_law_748 : decode cL_law 748 = .ok (.invokevirtual 65, 3) := by decide +kernel
theorem dL_law_751 : decode cL_law 751 = .ok (.iload 5, 2) := by decide +kernel
theorem dL_law_753 : decode cL_law 753 = .ok (.if_icmp .eq 5, 3) := by decide +kernel
theorem dL_law_756 : decode cL_law 756 = .ok (.iconst 0, 1) := by decide +kernel
theorem dL_law_757 : decode cL_law 757 = .ok (.ireturn, 1) := by decide +kernel
theorem dL_law_758 : decode cL_law 758 = .ok (.iload 5, 2) := by decide +kernel
theorem dL_law_760 : decode cL_law 760 = .ok (.ifCond .ne 15, 3) := by decide +kernel
theorem dL_law_763 : decode cL_law 763 = .ok (.aload_n 3, 1) := by decide +kernel
theorem dL_law_764 : decode cL_law 764 = .ok (.iconst 0, 1) := by decide +kernel
theorem dL_law_765 : decode cL_law 765 = .ok (.laload, 1) := by decide +kernel
theorem dL_law_766 : decode cL_law 766 = .ok (.iload 6, 2) := by decide +kernel
theorem dL_law_768 : decode cL_law 768 = .ok (.i2l, 1) := by decide +kernel
theorem dL_law_769 : decode cL_law 769 = .ok (.lcmp, 1) := by decide +kernel
theorem dL_law_770 : decode cL_law 770 = .ok (.ifCond .eq 5, 3) := by decide +kernel
theorem dL_law_773 : decode cL_law 773 = .ok (.iconst 0, 1) := by decide +kernel
theorem dL_law_774 : decode cL_law 774 = .ok (.ireturn, 1) := by decide +kernel
theorem dL_law_775 : decode cL_law 775 = .ok (.goto 184, 3) := by decide +kernel
theorem dL_law_778 : decode cL_law 778 = .ok (.aload_n 1, 1) := by decide +kernel
theorem dL_law_779 : decode cL_law 779 = .ok (.aload_n 0, 1) := by decide +kernel
theorem dL_law_780 : decode cL_law 780 = .ok (.iload 4, 2) := by decide +kernel
theorem dL_law_782 : decode cL_law 782 = .ok (.iconst 1, 1) := by decide +kernel
theorem dL_law_783 : decode cL_law 783 = .ok (.iadd, 1) := by decide +kernel
theorem dL_law_784 : decode cL_law 784 = .ok (.iaload, 1) := by decide +kernel
theorem dL_law_785 : decode cL_law 785 = .ok (.aload_n 3, 1) := by decide +kernel
theorem dL_law_786 : decode cL_law 786 = .ok (.invokestatic 108, 3) := by decide +kernel
theorem dL_law_789 : decode cL_law 789 = .ok (.istore 5, 2) := by decide +kernel
theorem dL_law_791 : decode cL_law 791 = .ok (.aload_n 2, 1) := by decide +kernel
theorem dL_law_792 : decode cL_law 792 = .ok (.aload_n 0, 1) := by decide +kernel
theorem dL_law_793 : decode cL_law 793 = .ok (.iload 4, 2) := by decide +kernel
theorem dL_law_795 : decode cL_law 795 = .ok (.iconst 1, 1) := by decide +kernel
theorem dL_law_796 : decode cL_law 796 = .ok (.iadd, 1) := by decide +kernel
theorem dL_law_797 : decode cL_law 797 = .ok (.iaload, 1) := by decide +kernel
theorem dL_law_798 : decode cL_law 798 = .ok (.invokevirtual 110, 3) := by decide +kernel
theorem dL_law_801 : decode cL_law 801 = .ok (.istore 6, 2) := by decide +kernel
theorem dL_law_803 : decode cL_law 803 = .ok (.aload_n 2, 1) := by decide +kernel
theorem dL_law_804 : decode cL_law 804 = .ok (.invokevirtual 65, 3) := by decide +kernel
theorem dL_law_807 : decode cL_law 807 = .ok (.iload 5, 2) := by decide +kernel
theorem dL_law_809 : decode cL_law 809 = .ok (.if_icmp .eq 5, 3) := by decide +kernel
theorem dL_law_812 : decode cL_law 812 = .ok (.iconst 0, 1) := by decide +kernel
theorem dL_law_813 : decode cL_law 813 = .ok (.ireturn, 1) := by decide +kernel
theorem dL_law_814 : decode cL_law 814 = .ok (.iload 5, 2) := by decide +kernel
theorem dL_law_816 : decode cL_law 816 = .ok (.ifCond .ne 15, 3) := by decide +kernel
theorem dL_law_819 : decode cL_law 819 = .ok (.aload_n 3, 1) := by decide +kernel
theorem dL_law_820 : decode cL_law 820 = .ok (.iconst 0, 1) := by decide +kernel
theorem dL_law_821 : decode cL_law 821 = .ok (.laload, 1) := by decide +kernel
theorem dL_law_822 : decode cL_law 822 = .ok (.iload 6, 2) := by decide +kernel
theorem dL_law_824 : decode cL_law 824 = .ok (.i2l, 1) := by decide +kernel
theorem dL_law_825 : decode cL_law 825 = .ok (.lcmp, 1) := by decide +kernel
theorem dL_law_826 : decode cL_law 826 = .ok (.ifCond .eq 5, 3) := by decide +kernel
theorem dL_law_829 : decode cL_law 829 = .ok (.iconst 0, 1) := by decide +kernel
theorem dL_law_830 : decode cL_law 830 = .ok (.ireturn, 1) := by decide +kernel
theorem dL_law_831 : decode cL_law 831 = .ok (.goto 128, 3) := by decide +kernel
theorem dL_law_834 : decode cL_law 834 = .ok (.aload_n 1, 1) := by decide +kernel
theorem dL_law_835 : decode cL_law 835 = .ok (.aload_n 0, 1) := by decide +kernel
theorem dL_law_836 : decode cL_law 836 = .ok (.iload 4, 2) := by decide +kernel
theorem dL_law_838 : decode cL_law 838 = .ok (.iconst 1, 1) := by decide +kernel
theorem dL_law_839 : decode cL_law 839 = .ok (.iadd, 1) := by decide +kernel
theorem dL_law_840 : decode cL_law 840 = .ok (.iaload, 1) := by decide +kernel
theorem dL_law_841 : decode cL_law 841 = .ok (.aload_n 3, 1) := by decide +kernel
theorem dL_law_842 : decode cL_law 842 = .ok (.invokestatic 111, 3) := by decide +kernel
theorem dL_law_845 : decode cL_law 845 = .ok (.istore 5, 2) := by decide +kernel
theorem dL_law_847 : decode cL_law 847 = .ok (.aload_n 2, 1) := by decide +kernel
theorem dL_law_848 : decode cL_law 848 = .ok (.aload_n 0, 1) := by decide +kernel
theorem dL_law_849 : decode cL_law 849 = .ok (.iload 4, 2) := by decide +kernel
theorem dL_law_851 : decode cL_law 851 = .ok (.iconst 1, 1) := by decide +kernel
theorem dL_law_852 : decode cL_law 852 = .ok (.iadd, 1) := by decide +kernel
theorem dL_law_853 : decode cL_law 853 = .ok (.iaload, 1) := by decide +kernel
theorem dL_law_854 : decode cL_law 854 = .ok (.invokevirtual 113, 3) := by decide +kernel
theorem dL_law_857 : decode cL_law 857 = .ok (.istore 6, 2) := by decide +kernel
theorem dL_law_859 : decode cL_law 859 = .ok (.aload_n 2, 1) := by decide +kernel
theorem dL_law_860 : decode cL_law 860 = .ok (.invokevirtual 65, 3) := by decide +kernel
theorem dL_law_863 : decode cL_law 863 = .ok (.iload 5, 2) := by decide +kernel
theorem dL_law_865 : decode cL_law 865 = .ok (.if_icmp .eq 5, 3) := by decide +kernel
theorem dL_law_868 : decode cL_law 868 = .ok (.iconst 0, 1) := by decide +kernel
theorem dL_law_869 : decode cL_law 869 = .ok (.ireturn, 1) := by decide +kernel
theorem dL_law_870 : decode cL_law 870 = .ok (.iload 5, 2) := by decide +kernel
theorem dL_law_872 : decode cL_law 872 = .ok (.ifCond .ne 15, 3) := by decide +kernel
theorem dL_law_875 : decode cL_law 875 = .ok (.aload_n 3, 1) := by decide +kernel
theorem dL_law_876 : decode cL_law 876 = .ok (.iconst 0, 1) := by decide +kernel
theorem dL_law_877 : decode cL_law 877 = .ok (.laload, 1) := by decide +kernel
theorem dL_law_878 : decode cL_law 878 = .ok (.iload 6, 2) := by decide +kernel
theorem dL_law_880 : decode cL_law 880 = .ok (.i2l, 1) := by decide +kernel
theorem dL_law_881 : decode cL_law 881 = .ok (.lcmp, 1) := by decide +kernel
theorem dL_law_882 : decode cL_law 882 = .ok (.ifCond .eq 5, 3) := by decide +kernel
theorem dL_law_885 : decode cL_law 885 = .ok (.iconst 0, 1) := by decide +kernel
theorem dL_law_886 : decode cL_law 886 = .ok (.ireturn, 1) := by decide +kernel
theorem dL_law_887 : decode cL_law 887 = .ok (.goto 72, 3) := by decide +kernel
theorem dL_law_890 : decode cL_law 890 = .ok (.aload_n 1, 1) := by decide +kernel
theorem dL_law_891 : decode cL_law 891 = .ok (.invokevirtual 114, 3) := by decide +kernel
theorem dL_law_894 : decode cL_law 894 = .ok (.aload_n 2, 1) := by decide +kernel
theorem dL_law_895 : decode cL_law 895 = .ok (.invokevirtual 117, 3) := by decide +kernel
theorem dL_law_898 : decode cL_law 898 = .ok (.if_icmp .eq 61, 3) := by decide +kernel
theorem dL_law_901 : decode cL_law 901 = .ok (.iconst 0, 1) := by decide +kernel
theorem dL_law_902 : decode cL_law 902 = .ok (.ireturn, 1) := by decide +kernel
theorem dL_law_903 : decode cL_law 903 = .ok (.aload_n 1, 1) := by decide +kernel
theorem dL_law_904 : decode cL_law 904 = .ok (.aload_n 0, 1) := by decide +kernel
theorem dL_law_905 : decode cL_law 905 = .ok (.iload 4, 2) := by decide +kernel
theorem dL_law_907 : decode cL_law 907 = .ok (.iconst 1, 1) := by decide +kernel
theorem dL_law_908 : decode cL_law 908 = .ok (.iadd, 1) := by decide +kernel
theorem dL_law_909 : decode cL_law 909 = .ok (.iaload, 1) := by decide +kernel
theorem dL_law_910 : decode cL_law 910 = .ok (.aload_n 3, 1) := by decide +kernel
theorem dL_law_911 : decode cL_law 911 = .ok (.invokestatic 118, 3) := by decide +kernel
theorem dL_law_914 : decode cL_law 914 = .ok (.istore 5, 2) := by decide +kernel
theorem dL_law_916 : decode cL_law 916 = .ok (.aload_n 2, 1) := by decide +kernel
theorem dL_law_917 : decode cL_law 917 = .ok (.aload_n 0, 1) := by decide +kernel
theorem dL_law_918 : decode cL_law 918 = .ok (.iload 4, 2) := by decide +kernel
theorem dL_law_920 : decode cL_law 920 = .ok (.iconst 1, 1) := by decide +kernel
theorem dL_law_921 : decode cL_law 921 = .ok (.iadd, 1) := by decide +kernel
theorem dL_law_922 : decode cL_law 922 = .ok (.iaload, 1) := by decide +kernel
theorem dL_law_923 : decode cL_law 923 = .ok (.invokevirtual 120, 3) := by decide +kernel
theorem dL_law_926 : decode cL_law 926 = .ok (.istore 6, 2) := by decide +kernel
theorem dL_law_928 : decode cL_law 928 = .ok (.aload_n 2, 1) := by decide +kernel
theorem dL_law_929 : decode cL_law 929 = .ok (.invokevirtual 65, 3) := by decide +kernel
theorem dL_law_932 : decode cL_law 932 = .ok (.iload 5, 2) := by decide +kernel
theorem dL_law_934 : decode cL_law 934 = .ok (.if_icmp .eq 5, 3) := by decide +kernel
theorem dL_law_937 : decode cL_law 937 = .ok (.iconst 0, 1) := by decide +kernel
theorem dL_law_938 : decode cL_law 938 = .ok (.ireturn, 1) := by decide +kernel
theorem dL_law_939 : decode cL_law 939 = .ok (.iload 5, 2) := by decide +kernel
theorem dL_law_941 : decode cL_law 941 = .ok (.ifCond .ne 15, 3) := by decide +kernel
theorem dL_law_944 : decode cL_law 944 = .ok (.aload_n 3, 1) := by decide +kernel
theorem dL_law_945 : decode cL_law 945 = .ok (.iconst 0, 1) := by decide +kernel
theorem dL_law_946 : decode cL_law 946 = .ok (.laload, 1) := by decide +kernel
theorem dL_law_947 : decode cL_law 947 = .ok (.iload 6, 2) := by decide +kernel
theorem dL_law_949 : decode cL_law 949 = .ok (.i2l, 1) := by decide +kernel
theorem dL_law_950 : decode cL_law 950 = .ok (.lcmp, 1) := by decide +kernel
theorem dL_law_951 : decode cL_law 951 = .ok (.ifCond .eq 5, 3) := by decide +kernel
theorem dL_law_954 : decode cL_law 954 = .ok (.iconst 0, 1) := by decide +kernel
theorem dL_law_955 : decode cL_law 955 = .ok (.ireturn, 1) := by decide +kernel
theorem dL_law_956 : decode cL_law 956 = .ok (.goto 3, 3) := by decide +kernel
theorem dL_law_959 : decode cL_law 959 = .ok (.iinc 4 5, 3) := by decide +kernel
theorem dL_law_962 : decode cL_law 962 = .ok (.goto (-939), 3) := by decide +kernel
theorem dL_law_965 : decode cL_law 965 = .ok (.iconst 1, 1) := by decide +kernel
theorem dL_law_966 : decode cL_law 966 = .ok (.ireturn, 1) := by decide +kernel
end
section
section VPURE
/-! the floor's numbers -/
def cC (high border : Int) : Int := (7 - 2 * border) / high + 1
def nS (high border : Int) : Int := 2 * border + cC high border
def sR (high border y : Int) : Int := if y < border then y else if 8 - border ≤ y then border + cC high border + y - (8 - border) else border + (y - border) / high
def shf (wide high border pattern y : Int) : Int := if pattern = 1 ∧ (y - border) / high % 2 = 1 then wide / 2 else 0
abbrev egd (border x y : Int) : Prop := x < border ∨ 12 - border ≤ x ∨ y < border ∨ 8 - border ≤ y
def tlL (wide high border pattern x y : Int) : Int := (border - shf wide high border pattern y) + (x - (border - shf wide high border pattern y)) / wide * wide
def fL (wide high border pattern x y : Int) : Int := if egd border x y then x else max (tlL wide high border pattern x y) border
def fR (wide high border pattern x y : Int) : Int := if egd border x y then x + 1 else min (tlL wide high border pattern x y + wide) (12 - border)
def fT (wide high border pattern x y : Int) : Int := if egd border x y then y else border + (y - border) / high * high
def fB (wide high border pattern x y : Int) : Int := if egd border x y then y + 1 else min (border + (y - border) / high * high + high) (8 - border)
theorem one4 {a : Int} (h : 1 ≤ a ∧ a ≤ 4) : a = 1 ∨ a = 2 ∨ a = 3 ∨ a = 4 := by omega
theorem dm_rng {t w : Int} (h0 : 0 ≤ t) (hw : 1 ≤ w) : 0 ≤ t / w ∧ t / w ≤ t ∧ t / w * w ≤ t ∧ t < t / w * w + w ∧ 0 ≤ t / w * w := by
  have h1 := Int.ediv_mul_le t (show w ≠ 0 by omega)
  have h2 := Int.lt_ediv_add_one_mul_self t (show 0 < w by omega)
  rw [Int.add_mul, Int.one_mul] at h2
  have h3 : 0 ≤ t / w := Int.ediv_nonneg h0 (by omega)
  have h4 : 0 ≤ t / w * w := Int.mul_nonneg h3 (by omega)
  have h5 : t / w ≤ t := Int.ediv_le_self w h0
  exact ⟨h3, h5, h1, h2, h4⟩
theorem cC_rng {high border : Int} (hh : 1 ≤ high ∧ high ≤ 4) (hb : 0 ≤ border ∧ border ≤ 2) : 1 ≤ cC high border ∧ cC high border ≤ 8 - 2 * border := by
  unfold cC
  rcases one4 hh with rfl | rfl | rfl | rfl <;> omega
theorem nS_rng {high border : Int} (hh : 1 ≤ high ∧ high ≤ 4) (hb : 0 ≤ border ∧ border ≤ 2) : 1 ≤ nS high border ∧ nS high border ≤ 8 := by
  have := cC_rng hh hb
  unfold nS
  omega
theorem sR_rng {high border y : Int} (hh : 1 ≤ high ∧ high ≤ 4) (hb : 0 ≤ border ∧ border ≤ 2) (hy : 0 ≤ y ∧ y < 8) : 0 ≤ sR high border y ∧ sR high border y < nS high border := by
  unfold sR nS cC
  rcases one4 hh with rfl | rfl | rfl | rfl <;> (by_cases h1 : y < border <;> by_cases h2 : 8 - border ≤ y <;> simp only [h1, h2, if_true, if_false] <;> omega)
theorem shf_rng {wide high border pattern y : Int} (hw : 1 ≤ wide ∧ wide ≤ 4) : 0 ≤ shf wide high border pattern y ∧ shf wide high border pattern y ≤ 2 ∧ shf wide high border pattern y < wide := by
  unfold shf
  split <;> omega
theorem frame_rng {wide high border pattern x y : Int} (hw : 1 ≤ wide ∧ wide ≤ 4) (hh : 1 ≤ high ∧ high ≤ 4) (hb : 0 ≤ border ∧ border ≤ 2) (hx : 0 ≤ x ∧ x < 12) (hy : 0 ≤ y ∧ y < 8) :
    (0 ≤ fL wide high border pattern x y ∧ fL wide high border pattern x y ≤ x ∧ x < fR wide high border pattern x y ∧ fR wide high border pattern x y ≤ 12) ∧ 0 ≤ fT wide high border pattern x y ∧ fT wide high border pattern x y ≤ y ∧ y < fB wide high border pattern x y ∧ fB wide high border pattern x y ≤ 8 := by
  by_cases he : egd border x y
  · simp only [fL, fR, fT, fB, if_pos he]; omega
  · simp only [fL, fR, fT, fB, if_neg he]
    have hs := shf_rng (high := high) (border := border) (pattern := pattern) (y := y) hw
    simp only [egd] at he
    have h1 := dm_rng (t := x - (border - shf wide high border pattern y)) (w := wide) (by omega) hw.1
    have h2 := dm_rng (t := y - border) (w := high) (by omega) hh.1
    simp only [tlL]
    omega
end VPURE
end
section
section VDEF
def aC (c : ClassId) (a n : Nat) (g : Int → Int) : Nat × va_E := (a, .inl (c, n, .inl (aI g)))
def aL (c : ClassId) (a n : Nat) (g : Int → Int) : Nat × va_E := (a, .inl (c, n, .inr (.inl (bI g))))
def oL (a : Nat) (wide : Int) (high : Int) (border : Int) (pattern : Int) : Nat × va_E := (a, .inr (3, [.int (iI wide), .int (iI high), .int (iI border), .int (iI pattern)]))
def oB (a : Nat → Nat) (door : Int) : Nat × va_E := (a 0, .inr (0, [.ref (a 1), .ref (a 2), .int (iI door)]))
def oC (a : Nat → Nat) (nt : Int) (rc : Int) : Nat × va_E := (a 0, .inr (1, [.int (iI nt), .ref (a 1), .int (iI rc), .ref (a 2), .ref (a 3), .ref (a 4)]))
def oF (a : Nat) (fl : Int) (fr : Int) (ft : Int) (fb : Int) : Nat × va_E := (a, .inr (2, [.int (iI fl), .int (iI fr), .int (iI ft), .int (iI fb)]))
def oP (a : Nat → Nat) (cnt : Int) : Nat × va_E := (a 0, .inr (4, [.int (iI cnt), .ref (a 1), .ref (a 2), .ref (a 3), .ref (a 4), .ref (a 5), .ref (a 6), .ref (a 7), .ref (a 8)]))
def oK (a : Nat → Nat) (kc : Int) (km : Int) : Nat × va_E := (a 0, .inr (5, [.int (iI kc), .int (iI km), .ref (a 1), .ref (a 2)]))
def oW (a : Nat → Nat) (hour : Int) (grt : Int) (beg : Int) : Nat × va_E := (a 0, .inr (6, [.int (iI hour), .int (iI grt), .int (iI beg), .ref (a 1), .ref (a 2)]))
def oG (a : Nat) (xl : Nat) (xb : Nat) (xp : Nat) (xc : Nat) (xk : Nat) (xw : Nat) (xf : Nat) : Nat × va_E := (a, .inr (7, [.ref xl, .ref xb, .ref xp, .ref xc, .ref xk, .ref xw, .ref xf]))
def oM (a : Nat → Nat) (mwide : Int) (mhigh : Int) (mborder : Int) (mpattern : Int) (mdoor : Int) (mpieces : Int) (mtiles : Int) (mrests : Int) (mcrates : Int) (mmoves : Int) (manyLaid : Int) (mgrout : Int) (mhour : Int) (mthrown : Int) : Nat × va_E := (a 0, .inr (8, [.int (iI mwide), .int (iI mhigh), .int (iI mborder), .int (iI mpattern), .int (iI mdoor), .ref (a 1), .ref (a 2), .ref (a 3), .ref (a 4), .ref (a 5), .ref (a 6), .ref (a 7), .ref (a 8), .ref (a 9), .ref (a 10), .ref (a 11), .int (iI mpieces), .int (iI mtiles), .ref (a 12), .ref (a 13), .ref (a 14), .int (iI mrests), .ref (a 15), .ref (a 16), .int (iI mcrates), .int (iI mmoves), .ref (a 17), .int (iI manyLaid), .int (iI mgrout), .int (iI mhour), .int (iI mthrown)]))
end VDEF
end
section
set_option maxHeartbeats 4000000 in
set_option maxRecDepth 100000 in
theorem c_X7_isWithin (lx : Launch) (D : va_G) (cs : Nat → ClassId) (a : Int) (b : Int) (k : Int) (ha : -2147483648 ≤ a ∧ a < 2147483648) (hb : -2147483648 ≤ b ∧ b < 2147483648) (hk : -2147483648 ≤ k ∧ k < 2147483648) : Ci lx D cs yX7_isWithin wsX7_isWithin ({ frames := 1, cells := 0, slots := 0, locals := 24 }) [.int (iI a), .int (iI b), .int (iI k)] [] (fun (z : Int) (u : Unit) => (z = 0 ∨ z = 1) ∧ (z = 1 ↔ b ≤ a ∧ a ≤ k)) (fun u : Unit => []) 0 0 := by
  refine Ci_of (cc := cX7_isWithin) (nL := 3) (ret := (some .boolean)) (lv0 := [(0, .int (iI a)), (1, .int (iI b)), (2, .int (iI k))]) RX7 "isWithin" (by decide +kernel) rfl (by decide) rfl (fun p9 e9 s9 m9 ar9 be9 me9 c9 A9 Q9 hQ hC => ?_)
  refine v_iload_n hC 1 0 dX7_isWithin_0 rfl rfl rfl ?_
  refine v_iload_n hC 2 1 dX7_isWithin_1 rfl rfl rfl ?_
  refine v_icmp_lt hC 14 5 dX7_isWithin_2 (by decide) rfl (by omega) (by omega) (fun c_2 => ?_) (fun c_2 => ?_)
  · skip
    refine v_iconst hC 15 dX7_isWithin_14 rfl ?_
    exact v_zret hC hQ () [] dX7_isWithin_15 (by omega) rfl rfl ⟨by decide, by decide⟩ ⟨by dsimp only; omega, by dsimp only; omega⟩
  · skip
    refine v_iload_n hC 6 0 dX7_isWithin_5 rfl rfl rfl ?_
    refine v_iload_n hC 7 2 dX7_isWithin_6 rfl rfl rfl ?_
    refine v_icmp_gt hC 14 10 dX7_isWithin_7 (by decide) rfl (by omega) (by omega) (fun c_7 => ?_) (fun c_7 => ?_)
    · skip
      refine v_iconst hC 15 dX7_isWithin_14 rfl ?_
      exact v_zret hC hQ () [] dX7_isWithin_15 (by omega) rfl rfl ⟨by decide, by decide⟩ ⟨by dsimp only; omega, by dsimp only; omega⟩
    · skip
      refine v_iconst hC 11 dX7_isWithin_10 rfl ?_
      refine v_goto hC 15 dX7_isWithin_11 (by decide) ?_
      exact v_zret hC hQ () [] dX7_isWithin_15 (by omega) rfl rfl ⟨by decide, by decide⟩ ⟨by dsimp only; omega, by dsimp only; omega⟩

set_option maxHeartbeats 4000000 in
set_option maxRecDepth 100000 in
theorem c_X7_isCell (lx : Launch) (D : va_G) (cs : Nat → ClassId) (a : Int) (b : Int) (ha : -2147483648 ≤ a ∧ a < 2147483648) (hb : -2147483648 ≤ b ∧ b < 2147483648) : Ci lx D cs yX7_isCell wsX7_isCell ({ frames := 1, cells := 0, slots := 0, locals := 24 }) [.int (iI a), .int (iI b)] [] (fun (z : Int) (u : Unit) => (z = 0 ∨ z = 1) ∧ (z = 1 ↔ (0 ≤ a ∧ a < 12) ∧ 0 ≤ b ∧ b < 8)) (fun u : Unit => []) 0 0 := by
  refine Ci_of (cc := cX7_isCell) (nL := 2) (ret := (some .boolean)) (lv0 := [(0, .int (iI a)), (1, .int (iI b))]) RX7 "isCell" (by decide +kernel) rfl (by decide) rfl (fun p9 e9 s9 m9 ar9 be9 me9 c9 A9 Q9 hQ hC => ?_)
  refine v_iload_n hC 1 0 dX7_isCell_0 rfl rfl rfl ?_
  refine v_if_lt hC 24 4 dX7_isCell_1 (by decide) rfl (by omega) (fun c_1 => ?_) (fun c_1 => ?_)
  · skip
    refine v_iconst hC 25 dX7_isCell_24 rfl ?_
    exact v_zret hC hQ () [] dX7_isCell_25 (by omega) rfl rfl ⟨by decide, by decide⟩ ⟨by dsimp only; omega, by dsimp only; omega⟩
  · skip
    refine v_iload_n hC 5 0 dX7_isCell_4 rfl rfl rfl ?_
    refine v_bipush hC 7 dX7_isCell_5 rfl rfl ?_
    refine v_icmp_ge hC 24 10 dX7_isCell_7 (by decide) rfl (by omega) (by omega) (fun c_7 => ?_) (fun c_7 => ?_)
    · skip
      refine v_iconst hC 25 dX7_isCell_24 rfl ?_
      exact v_zret hC hQ () [] dX7_isCell_25 (by omega) rfl rfl ⟨by decide, by decide⟩ ⟨by dsimp only; omega, by dsimp only; omega⟩
    · skip
      refine v_iload_n hC 11 1 dX7_isCell_10 rfl rfl rfl ?_
      refine v_if_lt hC 24 14 dX7_isCell_11 (by decide) rfl (by omega) (fun c_11 => ?_) (fun c_11 => ?_)
      · skip
        refine v_iconst hC 25 dX7_isCell_24 rfl ?_
        exact v_zret hC hQ () [] dX7_isCell_25 (by omega) rfl rfl ⟨by decide, by decide⟩ ⟨by dsimp only; omega, by dsimp only; omega⟩
      · skip
        refine v_iload_n hC 15 1 dX7_isCell_14 rfl rfl rfl ?_
        refine v_bipush hC 17 dX7_isCell_15 rfl rfl ?_
        refine v_icmp_ge hC 24 20 dX7_isCell_17 (by decide) rfl (by omega) (by omega) (fun c_17 => ?_) (fun c_17 => ?_)
        · skip
          refine v_iconst hC 25 dX7_isCell_24 rfl ?_
          exact v_zret hC hQ () [] dX7_isCell_25 (by omega) rfl rfl ⟨by decide, by decide⟩ ⟨by dsimp only; omega, by dsimp only; omega⟩
        · skip
          refine v_iconst hC 21 dX7_isCell_20 rfl ?_
          refine v_goto hC 25 dX7_isCell_21 (by decide) ?_
          exact v_zret hC hQ () [] dX7_isCell_25 (by omega) rfl rfl ⟨by decide, by decide⟩ ⟨by dsimp only; omega, by dsimp only; omega⟩

set_option maxHeartbeats 4000000 in
set_option maxRecDepth 100000 in
theorem c_X7_isFloor (lx : Launch) (D : va_G) (cs : Nat → ClassId) (a : Int) (ha : -2147483648 ≤ a ∧ a < 2147483648) : Ci lx D cs yX7_isFloor wsX7_isFloor ({ frames := 2, cells := 0, slots := 0, locals := 46 }) [.int (iI a)] [] (fun (z : Int) (u : Unit) => (z = 0 ∨ z = 1) ∧ (z = 1 ↔ 0 ≤ a ∧ a ≤ 9)) (fun u : Unit => []) 0 0 := by
  refine Ci_of (cc := cX7_isFloor) (nL := 1) (ret := (some .boolean)) (lv0 := [(0, .int (iI a))]) RX7 "isFloor" (by decide +kernel) rfl (by decide) rfl (fun p9 e9 s9 m9 ar9 be9 me9 c9 A9 Q9 hQ hC => ?_)
  refine v_iload_n hC 1 0 dX7_isFloor_0 rfl rfl rfl ?_
  refine v_iconst hC 2 dX7_isFloor_1 rfl ?_
  refine v_bipush hC 4 dX7_isFloor_2 rfl rfl ?_
  refine v_callSi hC 7 3 [] [] [] (As := [.int (iI a), .int (iI 0), .int (iI 9)]) (rest := []) (c_X7_isWithin lx D cs a 0 9 (by omega) (by omega) (by omega)) dX7_isFloor_4 rfl rfl gX7_isFloor_X7_isWithin rfl rfl rfl (by decide +kernel) ⟨by decide, by decide⟩ rfl rfl rfl rfl (by decide) rfl (by decide) ⟨rfl, rfl⟩ ⟨by decide, by decide⟩ (fun z4 u4 h4 => ?_)
  dsimp only at h4
  obtain ⟨h4_1, h4_2⟩ := h4
  show V p9 lx e9 ({ frames := 2, cells := 0, slots := 0, locals := 46 }) s9 m9 ar9 be9 me9 c9 Q9 D A9 s9.heap 1 0 0 [] [(0, .int (iI a))] 7 [.int (iI z4)]
  exact v_zret hC hQ () [] dX7_isFloor_7 (by omega) rfl rfl ⟨by decide, by decide⟩ ⟨by dsimp only; omega, by dsimp only; omega⟩

set_option maxHeartbeats 4000000 in
set_option maxRecDepth 100000 in
theorem c_X7_cellAt (lx : Launch) (D : va_G) (cs : Nat → ClassId) (a : Int) (b : Int)  : Ci lx D cs yX7_cellAt wsX7_cellAt ({ frames := 1, cells := 0, slots := 0, locals := 24 }) [.int (iI a), .int (iI b)] [] (fun (z : Int) (u : Unit) => (z = b * 12 + a)) (fun u : Unit => []) 0 0 := by
  refine Ci_of (cc := cX7_cellAt) (nL := 2) (ret := (some .int)) (lv0 := [(0, .int (iI a)), (1, .int (iI b))]) RX7 "cellAt" (by decide +kernel) rfl (by decide) rfl (fun p9 e9 s9 m9 ar9 be9 me9 c9 A9 Q9 hQ hC => ?_)
  refine v_iload_n hC 1 1 dX7_cellAt_0 rfl rfl rfl ?_
  refine v_bipush hC 3 dX7_cellAt_1 rfl rfl ?_
  refine v_imul hC 4 (b * 12) dX7_cellAt_3 rfl rfl ?_
  refine v_iload_n hC 5 0 dX7_cellAt_4 rfl rfl rfl ?_
  refine v_iadd hC 6 (b * 12 + a) dX7_cellAt_5 rfl rfl ?_
  exact v_iret hC hQ () [] dX7_cellAt_6 rfl rfl ⟨by decide, by decide⟩ (by dsimp only; first | rfl | omega)

set_option maxHeartbeats 4000000 in
set_option maxRecDepth 100000 in
theorem c_X7_timesIn (lx : Launch) (D : va_G) (cs : Nat → ClassId) (a : Int) (b : Int) (ha : 1 ≤ a ∧ a < 2147483648) (hb : 0 ≤ b ∧ b < 2147483648) : Ci lx D cs yX7_timesIn wsX7_timesIn ({ frames := 1, cells := 0, slots := 0, locals := 24 }) [.int (iI a), .int (iI b)] [] (fun (z : Int) (u : Unit) => (z = b / a)) (fun u : Unit => []) 0 0 := by
  refine Ci_of (cc := cX7_timesIn) (nL := 2) (ret := (some .int)) (lv0 := [(0, .int (iI a)), (1, .int (iI b))]) RX7 "timesIn" (by decide +kernel) rfl (by decide) rfl (fun p9 e9 s9 m9 ar9 be9 me9 c9 A9 Q9 hQ hC => ?_)
  refine v_iload_n hC 1 0 dX7_timesIn_0 rfl rfl rfl ?_
  refine v_iconst hC 2 dX7_timesIn_1 rfl ?_
  refine v_icmp_ge hC 9 5 dX7_timesIn_2 (by decide) rfl (by omega) (by omega) (fun c_2 => ?_) (fun c_2 => ?_)
  · skip
    refine v_iload_n hC 10 1 dX7_timesIn_9 rfl rfl rfl ?_
    refine v_iload_n hC 11 0 dX7_timesIn_10 rfl rfl rfl ?_
    refine v_idiv hC 12 (b / a) dX7_timesIn_11 rfl (by omega) (by omega) rfl ?_
    exact v_iret hC hQ () [] dX7_timesIn_12 rfl rfl ⟨by decide, by decide⟩ (by dsimp only; first | rfl | omega)
  · exfalso; omega
end
section
set_option maxHeartbeats 4000000 in
set_option maxRecDepth 100000 in
theorem c_X3_set (lx : Launch) (D : va_G) (cs : Nat → ClassId) (al : Nat) (wide : Int) (high : Int) (border : Int) (pattern : Int) (w2 : Int) (h2 : Int) (b2 : Int) (p2 : Int)  : Cv lx D cs yX3_set wsX3_set ({ frames := 1, cells := 0, slots := 0, locals := 24 }) [.ref al, .int (iI w2), .int (iI h2), .int (iI b2), .int (iI p2)] [oL al wide high border pattern] (fun (u : Unit) => True) (fun u : Unit => [oL al w2 h2 b2 p2]) 0 0 := by
  refine Cv_of (cc := cX3_set) (nL := 5) (ret := none) (lv0 := [(0, .ref al), (1, .int (iI w2)), (2, .int (iI h2)), (3, .int (iI b2)), (4, .int (iI p2))]) RX3 "set" (by decide +kernel) rfl (by decide) rfl (fun p9 e9 s9 m9 ar9 be9 me9 c9 A9 Q9 hQ hC => ?_)
  have iX3 : ∀ w ∈ wsX30, w ∈ wsX3_set := by decide +kernel
  have L0 : Cond.fieldLink RX3 9 "Groutline$Layout" "wide" "I" ∈ wsX3_set := by decide +kernel
  have L1 : Cond.fieldLink RX3 15 "Groutline$Layout" "high" "I" ∈ wsX3_set := by decide +kernel
  have L2 : Cond.fieldLink RX3 18 "Groutline$Layout" "border" "I" ∈ wsX3_set := by decide +kernel
  have L3 : Cond.fieldLink RX3 21 "Groutline$Layout" "pattern" "I" ∈ wsX3_set := by decide +kernel
  refine v_aload_n hC 1 0 dX3_set_0 rfl rfl rfl ?_
  refine v_iload_n hC 2 1 dX3_set_1 rfl rfl rfl ?_
  refine v_put hC 5 0 0 [oL al w2 high border pattern] (C := RX3) (T := TX3) (N := 4) dX3_set_2 rfl iX3 tyX3_ok nmX3 L0 rfl rfl (by decide) rfl rfl rfl (by decide) rfl ?_
  refine v_aload_n hC 6 0 dX3_set_5 rfl rfl rfl ?_
  refine v_iload_n hC 7 2 dX3_set_6 rfl rfl rfl ?_
  refine v_put hC 10 0 1 [oL al w2 h2 border pattern] (C := RX3) (T := TX3) (N := 4) dX3_set_7 rfl iX3 tyX3_ok nmX3 L1 rfl rfl (by decide) rfl rfl rfl (by decide) rfl ?_
  refine v_aload_n hC 11 0 dX3_set_10 rfl rfl rfl ?_
  refine v_iload_n hC 12 3 dX3_set_11 rfl rfl rfl ?_
  refine v_put hC 15 0 2 [oL al w2 h2 b2 pattern] (C := RX3) (T := TX3) (N := 4) dX3_set_12 rfl iX3 tyX3_ok nmX3 L2 rfl rfl (by decide) rfl rfl rfl (by decide) rfl ?_
  refine v_aload_n hC 16 0 dX3_set_15 rfl rfl rfl ?_
  refine v_iload hC 18 4 dX3_set_16 rfl rfl ?_
  refine v_put hC 21 0 3 [oL al w2 h2 b2 p2] (C := RX3) (T := TX3) (N := 4) dX3_set_18 rfl iX3 tyX3_ok nmX3 L3 rfl rfl (by decide) rfl rfl rfl (by decide) rfl ?_
  exact v_vret hC hQ () [0] dX3_set_21 rfl rfl ⟨by decide, by decide⟩ trivial

set_option maxHeartbeats 4000000 in
set_option maxRecDepth 100000 in
theorem c_X3_rightBorder (lx : Launch) (D : va_G) (cs : Nat → ClassId) (al : Nat) (wide : Int) (high : Int) (border : Int) (pattern : Int)  : Ci lx D cs yX3_rightBorder wsX3_rightBorder ({ frames := 1, cells := 0, slots := 0, locals := 24 }) [.ref al] [oL al wide high border pattern] (fun (z : Int) (u : Unit) => (z = 12 - border)) (fun u : Unit => [oL al wide high border pattern]) 0 0 := by
  refine Ci_of (cc := cX3_rightBorder) (nL := 1) (ret := (some .int)) (lv0 := [(0, .ref al)]) RX3 "rightBorder" (by decide +kernel) rfl (by decide) rfl (fun p9 e9 s9 m9 ar9 be9 me9 c9 A9 Q9 hQ hC => ?_)
  have iX3 : ∀ w ∈ wsX30, w ∈ wsX3_rightBorder := by decide +kernel
  have L0 : Cond.fieldLink RX3 18 "Groutline$Layout" "border" "I" ∈ wsX3_rightBorder := by decide +kernel
  refine v_bipush hC 2 dX3_rightBorder_0 rfl rfl ?_
  refine v_aload_n hC 3 0 dX3_rightBorder_2 rfl rfl rfl ?_
  refine v_get hC 6 0 2 (C := RX3) (T := TX3) (N := 4) dX3_rightBorder_3 rfl iX3 L0 rfl rfl (by decide) rfl ?_
  refine v_isub hC 7 (12 - border) dX3_rightBorder_6 rfl rfl ?_
  exact v_iret hC hQ () [0] dX3_rightBorder_7 rfl rfl ⟨by decide, by decide⟩ (by dsimp only; first | rfl | omega)

set_option maxHeartbeats 4000000 in
set_option maxRecDepth 100000 in
theorem c_X3_lowerBorder (lx : Launch) (D : va_G) (cs : Nat → ClassId) (al : Nat) (wide : Int) (high : Int) (border : Int) (pattern : Int)  : Ci lx D cs yX3_lowerBorder wsX3_lowerBorder ({ frames := 1, cells := 0, slots := 0, locals := 24 }) [.ref al] [oL al wide high border pattern] (fun (z : Int) (u : Unit) => (z = 8 - border)) (fun u : Unit => [oL al wide high border pattern]) 0 0 := by
  refine Ci_of (cc := cX3_lowerBorder) (nL := 1) (ret := (some .int)) (lv0 := [(0, .ref al)]) RX3 "lowerBorder" (by decide +kernel) rfl (by decide) rfl (fun p9 e9 s9 m9 ar9 be9 me9 c9 A9 Q9 hQ hC => ?_)
  have iX3 : ∀ w ∈ wsX30, w ∈ wsX3_lowerBorder := by decide +kernel
  have L0 : Cond.fieldLink RX3 18 "Groutline$Layout" "border" "I" ∈ wsX3_lowerBorder := by decide +kernel
  refine v_bipush hC 2 dX3_lowerBorder_0 rfl rfl ?_
  refine v_aload_n hC 3 0 dX3_lowerBorder_2 rfl rfl rfl ?_
  refine v_get hC 6 0 2 (C := RX3) (T := TX3) (N := 4) dX3_lowerBorder_3 rfl iX3 L0 rfl rfl (by decide) rfl ?_
  refine v_isub hC 7 (8 - border) dX3_lowerBorder_6 rfl rfl ?_
  exact v_iret hC hQ () [0] dX3_lowerBorder_7 rfl rfl ⟨by decide, by decide⟩ (by dsimp only; first | rfl | omega)

set_option maxHeartbeats 4000000 in
set_option maxRecDepth 100000 in
theorem c_X3_isBorder (lx : Launch) (D : va_G) (cs : Nat → ClassId) (al : Nat) (wide : Int) (high : Int) (border : Int) (pattern : Int) (x : Int) (y : Int) (hb : 0 ≤ border ∧ border ≤ 2) (hx : -2147483648 ≤ x ∧ x < 2147483648) (hy : -2147483648 ≤ y ∧ y < 2147483648) : Ci lx D cs yX3_isBorder wsX3_isBorder ({ frames := 2, cells := 0, slots := 0, locals := 44 }) [.ref al, .int (iI x), .int (iI y)] [oL al wide high border pattern] (fun (z : Int) (u : Unit) => (z = 0 ∨ z = 1) ∧ (z = 1 ↔ x < border ∨ 12 - border ≤ x ∨ y < border ∨ 8 - border ≤ y)) (fun u : Unit => [oL al wide high border pattern]) 0 0 := by
  refine Ci_of (cc := cX3_isBorder) (nL := 3) (ret := (some .boolean)) (lv0 := [(0, .ref al), (1, .int (iI x)), (2, .int (iI y))]) RX3 "isBorder" (by decide +kernel) rfl (by decide) rfl (fun p9 e9 s9 m9 ar9 be9 me9 c9 A9 Q9 hQ hC => ?_)
  have iX3 : ∀ w ∈ wsX30, w ∈ wsX3_isBorder := by decide +kernel
  have L0 : Cond.fieldLink RX3 18 "Groutline$Layout" "border" "I" ∈ wsX3_isBorder := by decide +kernel
  refine v_iload_n hC 1 1 dX3_isBorder_0 rfl rfl rfl ?_
  refine v_aload_n hC 2 0 dX3_isBorder_1 rfl rfl rfl ?_
  refine v_get hC 5 0 2 (C := RX3) (T := TX3) (N := 4) dX3_isBorder_2 rfl iX3 L0 rfl rfl (by decide) rfl ?_
  refine v_icmp_lt hC 32 8 dX3_isBorder_5 (by decide) rfl (by omega) (by omega) (fun c_5 => ?_) (fun c_5 => ?_)
  · skip
    refine v_iconst hC 33 dX3_isBorder_32 rfl ?_
    refine v_goto hC 37 dX3_isBorder_33 (by decide) ?_
    exact v_zret hC hQ () [0] dX3_isBorder_37 (by omega) rfl rfl ⟨by decide, by decide⟩ ⟨by dsimp only; omega, by dsimp only; omega⟩
  · skip
    refine v_iload_n hC 9 1 dX3_isBorder_8 rfl rfl rfl ?_
    refine v_aload_n hC 10 0 dX3_isBorder_9 rfl rfl rfl ?_
    refine v_callVi hC 13 0 [0] [] [] (As := []) (rest := [.int (iI x)]) (c_X3_rightBorder lx D cs al wide high border pattern ) dX3_isBorder_10 rfl rfl 0 rfl rfl gX3_isBorder_X3_rightBorder rfl rfl rfl (by decide +kernel) ⟨by decide, by decide⟩ rfl rfl rfl rfl (by decide) rfl (by decide) ⟨rfl, rfl⟩ ⟨by decide, by decide⟩ (fun z10 u10 h10 => ?_)
    dsimp only at h10
    subst h10
    show V p9 lx e9 ({ frames := 2, cells := 0, slots := 0, locals := 44 }) s9 m9 ar9 be9 me9 c9 Q9 D A9 s9.heap 3 0 0 [oL al wide high border pattern] [(0, .ref al), (1, .int (iI x)), (2, .int (iI y))] 13 [.int (iI (12 - border)), .int (iI x)]
    refine v_icmp_ge hC 32 16 dX3_isBorder_13 (by decide) rfl (by omega) (by omega) (fun c_13 => ?_) (fun c_13 => ?_)
    · skip
      refine v_iconst hC 33 dX3_isBorder_32 rfl ?_
      refine v_goto hC 37 dX3_isBorder_33 (by decide) ?_
      exact v_zret hC hQ () [0] dX3_isBorder_37 (by omega) rfl rfl ⟨by decide, by decide⟩ ⟨by dsimp only; omega, by dsimp only; omega⟩
    · skip
      refine v_iload_n hC 17 2 dX3_isBorder_16 rfl rfl rfl ?_
      refine v_aload_n hC 18 0 dX3_isBorder_17 rfl rfl rfl ?_
      refine v_get hC 21 0 2 (C := RX3) (T := TX3) (N := 4) dX3_isBorder_18 rfl iX3 L0 rfl rfl (by decide) rfl ?_
      refine v_icmp_lt hC 32 24 dX3_isBorder_21 (by decide) rfl (by omega) (by omega) (fun c_21 => ?_) (fun c_21 => ?_)
      · skip
        refine v_iconst hC 33 dX3_isBorder_32 rfl ?_
        refine v_goto hC 37 dX3_isBorder_33 (by decide) ?_
        exact v_zret hC hQ () [0] dX3_isBorder_37 (by omega) rfl rfl ⟨by decide, by decide⟩ ⟨by dsimp only; omega, by dsimp only; omega⟩
      · skip
        refine v_iload_n hC 25 2 dX3_isBorder_24 rfl rfl rfl ?_
        refine v_aload_n hC 26 0 dX3_isBorder_25 rfl rfl rfl ?_
        refine v_callVi hC 29 0 [0] [] [] (As := []) (rest := [.int (iI y)]) (c_X3_lowerBorder lx D cs al wide high border pattern ) dX3_isBorder_26 rfl rfl 0 rfl rfl gX3_isBorder_X3_lowerBorder rfl rfl rfl (by decide +kernel) ⟨by decide, by decide⟩ rfl rfl rfl rfl (by decide) rfl (by decide) ⟨rfl, rfl⟩ ⟨by decide, by decide⟩ (fun z26 u26 h26 => ?_)
        dsimp only at h26
        subst h26
        show V p9 lx e9 ({ frames := 2, cells := 0, slots := 0, locals := 44 }) s9 m9 ar9 be9 me9 c9 Q9 D A9 s9.heap 3 0 0 [oL al wide high border pattern] [(0, .ref al), (1, .int (iI x)), (2, .int (iI y))] 29 [.int (iI (8 - border)), .int (iI y)]
        refine v_icmp_lt hC 36 32 dX3_isBorder_29 (by decide) rfl (by omega) (by omega) (fun c_29 => ?_) (fun c_29 => ?_)
        · skip
          refine v_iconst hC 37 dX3_isBorder_36 rfl ?_
          exact v_zret hC hQ () [0] dX3_isBorder_37 (by omega) rfl rfl ⟨by decide, by decide⟩ ⟨by dsimp only; omega, by dsimp only; omega⟩
        · skip
          refine v_iconst hC 33 dX3_isBorder_32 rfl ?_
          refine v_goto hC 37 dX3_isBorder_33 (by decide) ?_
          exact v_zret hC hQ () [0] dX3_isBorder_37 (by omega) rfl rfl ⟨by decide, by decide⟩ ⟨by dsimp only; omega, by dsimp only; omega⟩

set_option maxHeartbeats 4000000 in
set_option maxRecDepth 100000 in
theorem c_X3_courseOfRow (lx : Launch) (D : va_G) (cs : Nat → ClassId) (al : Nat) (wide : Int) (high : Int) (border : Int) (pattern : Int) (y : Int) (hh : 1 ≤ high ∧ high ≤ 4) (hb : 0 ≤ border ∧ border ≤ 2) (hy : border ≤ y ∧ y < 100) : Ci lx D cs yX3_courseOfRow wsX3_courseOfRow ({ frames := 2, cells := 0, slots := 0, locals := 45 }) [.ref al, .int (iI y)] [oL al wide high border pattern] (fun (z : Int) (u : Unit) => (z = (y - border) / high)) (fun u : Unit => [oL al wide high border pattern]) 0 0 := by
  refine Ci_of (cc := cX3_courseOfRow) (nL := 2) (ret := (some .int)) (lv0 := [(0, .ref al), (1, .int (iI y))]) RX3 "courseOfRow" (by decide +kernel) rfl (by decide) rfl (fun p9 e9 s9 m9 ar9 be9 me9 c9 A9 Q9 hQ hC => ?_)
  have iX3 : ∀ w ∈ wsX30, w ∈ wsX3_courseOfRow := by decide +kernel
  have L0 : Cond.fieldLink RX3 15 "Groutline$Layout" "high" "I" ∈ wsX3_courseOfRow := by decide +kernel
  have L1 : Cond.fieldLink RX3 18 "Groutline$Layout" "border" "I" ∈ wsX3_courseOfRow := by decide +kernel
  have L2 : Cond.initialized yX7_timesIn.cls ∈ wsX3_courseOfRow := by decide +kernel
  have L3 : Cond.static yX7_timesIn ∈ wsX3_courseOfRow := by decide +kernel
  refine v_aload_n hC 1 0 dX3_courseOfRow_0 rfl rfl rfl ?_
  refine v_get hC 4 0 1 (C := RX3) (T := TX3) (N := 4) dX3_courseOfRow_1 rfl iX3 L0 rfl rfl (by decide) rfl ?_
  refine v_iload_n hC 5 1 dX3_courseOfRow_4 rfl rfl rfl ?_
  refine v_aload_n hC 6 0 dX3_courseOfRow_5 rfl rfl rfl ?_
  refine v_get hC 9 0 2 (C := RX3) (T := TX3) (N := 4) dX3_courseOfRow_6 rfl iX3 L1 rfl rfl (by decide) rfl ?_
  refine v_isub hC 10 (y - border) dX3_courseOfRow_9 rfl rfl ?_
  refine v_callSNi hC 13 2 [] [0] [oL al wide high border pattern] (As := [.int (iI high), .int (iI (y - border))]) (rest := []) (c_X7_timesIn lx D cs high (y - border) (by omega) (by omega)) dX3_courseOfRow_10 rfl rfl gX3_courseOfRow_X7_timesIn_n31 L2 L3 RX7 (by decide +kernel) rfl rfl rfl (by decide +kernel) ⟨by decide, by decide⟩ rfl rfl rfl rfl (by decide) rfl (by decide) ⟨rfl, rfl⟩ ⟨by decide, by decide⟩ (fun z10 u10 h10 => ?_)
  dsimp only at h10
  subst h10
  show V p9 lx e9 ({ frames := 2, cells := 0, slots := 0, locals := 45 }) s9 m9 ar9 be9 me9 c9 Q9 D A9 s9.heap 2 0 0 [oL al wide high border pattern] [(0, .ref al), (1, .int (iI y))] 13 [.int (iI ((y - border) / high))]
  exact v_iret hC hQ () [0] dX3_courseOfRow_13 rfl rfl ⟨by decide, by decide⟩ (by dsimp only; first | rfl | omega)

set_option maxHeartbeats 4000000 in
set_option maxRecDepth 100000 in
theorem c_X3_countCourses (lx : Launch) (D : va_G) (cs : Nat → ClassId) (al : Nat) (wide : Int) (high : Int) (border : Int) (pattern : Int) (hh : 1 ≤ high ∧ high ≤ 4) (hb : 0 ≤ border ∧ border ≤ 2) : Ci lx D cs yX3_countCourses wsX3_countCourses ({ frames := 3, cells := 0, slots := 0, locals := 66 }) [.ref al] [oL al wide high border pattern] (fun (z : Int) (u : Unit) => (z = cC high border)) (fun u : Unit => [oL al wide high border pattern]) 0 0 := by
  refine Ci_of (cc := cX3_countCourses) (nL := 1) (ret := (some .int)) (lv0 := [(0, .ref al)]) RX3 "countCourses" (by decide +kernel) rfl (by decide) rfl (fun p9 e9 s9 m9 ar9 be9 me9 c9 A9 Q9 hQ hC => ?_)
  refine v_aload_n hC 1 0 dX3_countCourses_0 rfl rfl rfl ?_
  refine v_aload_n hC 2 0 dX3_countCourses_1 rfl rfl rfl ?_
  refine v_callVi hC 5 0 [0] [] [] (As := []) (rest := [.ref al]) (c_X3_lowerBorder lx D cs al wide high border pattern ) dX3_countCourses_2 rfl rfl 0 rfl rfl gX3_countCourses_X3_lowerBorder rfl rfl rfl (by decide +kernel) ⟨by decide, by decide⟩ rfl rfl rfl rfl (by decide) rfl (by decide) ⟨rfl, rfl⟩ ⟨by decide, by decide⟩ (fun z2 u2 h2 => ?_)
  dsimp only at h2
  subst h2
  show V p9 lx e9 ({ frames := 3, cells := 0, slots := 0, locals := 66 }) s9 m9 ar9 be9 me9 c9 Q9 D A9 s9.heap 1 0 0 [oL al wide high border pattern] [(0, .ref al)] 5 [.int (iI (8 - border)), .ref al]
  refine v_iconst hC 6 dX3_countCourses_5 rfl ?_
  refine v_isub hC 7 (8 - border - 1) dX3_countCourses_6 rfl rfl ?_
  refine v_callVi hC 10 1 [0] [] [] (As := [.int (iI (8 - border - 1))]) (rest := []) (c_X3_courseOfRow lx D cs al wide high border pattern (8 - border - 1) (by omega) (by omega) (by omega)) dX3_countCourses_7 rfl rfl 0 rfl rfl gX3_countCourses_X3_courseOfRow rfl rfl rfl (by decide +kernel) ⟨by decide, by decide⟩ rfl rfl rfl rfl (by decide) rfl (by decide) ⟨rfl, rfl⟩ ⟨by decide, by decide⟩ (fun z7 u7 h7 => ?_)
  dsimp only at h7
  subst h7
  show V p9 lx e9 ({ frames := 3, cells := 0, slots := 0, locals := 66 }) s9 m9 ar9 be9 me9 c9 Q9 D A9 s9.heap 1 0 0 [oL al wide high border pattern] [(0, .ref al)] 10 [.int (iI (((8 - border - 1) - border) / high))]
  refine v_iconst hC 11 dX3_countCourses_10 rfl ?_
  refine v_iadd hC 12 (((8 - border - 1) - border) / high + 1) dX3_countCourses_11 rfl rfl ?_
  exact v_iret hC hQ () [0] dX3_countCourses_12 rfl rfl ⟨by decide, by decide⟩ (by dsimp only; unfold cC; rw [show 8 - border - 1 - border = 7 - 2 * border by omega])

set_option maxHeartbeats 4000000 in
set_option maxRecDepth 100000 in
theorem c_X3_countStrips (lx : Launch) (D : va_G) (cs : Nat → ClassId) (al : Nat) (wide : Int) (high : Int) (border : Int) (pattern : Int) (hh : 1 ≤ high ∧ high ≤ 4) (hb : 0 ≤ border ∧ border ≤ 2) : Ci lx D cs yX3_countStrips wsX3_countStrips ({ frames := 4, cells := 0, slots := 0, locals := 86 }) [.ref al] [oL al wide high border pattern] (fun (z : Int) (u : Unit) => (z = nS high border)) (fun u : Unit => [oL al wide high border pattern]) 0 0 := by
  refine Ci_of (cc := cX3_countStrips) (nL := 1) (ret := (some .int)) (lv0 := [(0, .ref al)]) RX3 "countStrips" (by decide +kernel) rfl (by decide) rfl (fun p9 e9 s9 m9 ar9 be9 me9 c9 A9 Q9 hQ hC => ?_)
  have iX3 : ∀ w ∈ wsX30, w ∈ wsX3_countStrips := by decide +kernel
  have L0 : Cond.fieldLink RX3 18 "Groutline$Layout" "border" "I" ∈ wsX3_countStrips := by decide +kernel
  refine v_aload_n hC 1 0 dX3_countStrips_0 rfl rfl rfl ?_
  refine v_get hC 4 0 2 (C := RX3) (T := TX3) (N := 4) dX3_countStrips_1 rfl iX3 L0 rfl rfl (by decide) rfl ?_
  refine v_aload_n hC 5 0 dX3_countStrips_4 rfl rfl rfl ?_
  refine v_callVi hC 8 0 [0] [] [] (As := []) (rest := [.int (iI border)]) (c_X3_countCourses lx D cs al wide high border pattern (by omega) (by omega)) dX3_countStrips_5 rfl rfl 0 rfl rfl gX3_countStrips_X3_countCourses rfl rfl rfl (by decide +kernel) ⟨by decide, by decide⟩ rfl rfl rfl rfl (by decide) rfl (by decide) ⟨rfl, rfl⟩ ⟨by decide, by decide⟩ (fun z5 u5 h5 => ?_)
  dsimp only at h5
  subst h5
  show V p9 lx e9 ({ frames := 4, cells := 0, slots := 0, locals := 86 }) s9 m9 ar9 be9 me9 c9 Q9 D A9 s9.heap 1 0 0 [oL al wide high border pattern] [(0, .ref al)] 8 [.int (iI (cC high border)), .int (iI border)]
  refine v_iadd hC 9 (border + (cC high border)) dX3_countStrips_8 rfl rfl ?_
  refine v_aload_n hC 10 0 dX3_countStrips_9 rfl rfl rfl ?_
  refine v_get hC 13 0 2 (C := RX3) (T := TX3) (N := 4) dX3_countStrips_10 rfl iX3 L0 rfl rfl (by decide) rfl ?_
  refine v_iadd hC 14 (border + (cC high border) + border) dX3_countStrips_13 rfl rfl ?_
  exact v_iret hC hQ () [0] dX3_countStrips_14 rfl rfl ⟨by decide, by decide⟩ (by dsimp only; unfold nS; omega)

set_option maxHeartbeats 4000000 in
set_option maxRecDepth 100000 in
theorem c_X3_hasStrip (lx : Launch) (D : va_G) (cs : Nat → ClassId) (al : Nat) (wide : Int) (high : Int) (border : Int) (pattern : Int) (x : Int) (hh : 1 ≤ high ∧ high ≤ 4) (hb : 0 ≤ border ∧ border ≤ 2) (hx : -2147483648 ≤ x ∧ x < 2147483648) : Ci lx D cs yX3_hasStrip wsX3_hasStrip ({ frames := 5, cells := 0, slots := 0, locals := 106 }) [.ref al, .int (iI x)] [oL al wide high border pattern] (fun (z : Int) (u : Unit) => (z = 0 ∨ z = 1) ∧ (z = 1 ↔ 0 ≤ x ∧ x < nS high border)) (fun u : Unit => [oL al wide high border pattern]) 0 0 := by
  refine Ci_of (cc := cX3_hasStrip) (nL := 2) (ret := (some .boolean)) (lv0 := [(0, .ref al), (1, .int (iI x))]) RX3 "hasStrip" (by decide +kernel) rfl (by decide) rfl (fun p9 e9 s9 m9 ar9 be9 me9 c9 A9 Q9 hQ hC => ?_)
  have hn9 := nS_rng hh hb
  refine v_iload_n hC 1 1 dX3_hasStrip_0 rfl rfl rfl ?_
  refine v_if_lt hC 16 4 dX3_hasStrip_1 (by decide) rfl (by omega) (fun c_1 => ?_) (fun c_1 => ?_)
  · skip
    refine v_iconst hC 17 dX3_hasStrip_16 rfl ?_
    exact v_zret hC hQ () [0] dX3_hasStrip_17 (by omega) rfl rfl ⟨by decide, by decide⟩ ⟨by dsimp only; omega, by dsimp only; omega⟩
  · skip
    refine v_iload_n hC 5 1 dX3_hasStrip_4 rfl rfl rfl ?_
    refine v_aload_n hC 6 0 dX3_hasStrip_5 rfl rfl rfl ?_
    refine v_callVi hC 9 0 [0] [] [] (As := []) (rest := [.int (iI x)]) (c_X3_countStrips lx D cs al wide high border pattern (by omega) (by omega)) dX3_hasStrip_6 rfl rfl 0 rfl rfl gX3_hasStrip_X3_countStrips rfl rfl rfl (by decide +kernel) ⟨by decide, by decide⟩ rfl rfl rfl rfl (by decide) rfl (by decide) ⟨rfl, rfl⟩ ⟨by decide, by decide⟩ (fun z6 u6 h6 => ?_)
    dsimp only at h6
    subst h6
    show V p9 lx e9 ({ frames := 5, cells := 0, slots := 0, locals := 106 }) s9 m9 ar9 be9 me9 c9 Q9 D A9 s9.heap 2 0 0 [oL al wide high border pattern] [(0, .ref al), (1, .int (iI x))] 9 [.int (iI (nS high border)), .int (iI x)]
    refine v_icmp_ge hC 16 12 dX3_hasStrip_9 (by decide) rfl (by omega) (by omega) (fun c_9 => ?_) (fun c_9 => ?_)
    · skip
      refine v_iconst hC 17 dX3_hasStrip_16 rfl ?_
      exact v_zret hC hQ () [0] dX3_hasStrip_17 (by omega) rfl rfl ⟨by decide, by decide⟩ ⟨by dsimp only; omega, by dsimp only; omega⟩
    · skip
      refine v_iconst hC 13 dX3_hasStrip_12 rfl ?_
      refine v_goto hC 17 dX3_hasStrip_13 (by decide) ?_
      exact v_zret hC hQ () [0] dX3_hasStrip_17 (by omega) rfl rfl ⟨by decide, by decide⟩ ⟨by dsimp only; omega, by dsimp only; omega⟩

set_option maxHeartbeats 4000000 in
set_option maxRecDepth 100000 in
theorem c_X3_stripOfRow (lx : Launch) (D : va_G) (cs : Nat → ClassId) (al : Nat) (wide : Int) (high : Int) (border : Int) (pattern : Int) (y : Int) (hh : 1 ≤ high ∧ high ≤ 4) (hb : 0 ≤ border ∧ border ≤ 2) (hy : 0 ≤ y ∧ y < 8) : Ci lx D cs yX3_stripOfRow wsX3_stripOfRow ({ frames := 4, cells := 0, slots := 0, locals := 86 }) [.ref al, .int (iI y)] [oL al wide high border pattern] (fun (z : Int) (u : Unit) => (z = sR high border y)) (fun u : Unit => [oL al wide high border pattern]) 0 0 := by
  refine Ci_of (cc := cX3_stripOfRow) (nL := 2) (ret := (some .int)) (lv0 := [(0, .ref al), (1, .int (iI y))]) RX3 "stripOfRow" (by decide +kernel) rfl (by decide) rfl (fun p9 e9 s9 m9 ar9 be9 me9 c9 A9 Q9 hQ hC => ?_)
  have hn9 := cC_rng hh hb
  have iX3 : ∀ w ∈ wsX30, w ∈ wsX3_stripOfRow := by decide +kernel
  have L0 : Cond.fieldLink RX3 18 "Groutline$Layout" "border" "I" ∈ wsX3_stripOfRow := by decide +kernel
  refine v_iload_n hC 1 1 dX3_stripOfRow_0 rfl rfl rfl ?_
  refine v_aload_n hC 2 0 dX3_stripOfRow_1 rfl rfl rfl ?_
  refine v_get hC 5 0 2 (C := RX3) (T := TX3) (N := 4) dX3_stripOfRow_2 rfl iX3 L0 rfl rfl (by decide) rfl ?_
  refine v_icmp_ge hC 10 8 dX3_stripOfRow_5 (by decide) rfl (by omega) (by omega) (fun c_5 => ?_) (fun c_5 => ?_)
  · skip
    refine v_iload_n hC 11 1 dX3_stripOfRow_10 rfl rfl rfl ?_
    refine v_aload_n hC 12 0 dX3_stripOfRow_11 rfl rfl rfl ?_
    refine v_callVi hC 15 0 [0] [] [] (As := []) (rest := [.int (iI y)]) (c_X3_lowerBorder lx D cs al wide high border pattern ) dX3_stripOfRow_12 rfl rfl 0 rfl rfl gX3_stripOfRow_X3_lowerBorder rfl rfl rfl (by decide +kernel) ⟨by decide, by decide⟩ rfl rfl rfl rfl (by decide) rfl (by decide) ⟨rfl, rfl⟩ ⟨by decide, by decide⟩ (fun z12 u12 h12 => ?_)
    dsimp only at h12
    subst h12
    show V p9 lx e9 ({ frames := 4, cells := 0, slots := 0, locals := 86 }) s9 m9 ar9 be9 me9 c9 Q9 D A9 s9.heap 2 0 0 [oL al wide high border pattern] [(0, .ref al), (1, .int (iI y))] 15 [.int (iI (8 - border)), .int (iI y)]
    refine v_icmp_lt hC 35 18 dX3_stripOfRow_15 (by decide) rfl (by omega) (by omega) (fun c_15 => ?_) (fun c_15 => ?_)
    · skip
      refine v_aload_n hC 36 0 dX3_stripOfRow_35 rfl rfl rfl ?_
      refine v_get hC 39 0 2 (C := RX3) (T := TX3) (N := 4) dX3_stripOfRow_36 rfl iX3 L0 rfl rfl (by decide) rfl ?_
      refine v_aload_n hC 40 0 dX3_stripOfRow_39 rfl rfl rfl ?_
      refine v_iload_n hC 41 1 dX3_stripOfRow_40 rfl rfl rfl ?_
      refine v_callVi hC 44 1 [0] [] [] (As := [.int (iI y)]) (rest := [.int (iI border)]) (c_X3_courseOfRow lx D cs al wide high border pattern y (by omega) (by omega) (by omega)) dX3_stripOfRow_41 rfl rfl 0 rfl rfl gX3_stripOfRow_X3_courseOfRow rfl rfl rfl (by decide +kernel) ⟨by decide, by decide⟩ rfl rfl rfl rfl (by decide) rfl (by decide) ⟨rfl, rfl⟩ ⟨by decide, by decide⟩ (fun z41 u41 h41 => ?_)
      dsimp only at h41
      subst h41
      show V p9 lx e9 ({ frames := 4, cells := 0, slots := 0, locals := 86 }) s9 m9 ar9 be9 me9 c9 Q9 D A9 s9.heap 2 0 0 [oL al wide high border pattern] [(0, .ref al), (1, .int (iI y))] 44 [.int (iI ((y - border) / high)), .int (iI border)]
      refine v_iadd hC 45 (border + ((y - border) / high)) dX3_stripOfRow_44 rfl rfl ?_
      exact v_iret hC hQ () [0] dX3_stripOfRow_45 rfl rfl ⟨by decide, by decide⟩ (by dsimp only; unfold sR; (repeat (first | rw [if_pos (by omega)] | rw [if_neg (by omega)])); omega)
    · skip
      refine v_aload_n hC 19 0 dX3_stripOfRow_18 rfl rfl rfl ?_
      refine v_get hC 22 0 2 (C := RX3) (T := TX3) (N := 4) dX3_stripOfRow_19 rfl iX3 L0 rfl rfl (by decide) rfl ?_
      refine v_aload_n hC 23 0 dX3_stripOfRow_22 rfl rfl rfl ?_
      refine v_callVi hC 26 0 [0] [] [] (As := []) (rest := [.int (iI border)]) (c_X3_countCourses lx D cs al wide high border pattern (by omega) (by omega)) dX3_stripOfRow_23 rfl rfl 0 rfl rfl gX3_stripOfRow_X3_countCourses rfl rfl rfl (by decide +kernel) ⟨by decide, by decide⟩ rfl rfl rfl rfl (by decide) rfl (by decide) ⟨rfl, rfl⟩ ⟨by decide, by decide⟩ (fun z23 u23 h23 => ?_)
      dsimp only at h23
      subst h23
      show V p9 lx e9 ({ frames := 4, cells := 0, slots := 0, locals := 86 }) s9 m9 ar9 be9 me9 c9 Q9 D A9 s9.heap 2 0 0 [oL al wide high border pattern] [(0, .ref al), (1, .int (iI y))] 26 [.int (iI (cC high border)), .int (iI border)]
      refine v_iadd hC 27 (border + (cC high border)) dX3_stripOfRow_26 rfl rfl ?_
      refine v_iload_n hC 28 1 dX3_stripOfRow_27 rfl rfl rfl ?_
      refine v_iadd hC 29 (border + (cC high border) + y) dX3_stripOfRow_28 rfl rfl ?_
      refine v_aload_n hC 30 0 dX3_stripOfRow_29 rfl rfl rfl ?_
      refine v_callVi hC 33 0 [0] [] [] (As := []) (rest := [.int (iI (border + (cC high border) + y))]) (c_X3_lowerBorder lx D cs al wide high border pattern ) dX3_stripOfRow_30 rfl rfl 0 rfl rfl gX3_stripOfRow_X3_lowerBorder rfl rfl rfl (by decide +kernel) ⟨by decide, by decide⟩ rfl rfl rfl rfl (by decide) rfl (by decide) ⟨rfl, rfl⟩ ⟨by decide, by decide⟩ (fun z30 u30 h30 => ?_)
      dsimp only at h30
      subst h30
      show V p9 lx e9 ({ frames := 4, cells := 0, slots := 0, locals := 86 }) s9 m9 ar9 be9 me9 c9 Q9 D A9 s9.heap 2 0 0 [oL al wide high border pattern] [(0, .ref al), (1, .int (iI y))] 33 [.int (iI (8 - border)), .int (iI (border + (cC high border) + y))]
      refine v_isub hC 34 (border + (cC high border) + y - (8 - border)) dX3_stripOfRow_33 rfl rfl ?_
      exact v_iret hC hQ () [0] dX3_stripOfRow_34 rfl rfl ⟨by decide, by decide⟩ (by dsimp only; unfold sR; (repeat (first | rw [if_pos (by omega)] | rw [if_neg (by omega)])); omega)
  · skip
    refine v_iload_n hC 9 1 dX3_stripOfRow_8 rfl rfl rfl ?_
    exact v_iret hC hQ () [0] dX3_stripOfRow_9 rfl rfl ⟨by decide, by decide⟩ (by dsimp only; unfold sR; (repeat (first | rw [if_pos (by omega)] | rw [if_neg (by omega)])); omega)

set_option maxHeartbeats 4000000 in
set_option maxRecDepth 100000 in
theorem c_X2_set (lx : Launch) (D : va_G) (cs : Nat → ClassId) (af : Nat) (fl : Int) (fr : Int) (ft : Int) (fb : Int) (x1 : Int) (x2 : Int) (x3 : Int) (x4 : Int)  : Cv lx D cs yX2_set wsX2_set ({ frames := 1, cells := 0, slots := 0, locals := 24 }) [.ref af, .int (iI x1), .int (iI x2), .int (iI x3), .int (iI x4)] [oF af fl fr ft fb] (fun (u : Unit) => True) (fun u : Unit => [oF af x1 x2 x3 x4]) 0 0 := by
  refine Cv_of (cc := cX2_set) (nL := 5) (ret := none) (lv0 := [(0, .ref af), (1, .int (iI x1)), (2, .int (iI x2)), (3, .int (iI x3)), (4, .int (iI x4))]) RX2 "set" (by decide +kernel) rfl (by decide) rfl (fun p9 e9 s9 m9 ar9 be9 me9 c9 A9 Q9 hQ hC => ?_)
  have iX2 : ∀ w ∈ wsX20, w ∈ wsX2_set := by decide +kernel
  have L0 : Cond.fieldLink RX2 7 "Groutline$Frame" "left" "I" ∈ wsX2_set := by decide +kernel
  have L1 : Cond.fieldLink RX2 13 "Groutline$Frame" "right" "I" ∈ wsX2_set := by decide +kernel
  have L2 : Cond.fieldLink RX2 16 "Groutline$Frame" "top" "I" ∈ wsX2_set := by decide +kernel
  have L3 : Cond.fieldLink RX2 19 "Groutline$Frame" "bottom" "I" ∈ wsX2_set := by decide +kernel
  refine v_aload_n hC 1 0 dX2_set_0 rfl rfl rfl ?_
  refine v_iload_n hC 2 1 dX2_set_1 rfl rfl rfl ?_
  refine v_put hC 5 0 0 [oF af x1 fr ft fb] (C := RX2) (T := TX2) (N := 4) dX2_set_2 rfl iX2 tyX2_ok nmX2 L0 rfl rfl (by decide) rfl rfl rfl (by decide) rfl ?_
  refine v_aload_n hC 6 0 dX2_set_5 rfl rfl rfl ?_
  refine v_iload_n hC 7 2 dX2_set_6 rfl rfl rfl ?_
  refine v_put hC 10 0 1 [oF af x1 x2 ft fb] (C := RX2) (T := TX2) (N := 4) dX2_set_7 rfl iX2 tyX2_ok nmX2 L1 rfl rfl (by decide) rfl rfl rfl (by decide) rfl ?_
  refine v_aload_n hC 11 0 dX2_set_10 rfl rfl rfl ?_
  refine v_iload_n hC 12 3 dX2_set_11 rfl rfl rfl ?_
  refine v_put hC 15 0 2 [oF af x1 x2 x3 fb] (C := RX2) (T := TX2) (N := 4) dX2_set_12 rfl iX2 tyX2_ok nmX2 L2 rfl rfl (by decide) rfl rfl rfl (by decide) rfl ?_
  refine v_aload_n hC 16 0 dX2_set_15 rfl rfl rfl ?_
  refine v_iload hC 18 4 dX2_set_16 rfl rfl ?_
  refine v_put hC 21 0 3 [oF af x1 x2 x3 x4] (C := RX2) (T := TX2) (N := 4) dX2_set_18 rfl iX2 tyX2_ok nmX2 L3 rfl rfl (by decide) rfl rfl rfl (by decide) rfl ?_
  exact v_vret hC hQ () [0] dX2_set_21 rfl rfl ⟨by decide, by decide⟩ trivial

set_option maxHeartbeats 4000000 in
set_option maxRecDepth 100000 in
theorem c_X3_frame (lx : Launch) (D : va_G) (cs : Nat → ClassId) (al : Nat) (af : Nat) (wide : Int) (high : Int) (border : Int) (pattern : Int) (fl : Int) (fr : Int) (ft : Int) (fb : Int) (x : Int) (y : Int) (hw : 1 ≤ wide ∧ wide ≤ 4) (hh : 1 ≤ high ∧ high ≤ 4) (hb : 0 ≤ border ∧ border ≤ 2) (hp : 0 ≤ pattern ∧ pattern ≤ 1) (hx : 0 ≤ x ∧ x < 12) (hy : 0 ≤ y ∧ y < 8) : Cv lx D cs yX3_frame wsX3_frame ({ frames := 3, cells := 0, slots := 0, locals := 66 }) [.ref al, .int (iI x), .int (iI y), .ref af] [oL al wide high border pattern, oF af fl fr ft fb] (fun (u : Int × Int × Int × Int) => (u.1 = fL wide high border pattern x y) ∧ (u.2.1 = fR wide high border pattern x y) ∧ (u.2.2.1 = fT wide high border pattern x y) ∧ (u.2.2.2 = fB wide high border pattern x y)) (fun u : Int × Int × Int × Int => [oL al wide high border pattern, oF af u.1 u.2.1 u.2.2.1 u.2.2.2]) 0 0 := by
  refine Cv_of (cc := cX3_frame) (nL := 9) (ret := none) (lv0 := [(0, .ref al), (1, .int (iI x)), (2, .int (iI y)), (3, .ref af)]) RX3 "frame" (by decide +kernel) rfl (by decide) rfl (fun p9 e9 s9 m9 ar9 be9 me9 c9 A9 Q9 hQ hC => ?_)
  have iX3 : ∀ w ∈ wsX30, w ∈ wsX3_frame := by decide +kernel
  have L0 : Cond.fieldLink RX3 21 "Groutline$Layout" "pattern" "I" ∈ wsX3_frame := by decide +kernel
  have L1 : Cond.fieldLink RX3 18 "Groutline$Layout" "border" "I" ∈ wsX3_frame := by decide +kernel
  have L2 : Cond.fieldLink RX3 9 "Groutline$Layout" "wide" "I" ∈ wsX3_frame := by decide +kernel
  have L3 : Cond.initialized yX7_timesIn.cls ∈ wsX3_frame := by decide +kernel
  have L4 : Cond.static yX7_timesIn ∈ wsX3_frame := by decide +kernel
  have L5 : Cond.fieldLink RX3 15 "Groutline$Layout" "high" "I" ∈ wsX3_frame := by decide +kernel
  have L6 : Cond.methodLink RX3 55 Lib.Math.max.name ∈ wsX3_frame := by decide +kernel
  have L7 : Cond.static Lib.Math.max.name ∈ wsX3_frame := by decide +kernel
  have L8 : Cond.initialized "java/lang/Math" ∈ wsX3_frame := by decide +kernel
  have L9 : Cond.code Lib.Math.max.name Lib.Math.max.code 2 (some .int) ∈ wsX3_frame := by decide +kernel
  have L10 : Cond.methodLink RX3 60 Lib.Math.min.name ∈ wsX3_frame := by decide +kernel
  have L11 : Cond.static Lib.Math.min.name ∈ wsX3_frame := by decide +kernel
  have L12 : Cond.code Lib.Math.min.name Lib.Math.min.code 2 (some .int) ∈ wsX3_frame := by decide +kernel
  refine v_aload_n hC 1 0 dX3_frame_0 rfl rfl rfl ?_
  refine v_iload_n hC 2 1 dX3_frame_1 rfl rfl rfl ?_
  refine v_iload_n hC 3 2 dX3_frame_2 rfl rfl rfl ?_
  refine v_callVi hC 6 2 [0] [1] [oF af fl fr ft fb] (As := [.int (iI x), .int (iI y)]) (rest := []) (c_X3_isBorder lx D cs al wide high border pattern x y (by omega) (by omega) (by omega)) dX3_frame_3 rfl rfl 0 rfl rfl gX3_frame_X3_isBorder rfl rfl rfl (by decide +kernel) ⟨by decide, by decide⟩ rfl rfl rfl rfl (by decide) rfl (by decide) ⟨rfl, rfl⟩ ⟨by decide, by decide⟩ (fun z3 u3 h3 => ?_)
  dsimp only at h3
  obtain ⟨h3_1, h3_2⟩ := h3
  show V p9 lx e9 ({ frames := 3, cells := 0, slots := 0, locals := 66 }) s9 m9 ar9 be9 me9 c9 Q9 D A9 s9.heap 9 0 0 [oF af fl fr ft fb, oL al wide high border pattern] [(0, .ref al), (1, .int (iI x)), (2, .int (iI y)), (3, .ref af)] 6 [.int (iI z3)]
  refine v_if_eq hC 22 9 dX3_frame_6 (by decide) rfl (by omega) (fun c_6 => ?_) (fun c_6 => ?_)
  · skip
    refine v_aload_n hC 23 0 dX3_frame_22 rfl rfl rfl ?_
    refine v_iload_n hC 24 2 dX3_frame_23 rfl rfl rfl ?_
    refine v_callVi hC 27 1 [1] [0] [oF af fl fr ft fb] (As := [.int (iI y)]) (rest := []) (c_X3_courseOfRow lx D cs al wide high border pattern y (by omega) (by omega) (by omega)) dX3_frame_24 rfl rfl 1 rfl rfl gX3_frame_X3_courseOfRow rfl rfl rfl (by decide +kernel) ⟨by decide, by decide⟩ rfl rfl rfl rfl (by decide) rfl (by decide) ⟨rfl, rfl⟩ ⟨by decide, by decide⟩ (fun z24 u24 h24 => ?_)
    dsimp only at h24
    subst h24
    show V p9 lx e9 ({ frames := 3, cells := 0, slots := 0, locals := 66 }) s9 m9 ar9 be9 me9 c9 Q9 D A9 s9.heap 9 0 0 [oF af fl fr ft fb, oL al wide high border pattern] [(0, .ref al), (1, .int (iI x)), (2, .int (iI y)), (3, .ref af)] 27 [.int (iI ((y - border) / high))]
    refine v_istore hC 29 [(4, .int (iI ((y - border) / high))), (0, .ref al), (1, .int (iI x)), (2, .int (iI y)), (3, .ref af)] dX3_frame_27 rfl (by decide) rfl ?_
    refine v_aload_n hC 30 1 dX3_frame_29 rfl rfl rfl ?_
    refine v_get hC 33 1 3 (C := RX3) (T := TX3) (N := 4) dX3_frame_30 rfl iX3 L0 rfl rfl (by decide) rfl ?_
    refine v_iconst hC 34 dX3_frame_33 rfl ?_
    refine v_icmp_ne hC 49 37 dX3_frame_34 (by decide) rfl (by omega) (by omega) (fun c_34 => ?_) (fun c_34 => ?_)
    · skip
      refine v_iconst hC 50 dX3_frame_49 rfl ?_
      refine v_istore hC 52 [(5, .int (iI 0)), (4, .int (iI ((y - border) / high))), (0, .ref al), (1, .int (iI x)), (2, .int (iI y)), (3, .ref af)] dX3_frame_50 rfl (by decide) rfl ?_
      refine v_aload_n hC 53 2 dX3_frame_52 rfl rfl rfl ?_
      refine v_get hC 56 1 2 (C := RX3) (T := TX3) (N := 4) dX3_frame_53 rfl iX3 L1 rfl rfl (by decide) rfl ?_
      refine v_iload hC 58 0 dX3_frame_56 rfl rfl ?_
      refine v_if_eq hC 70 61 dX3_frame_58 (by decide) rfl (by omega) (fun c_58 => ?_) (fun c_58 => ?_)
      · skip
        refine v_iconst hC 71 dX3_frame_70 rfl ?_
        refine v_isub hC 72 (border - 0) dX3_frame_71 rfl rfl ?_
        have cut_72 : ∀ (fs : Int), (fs = border - shf wide high border pattern y) → V p9 lx e9 ({ frames := 3, cells := 0, slots := 0, locals := 66 }) s9 m9 ar9 be9 me9 c9 Q9 D A9 s9.heap 9 0 0 [oF af fl fr ft fb, oL al wide high border pattern] [(0, .ref al), (1, .int (iI x)), (2, .int (iI y)), (3, .ref af), (4, .int (iI ((y - border) / high)))] 72 [.int (iI fs)] := by
          intro fs hfs
          refine v_istore hC 74 [(6, .int (iI fs)), (0, .ref al), (1, .int (iI x)), (2, .int (iI y)), (3, .ref af), (4, .int (iI ((y - border) / high)))] dX3_frame_72 rfl (by decide) rfl ?_
          refine v_iload hC 76 0 dX3_frame_74 rfl rfl ?_
          refine v_aload_n hC 77 1 dX3_frame_76 rfl rfl rfl ?_
          refine v_get hC 80 1 0 (C := RX3) (T := TX3) (N := 4) dX3_frame_77 rfl iX3 L2 rfl rfl (by decide) rfl ?_
          refine v_iload_n hC 81 2 dX3_frame_80 rfl rfl rfl ?_
          refine v_iload hC 83 0 dX3_frame_81 rfl rfl ?_
          refine v_isub hC 84 (x - fs) dX3_frame_83 rfl rfl ?_
          have hs9 := shf_rng (high := high) (border := border) (pattern := pattern) (y := y) hw
          refine v_callSNi hC 87 2 [] [0, 1] [oF af fl fr ft fb, oL al wide high border pattern] (As := [.int (iI wide), .int (iI (x - fs))]) (rest := [.int (iI fs)]) (c_X7_timesIn lx D cs wide (x - fs) (by omega) (by omega)) dX3_frame_84 rfl rfl gX3_frame_X7_timesIn_n31 L3 L4 RX7 (by decide +kernel) rfl rfl rfl (by decide +kernel) ⟨by decide, by decide⟩ rfl rfl rfl rfl (by decide) rfl (by decide) ⟨rfl, rfl⟩ ⟨by decide, by decide⟩ (fun z84 u84 h84 => ?_)
          dsimp only at h84
          subst h84
          have hd9 := dm_rng (t := x - fs) (w := wide) (by omega) hw.1
          have hd8 := dm_rng (t := y - border) (w := high) (by omega) hh.1
          show V p9 lx e9 ({ frames := 3, cells := 0, slots := 0, locals := 66 }) s9 m9 ar9 be9 me9 c9 Q9 D A9 s9.heap 9 0 0 [oF af fl fr ft fb, oL al wide high border pattern] [(6, .int (iI fs)), (0, .ref al), (1, .int (iI x)), (2, .int (iI y)), (3, .ref af), (4, .int (iI ((y - border) / high)))] 87 [.int (iI ((x - fs) / wide)), .int (iI fs)]
          refine v_aload_n hC 88 1 dX3_frame_87 rfl rfl rfl ?_
          refine v_get hC 91 1 0 (C := RX3) (T := TX3) (N := 4) dX3_frame_88 rfl iX3 L2 rfl rfl (by decide) rfl ?_
          refine v_imul hC 92 (((x - fs) / wide) * wide) dX3_frame_91 rfl rfl ?_
          refine v_iadd hC 93 (fs + (((x - fs) / wide) * wide)) dX3_frame_92 rfl rfl ?_
          refine v_istore hC 95 [(7, .int (iI (fs + (((x - fs) / wide) * wide)))), (6, .int (iI fs)), (0, .ref al), (1, .int (iI x)), (2, .int (iI y)), (3, .ref af), (4, .int (iI ((y - border) / high)))] dX3_frame_93 rfl (by decide) rfl ?_
          refine v_aload_n hC 96 2 dX3_frame_95 rfl rfl rfl ?_
          refine v_get hC 99 1 2 (C := RX3) (T := TX3) (N := 4) dX3_frame_96 rfl iX3 L1 rfl rfl (by decide) rfl ?_
          refine v_iload hC 101 6 dX3_frame_99 rfl rfl ?_
          refine v_aload_n hC 102 2 dX3_frame_101 rfl rfl rfl ?_
          refine v_get hC 105 1 1 (C := RX3) (T := TX3) (N := 4) dX3_frame_102 rfl iX3 L5 rfl rfl (by decide) rfl ?_
          refine v_imul hC 106 (((y - border) / high) * high) dX3_frame_105 rfl rfl ?_
          refine v_iadd hC 107 (border + (((y - border) / high) * high)) dX3_frame_106 rfl rfl ?_
          refine v_istore hC 109 [(8, .int (iI (border + (((y - border) / high) * high)))), (7, .int (iI (fs + (((x - fs) / wide) * wide)))), (6, .int (iI fs)), (0, .ref al), (1, .int (iI x)), (2, .int (iI y)), (3, .ref af), (4, .int (iI ((y - border) / high)))] dX3_frame_107 rfl (by decide) rfl ?_
          refine v_aload_n hC 110 6 dX3_frame_109 rfl rfl rfl ?_
          refine v_iload hC 112 1 dX3_frame_110 rfl rfl ?_
          refine v_aload_n hC 113 3 dX3_frame_112 rfl rfl rfl ?_
          refine v_get hC 116 1 2 (C := RX3) (T := TX3) (N := 4) dX3_frame_113 rfl iX3 L1 rfl rfl (by decide) rfl ?_
          refine v_mmax hC 119 dX3_frame_116 rfl L6 L7 L8 L9 ⟨by decide, by decide, by decide, by decide⟩ (by omega) (by omega) ?_
          refine v_iload hC 121 1 dX3_frame_119 rfl rfl ?_
          refine v_aload_n hC 122 3 dX3_frame_121 rfl rfl rfl ?_
          refine v_get hC 125 1 0 (C := RX3) (T := TX3) (N := 4) dX3_frame_122 rfl iX3 L2 rfl rfl (by decide) rfl ?_
          refine v_iadd hC 126 (fs + (((x - fs) / wide) * wide) + wide) dX3_frame_125 rfl rfl ?_
          refine v_aload_n hC 127 3 dX3_frame_126 rfl rfl rfl ?_
          refine v_callVi hC 130 0 [1] [0] [oF af fl fr ft fb] (As := []) (rest := [.int (iI (fs + (((x - fs) / wide) * wide) + wide)), .int (iI (max (fs + (((x - fs) / wide) * wide)) border)), .ref af]) (c_X3_rightBorder lx D cs al wide high border pattern ) dX3_frame_127 rfl rfl 1 rfl rfl gX3_frame_X3_rightBorder rfl rfl rfl (by decide +kernel) ⟨by decide, by decide⟩ rfl rfl rfl rfl (by decide) rfl (by decide) ⟨rfl, rfl⟩ ⟨by decide, by decide⟩ (fun z127 u127 h127 => ?_)
          dsimp only at h127
          subst h127
          show V p9 lx e9 ({ frames := 3, cells := 0, slots := 0, locals := 66 }) s9 m9 ar9 be9 me9 c9 Q9 D A9 s9.heap 9 0 0 [oF af fl fr ft fb, oL al wide high border pattern] [(8, .int (iI (border + (((y - border) / high) * high)))), (7, .int (iI (fs + (((x - fs) / wide) * wide)))), (6, .int (iI fs)), (0, .ref al), (1, .int (iI x)), (2, .int (iI y)), (3, .ref af), (4, .int (iI ((y - border) / high)))] 130 [.int (iI (12 - border)), .int (iI (fs + (((x - fs) / wide) * wide) + wide)), .int (iI (max (fs + (((x - fs) / wide) * wide)) border)), .ref af]
          refine v_mmin hC 133 dX3_frame_130 rfl L10 L11 L8 L12 ⟨by decide, by decide, by decide, by decide⟩ (by omega) (by omega) ?_
          refine v_iload hC 135 0 dX3_frame_133 rfl rfl ?_
          refine v_iload hC 137 0 dX3_frame_135 rfl rfl ?_
          refine v_aload_n hC 138 3 dX3_frame_137 rfl rfl rfl ?_
          refine v_get hC 141 1 1 (C := RX3) (T := TX3) (N := 4) dX3_frame_138 rfl iX3 L5 rfl rfl (by decide) rfl ?_
          refine v_iadd hC 142 (border + (((y - border) / high) * high) + high) dX3_frame_141 rfl rfl ?_
          refine v_aload_n hC 143 3 dX3_frame_142 rfl rfl rfl ?_
          refine v_callVi hC 146 0 [1] [0] [oF af fl fr ft fb] (As := []) (rest := [.int (iI (border + (((y - border) / high) * high) + high)), .int (iI (border + (((y - border) / high) * high))), .int (iI (min (fs + (((x - fs) / wide) * wide) + wide) (12 - border))), .int (iI (max (fs + (((x - fs) / wide) * wide)) border)), .ref af]) (c_X3_lowerBorder lx D cs al wide high border pattern ) dX3_frame_143 rfl rfl 1 rfl rfl gX3_frame_X3_lowerBorder rfl rfl rfl (by decide +kernel) ⟨by decide, by decide⟩ rfl rfl rfl rfl (by decide) rfl (by decide) ⟨rfl, rfl⟩ ⟨by decide, by decide⟩ (fun z143 u143 h143 => ?_)
          dsimp only at h143
          subst h143
          show V p9 lx e9 ({ frames := 3, cells := 0, slots := 0, locals := 66 }) s9 m9 ar9 be9 me9 c9 Q9 D A9 s9.heap 9 0 0 [oF af fl fr ft fb, oL al wide high border pattern] [(8, .int (iI (border + (((y - border) / high) * high)))), (7, .int (iI (fs + (((x - fs) / wide) * wide)))), (6, .int (iI fs)), (0, .ref al), (1, .int (iI x)), (2, .int (iI y)), (3, .ref af), (4, .int (iI ((y - border) / high)))] 146 [.int (iI (8 - border)), .int (iI (border + (((y - border) / high) * high) + high)), .int (iI (border + (((y - border) / high) * high))), .int (iI (min (fs + (((x - fs) / wide) * wide) + wide) (12 - border))), .int (iI (max (fs + (((x - fs) / wide) * wide)) border)), .ref af]
          refine v_mmin hC 149 dX3_frame_146 rfl L10 L11 L8 L12 ⟨by decide, by decide, by decide, by decide⟩ (by omega) (by omega) ?_
          refine v_callVv hC 152 4 [0] [1] [oL al wide high border pattern] (As := [.int (iI (max (fs + (((x - fs) / wide) * wide)) border)), .int (iI (min (fs + (((x - fs) / wide) * wide) + wide) (12 - border))), .int (iI (border + (((y - border) / high) * high))), .int (iI (min (border + (((y - border) / high) * high) + high) (8 - border)))]) (rest := []) (c_X2_set lx D cs af fl fr ft fb (max (fs + (((x - fs) / wide) * wide)) border) (min (fs + (((x - fs) / wide) * wide) + wide) (12 - border)) (border + (((y - border) / high) * high)) (min (border + (((y - border) / high) * high) + high) (8 - border)) ) dX3_frame_149 rfl rfl 0 rfl rfl gX3_frame_X2_set rfl rfl rfl (by decide +kernel) ⟨by decide, by decide⟩ rfl rfl rfl rfl (by decide) rfl (by decide) ⟨rfl, rfl⟩ ⟨by decide, by decide⟩ (fun u149 h149 => ?_)
          dsimp only at h149
          show V p9 lx e9 ({ frames := 3, cells := 0, slots := 0, locals := 66 }) s9 m9 ar9 be9 me9 c9 Q9 D A9 s9.heap 9 0 0 [oL al wide high border pattern, oF af (max (fs + (((x - fs) / wide) * wide)) border) (min (fs + (((x - fs) / wide) * wide) + wide) (12 - border)) (border + (((y - border) / high) * high)) (min (border + (((y - border) / high) * high) + high) (8 - border))] [(8, .int (iI (border + (((y - border) / high) * high)))), (7, .int (iI (fs + (((x - fs) / wide) * wide)))), (6, .int (iI fs)), (0, .ref al), (1, .int (iI x)), (2, .int (iI y)), (3, .ref af), (4, .int (iI ((y - border) / high)))] 152 []
          exact v_vret hC hQ (max (fs + (((x - fs) / wide) * wide)) border, min (fs + (((x - fs) / wide) * wide) + wide) (12 - border), border + (((y - border) / high) * high), min (border + (((y - border) / high) * high) + high) (8 - border)) [0, 1] dX3_frame_152 rfl rfl ⟨by decide, by decide⟩ ⟨by dsimp only; unfold fL tlL; rw [if_neg (by omega), hfs], by dsimp only; unfold fR tlL; rw [if_neg (by omega), hfs], by dsimp only; unfold fT; rw [if_neg (by omega)], by dsimp only; unfold fB; rw [if_neg (by omega)]⟩
        exact v_sub [0, 1] [2, 3, 4, 5, 1] _ _ rfl rfl rfl (cut_72 (border - 0) (by unfold shf; first | (rw [if_pos (by omega)]; omega) | (rw [if_neg (by omega)]; omega)))
      · skip
        refine v_aload_n hC 62 2 dX3_frame_61 rfl rfl rfl ?_
        refine v_get hC 65 1 0 (C := RX3) (T := TX3) (N := 4) dX3_frame_62 rfl iX3 L2 rfl rfl (by decide) rfl ?_
        refine v_iconst hC 66 dX3_frame_65 rfl ?_
        refine v_ishr1 hC 67 (wide / 2) dX3_frame_66 rfl (by omega) rfl ?_
        refine v_goto hC 71 dX3_frame_67 (by decide) ?_
        refine v_isub hC 72 (border - (wide / 2)) dX3_frame_71 rfl rfl ?_
        have cut_72 : ∀ (fs : Int), (fs = border - shf wide high border pattern y) → V p9 lx e9 ({ frames := 3, cells := 0, slots := 0, locals := 66 }) s9 m9 ar9 be9 me9 c9 Q9 D A9 s9.heap 9 0 0 [oF af fl fr ft fb, oL al wide high border pattern] [(0, .ref al), (1, .int (iI x)), (2, .int (iI y)), (3, .ref af), (4, .int (iI ((y - border) / high)))] 72 [.int (iI fs)] := by
          intro fs hfs
          refine v_istore hC 74 [(6, .int (iI fs)), (0, .ref al), (1, .int (iI x)), (2, .int (iI y)), (3, .ref af), (4, .int (iI ((y - border) / high)))] dX3_frame_72 rfl (by decide) rfl ?_
          refine v_iload hC 76 0 dX3_frame_74 rfl rfl ?_
          refine v_aload_n hC 77 1 dX3_frame_76 rfl rfl rfl ?_
          refine v_get hC 80 1 0 (C := RX3) (T := TX3) (N := 4) dX3_frame_77 rfl iX3 L2 rfl rfl (by decide) rfl ?_
          refine v_iload_n hC 81 2 dX3_frame_80 rfl rfl rfl ?_
          refine v_iload hC 83 0 dX3_frame_81 rfl rfl ?_
          refine v_isub hC 84 (x - fs) dX3_frame_83 rfl rfl ?_
          have hs9 := shf_rng (high := high) (border := border) (pattern := pattern) (y := y) hw
          refine v_callSNi hC 87 2 [] [0, 1] [oF af fl fr ft fb, oL al wide high border pattern] (As := [.int (iI wide), .int (iI (x - fs))]) (rest := [.int (iI fs)]) (c_X7_timesIn lx D cs wide (x - fs) (by omega) (by omega)) dX3_frame_84 rfl rfl gX3_frame_X7_timesIn_n31 L3 L4 RX7 (by decide +kernel) rfl rfl rfl (by decide +kernel) ⟨by decide, by decide⟩ rfl rfl rfl rfl (by decide) rfl (by decide) ⟨rfl, rfl⟩ ⟨by decide, by decide⟩ (fun z84 u84 h84 => ?_)
          dsimp only at h84
          subst h84
          have hd9 := dm_rng (t := x - fs) (w := wide) (by omega) hw.1
          have hd8 := dm_rng (t := y - border) (w := high) (by omega) hh.1
          show V p9 lx e9 ({ frames := 3, cells := 0, slots := 0, locals := 66 }) s9 m9 ar9 be9 me9 c9 Q9 D A9 s9.heap 9 0 0 [oF af fl fr ft fb, oL al wide high border pattern] [(6, .int (iI fs)), (0, .ref al), (1, .int (iI x)), (2, .int (iI y)), (3, .ref af), (4, .int (iI ((y - border) / high)))] 87 [.int (iI ((x - fs) / wide)), .int (iI fs)]
          refine v_aload_n hC 88 1 dX3_frame_87 rfl rfl rfl ?_
          refine v_get hC 91 1 0 (C := RX3) (T := TX3) (N := 4) dX3_frame_88 rfl iX3 L2 rfl rfl (by decide) rfl ?_
          refine v_imul hC 92 (((x - fs) / wide) * wide) dX3_frame_91 rfl rfl ?_
          refine v_iadd hC 93 (fs + (((x - fs) / wide) * wide)) dX3_frame_92 rfl rfl ?_
          refine v_istore hC 95 [(7, .int (iI (fs + (((x - fs) / wide) * wide)))), (6, .int (iI fs)), (0, .ref al), (1, .int (iI x)), (2, .int (iI y)), (3, .ref af), (4, .int (iI ((y - border) / high)))] dX3_frame_93 rfl (by decide) rfl ?_
          refine v_aload_n hC 96 2 dX3_frame_95 rfl rfl rfl ?_
          refine v_get hC 99 1 2 (C := RX3) (T := TX3) (N := 4) dX3_frame_96 rfl iX3 L1 rfl rfl (by decide) rfl ?_
          refine v_iload hC 101 6 dX3_frame_99 rfl rfl ?_
          refine v_aload_n hC 102 2 dX3_frame_101 rfl rfl rfl ?_
          refine v_get hC 105 1 1 (C := RX3) (T := TX3) (N := 4) dX3_frame_102 rfl iX3 L5 rfl rfl (by decide) rfl ?_
          refine v_imul hC 106 (((y - border) / high) * high) dX3_frame_105 rfl rfl ?_
          refine v_iadd hC 107 (border + (((y - border) / high) * high)) dX3_frame_106 rfl rfl ?_
          refine v_istore hC 109 [(8, .int (iI (border + (((y - border) / high) * high)))), (7, .int (iI (fs + (((x - fs) / wide) * wide)))), (6, .int (iI fs)), (0, .ref al), (1, .int (iI x)), (2, .int (iI y)), (3, .ref af), (4, .int (iI ((y - border) / high)))] dX3_frame_107 rfl (by decide) rfl ?_
          refine v_aload_n hC 110 6 dX3_frame_109 rfl rfl rfl ?_
          refine v_iload hC 112 1 dX3_frame_110 rfl rfl ?_
          refine v_aload_n hC 113 3 dX3_frame_112 rfl rfl rfl ?_
          refine v_get hC 116 1 2 (C := RX3) (T := TX3) (N := 4) dX3_frame_113 rfl iX3 L1 rfl rfl (by decide) rfl ?_
          refine v_mmax hC 119 dX3_frame_116 rfl L6 L7 L8 L9 ⟨by decide, by decide, by decide, by decide⟩ (by omega) (by omega) ?_
          refine v_iload hC 121 1 dX3_frame_119 rfl rfl ?_
          refine v_aload_n hC 122 3 dX3_frame_121 rfl rfl rfl ?_
          refine v_get hC 125 1 0 (C := RX3) (T := TX3) (N := 4) dX3_frame_122 rfl iX3 L2 rfl rfl (by decide) rfl ?_
          refine v_iadd hC 126 (fs + (((x - fs) / wide) * wide) + wide) dX3_frame_125 rfl rfl ?_
          refine v_aload_n hC 127 3 dX3_frame_126 rfl rfl rfl ?_
          refine v_callVi hC 130 0 [1] [0] [oF af fl fr ft fb] (As := []) (rest := [.int (iI (fs + (((x - fs) / wide) * wide) + wide)), .int (iI (max (fs + (((x - fs) / wide) * wide)) border)), .ref af]) (c_X3_rightBorder lx D cs al wide high border pattern ) dX3_frame_127 rfl rfl 1 rfl rfl gX3_frame_X3_rightBorder rfl rfl rfl (by decide +kernel) ⟨by decide, by decide⟩ rfl rfl rfl rfl (by decide) rfl (by decide) ⟨rfl, rfl⟩ ⟨by decide, by decide⟩ (fun z127 u127 h127 => ?_)
          dsimp only at h127
          subst h127
          show V p9 lx e9 ({ frames := 3, cells := 0, slots := 0, locals := 66 }) s9 m9 ar9 be9 me9 c9 Q9 D A9 s9.heap 9 0 0 [oF af fl fr ft fb, oL al wide high border pattern] [(8, .int (iI (border + (((y - border) / high) * high)))), (7, .int (iI (fs + (((x - fs) / wide) * wide)))), (6, .int (iI fs)), (0, .ref al), (1, .int (iI x)), (2, .int (iI y)), (3, .ref af), (4, .int (iI ((y - border) / high)))] 130 [.int (iI (12 - border)), .int (iI (fs + (((x - fs) / wide) * wide) + wide)), .int (iI (max (fs + (((x - fs) / wide) * wide)) border)), .ref af]
          refine v_mmin hC 133 dX3_frame_130 rfl L10 L11 L8 L12 ⟨by decide, by decide, by decide, by decide⟩ (by omega) (by omega) ?_
          refine v_iload hC 135 0 dX3_frame_133 rfl rfl ?_
          refine v_iload hC 137 0 dX3_frame_135 rfl rfl ?_
          refine v_aload_n hC 138 3 dX3_frame_137 rfl rfl rfl ?_
          refine v_get hC 141 1 1 (C := RX3) (T := TX3) (N := 4) dX3_frame_138 rfl iX3 L5 rfl rfl (by decide) rfl ?_
          refine v_iadd hC 142 (border + (((y - border) / high) * high) + high) dX3_frame_141 rfl rfl ?_
          refine v_aload_n hC 143 3 dX3_frame_142 rfl rfl rfl ?_
          refine v_callVi hC 146 0 [1] [0] [oF af fl fr ft fb] (As := []) (rest := [.int (iI (border + (((y - border) / high) * high) + high)), .int (iI (border + (((y - border) / high) * high))), .int (iI (min (fs + (((x - fs) / wide) * wide) + wide) (12 - border))), .int (iI (max (fs + (((x - fs) / wide) * wide)) border)), .ref af]) (c_X3_lowerBorder lx D cs al wide high border pattern ) dX3_frame_143 rfl rfl 1 rfl rfl gX3_frame_X3_lowerBorder rfl rfl rfl (by decide +kernel) ⟨by decide, by decide⟩ rfl rfl rfl rfl (by decide) rfl (by decide) ⟨rfl, rfl⟩ ⟨by decide, by decide⟩ (fun z143 u143 h143 => ?_)
          dsimp only at h143
          subst h143
          show V p9 lx e9 ({ frames := 3, cells := 0, slots := 0, locals := 66 }) s9 m9 ar9 be9 me9 c9 Q9 D A9 s9.heap 9 0 0 [oF af fl fr ft fb, oL al wide high border pattern] [(8, .int (iI (border + (((y - border) / high) * high)))), (7, .int (iI (fs + (((x - fs) / wide) * wide)))), (6, .int (iI fs)), (0, .ref al), (1, .int (iI x)), (2, .int (iI y)), (3, .ref af), (4, .int (iI ((y - border) / high)))] 146 [.int (iI (8 - border)), .int (iI (border + (((y - border) / high) * high) + high)), .int (iI (border + (((y - border) / high) * high))), .int (iI (min (fs + (((x - fs) / wide) * wide) + wide) (12 - border))), .int (iI (max (fs + (((x - fs) / wide) * wide)) border)), .ref af]
          refine v_mmin hC 149 dX3_frame_146 rfl L10 L11 L8 L12 ⟨by decide, by decide, by decide, by decide⟩ (by omega) (by omega) ?_
          refine v_callVv hC 152 4 [0] [1] [oL al wide high border pattern] (As := [.int (iI (max (fs + (((x - fs) / wide) * wide)) border)), .int (iI (min (fs + (((x - fs) / wide) * wide) + wide) (12 - border))), .int (iI (border + (((y - border) / high) * high))), .int (iI (min (border + (((y - border) / high) * high) + high) (8 - border)))]) (rest := []) (c_X2_set lx D cs af fl fr ft fb (max (fs + (((x - fs) / wide) * wide)) border) (min (fs + (((x - fs) / wide) * wide) + wide) (12 - border)) (border + (((y - border) / high) * high)) (min (border + (((y - border) / high) * high) + high) (8 - border)) ) dX3_frame_149 rfl rfl 0 rfl rfl gX3_frame_X2_set rfl rfl rfl (by decide +kernel) ⟨by decide, by decide⟩ rfl rfl rfl rfl (by decide) rfl (by decide) ⟨rfl, rfl⟩ ⟨by decide, by decide⟩ (fun u149 h149 => ?_)
          dsimp only at h149
          show V p9 lx e9 ({ frames := 3, cells := 0, slots := 0, locals := 66 }) s9 m9 ar9 be9 me9 c9 Q9 D A9 s9.heap 9 0 0 [oL al wide high border pattern, oF af (max (fs + (((x - fs) / wide) * wide)) border) (min (fs + (((x - fs) / wide) * wide) + wide) (12 - border)) (border + (((y - border) / high) * high)) (min (border + (((y - border) / high) * high) + high) (8 - border))] [(8, .int (iI (border + (((y - border) / high) * high)))), (7, .int (iI (fs + (((x - fs) / wide) * wide)))), (6, .int (iI fs)), (0, .ref al), (1, .int (iI x)), (2, .int (iI y)), (3, .ref af), (4, .int (iI ((y - border) / high)))] 152 []
          exact v_vret hC hQ (max (fs + (((x - fs) / wide) * wide)) border, min (fs + (((x - fs) / wide) * wide) + wide) (12 - border), border + (((y - border) / high) * high), min (border + (((y - border) / high) * high) + high) (8 - border)) [0, 1] dX3_frame_152 rfl rfl ⟨by decide, by decide⟩ ⟨by dsimp only; unfold fL tlL; rw [if_neg (by omega), hfs], by dsimp only; unfold fR tlL; rw [if_neg (by omega), hfs], by dsimp only; unfold fT; rw [if_neg (by omega)], by dsimp only; unfold fB; rw [if_neg (by omega)]⟩
        exact v_sub [0, 1] [2, 3, 4, 5, 1] _ _ rfl rfl rfl (cut_72 (border - (wide / 2)) (by unfold shf; first | (rw [if_pos (by omega)]; omega) | (rw [if_neg (by omega)]; omega)))
    · skip
      refine v_iload hC 39 0 dX3_frame_37 rfl rfl ?_
      refine v_iconst hC 40 dX3_frame_39 rfl ?_
      refine v_iand hC 41 (((y - border) / high) % 2) 2 1 dX3_frame_40 rfl (by decide) (by decide) (by decide) rfl ?_
      refine v_iconst hC 42 dX3_frame_41 rfl ?_
      refine v_icmp_ne hC 49 45 dX3_frame_42 (by decide) rfl (by omega) (by omega) (fun c_42 => ?_) (fun c_42 => ?_)
      · skip
        refine v_iconst hC 50 dX3_frame_49 rfl ?_
        refine v_istore hC 52 [(5, .int (iI 0)), (4, .int (iI ((y - border) / high))), (0, .ref al), (1, .int (iI x)), (2, .int (iI y)), (3, .ref af)] dX3_frame_50 rfl (by decide) rfl ?_
        refine v_aload_n hC 53 2 dX3_frame_52 rfl rfl rfl ?_
        refine v_get hC 56 1 2 (C := RX3) (T := TX3) (N := 4) dX3_frame_53 rfl iX3 L1 rfl rfl (by decide) rfl ?_
        refine v_iload hC 58 0 dX3_frame_56 rfl rfl ?_
        refine v_if_eq hC 70 61 dX3_frame_58 (by decide) rfl (by omega) (fun c_58 => ?_) (fun c_58 => ?_)
        · skip
          refine v_iconst hC 71 dX3_frame_70 rfl ?_
          refine v_isub hC 72 (border - 0) dX3_frame_71 rfl rfl ?_
          have cut_72 : ∀ (fs : Int), (fs = border - shf wide high border pattern y) → V p9 lx e9 ({ frames := 3, cells := 0, slots := 0, locals := 66 }) s9 m9 ar9 be9 me9 c9 Q9 D A9 s9.heap 9 0 0 [oF af fl fr ft fb, oL al wide high border pattern] [(0, .ref al), (1, .int (iI x)), (2, .int (iI y)), (3, .ref af), (4, .int (iI ((y - border) / high)))] 72 [.int (iI fs)] := by
            intro fs hfs
            refine v_istore hC 74 [(6, .int (iI fs)), (0, .ref al), (1, .int (iI x)), (2, .int (iI y)), (3, .ref af), (4, .int (iI ((y - border) / high)))] dX3_frame_72 rfl (by decide) rfl ?_
            refine v_iload hC 76 0 dX3_frame_74 rfl rfl ?_
            refine v_aload_n hC 77 1 dX3_frame_76 rfl rfl rfl ?_
            refine v_get hC 80 1 0 (C := RX3) (T := TX3) (N := 4) dX3_frame_77 rfl iX3 L2 rfl rfl (by decide) rfl ?_
            refine v_iload_n hC 81 2 dX3_frame_80 rfl rfl rfl ?_
            refine v_iload hC 83 0 dX3_frame_81 rfl rfl ?_
            refine v_isub hC 84 (x - fs) dX3_frame_83 rfl rfl ?_
            have hs9 := shf_rng (high := high) (border := border) (pattern := pattern) (y := y) hw
            refine v_callSNi hC 87 2 [] [0, 1] [oF af fl fr ft fb, oL al wide high border pattern] (As := [.int (iI wide), .int (iI (x - fs))]) (rest := [.int (iI fs)]) (c_X7_timesIn lx D cs wide (x - fs) (by omega) (by omega)) dX3_frame_84 rfl rfl gX3_frame_X7_timesIn_n31 L3 L4 RX7 (by decide +kernel) rfl rfl rfl (by decide +kernel) ⟨by decide, by decide⟩ rfl rfl rfl rfl (by decide) rfl (by decide) ⟨rfl, rfl⟩ ⟨by decide, by decide⟩ (fun z84 u84 h84 => ?_)
            dsimp only at h84
            subst h84
            have hd9 := dm_rng (t := x - fs) (w := wide) (by omega) hw.1
            have hd8 := dm_rng (t := y - border) (w := high) (by omega) hh.1
            show V p9 lx e9 ({ frames := 3, cells := 0, slots := 0, locals := 66 }) s9 m9 ar9 be9 me9 c9 Q9 D A9 s9.heap 9 0 0 [oF af fl fr ft fb, oL al wide high border pattern] [(6, .int (iI fs)), (0, .ref al), (1, .int (iI x)), (2, .int (iI y)), (3, .ref af), (4, .int (iI ((y - border) / high)))] 87 [.int (iI ((x - fs) / wide)), .int (iI fs)]
            refine v_aload_n hC 88 1 dX3_frame_87 rfl rfl rfl ?_
            refine v_get hC 91 1 0 (C := RX3) (T := TX3) (N := 4) dX3_frame_88 rfl iX3 L2 rfl rfl (by decide) rfl ?_
            refine v_imul hC 92 (((x - fs) / wide) * wide) dX3_frame_91 rfl rfl ?_
            refine v_iadd hC 93 (fs + (((x - fs) / wide) * wide)) dX3_frame_92 rfl rfl ?_
            refine v_istore hC 95 [(7, .int (iI (fs + (((x - fs) / wide) * wide)))), (6, .int (iI fs)), (0, .ref al), (1, .int (iI x)), (2, .int (iI y)), (3, .ref af), (4, .int (iI ((y - border) / high)))] dX3_frame_93 rfl (by decide) rfl ?_
            refine v_aload_n hC 96 2 dX3_frame_95 rfl rfl rfl ?_
            refine v_get hC 99 1 2 (C := RX3) (T := TX3) (N := 4) dX3_frame_96 rfl iX3 L1 rfl rfl (by decide) rfl ?_
            refine v_iload hC 101 6 dX3_frame_99 rfl rfl ?_
            refine v_aload_n hC 102 2 dX3_frame_101 rfl rfl rfl ?_
            refine v_get hC 105 1 1 (C := RX3) (T := TX3) (N := 4) dX3_frame_102 rfl iX3 L5 rfl rfl (by decide) rfl ?_
            refine v_imul hC 106 (((y - border) / high) * high) dX3_frame_105 rfl rfl ?_
            refine v_iadd hC 107 (border + (((y - border) / high) * high)) dX3_frame_106 rfl rfl ?_
            refine v_istore hC 109 [(8, .int (iI (border + (((y - border) / high) * high)))), (7, .int (iI (fs + (((x - fs) / wide) * wide)))), (6, .int (iI fs)), (0, .ref al), (1, .int (iI x)), (2, .int (iI y)), (3, .ref af), (4, .int (iI ((y - border) / high)))] dX3_frame_107 rfl (by decide) rfl ?_
            refine v_aload_n hC 110 6 dX3_frame_109 rfl rfl rfl ?_
            refine v_iload hC 112 1 dX3_frame_110 rfl rfl ?_
            refine v_aload_n hC 113 3 dX3_frame_112 rfl rfl rfl ?_
            refine v_get hC 116 1 2 (C := RX3) (T := TX3) (N := 4) dX3_frame_113 rfl iX3 L1 rfl rfl (by decide) rfl ?_
            refine v_mmax hC 119 dX3_frame_116 rfl L6 L7 L8 L9 ⟨by decide, by decide, by decide, by decide⟩ (by omega) (by omega) ?_
            refine v_iload hC 121 1 dX3_frame_119 rfl rfl ?_
            refine v_aload_n hC 122 3 dX3_frame_121 rfl rfl rfl ?_
            refine v_get hC 125 1 0 (C := RX3) (T := TX3) (N := 4) dX3_frame_122 rfl iX3 L2 rfl rfl (by decide) rfl ?_
            refine v_iadd hC 126 (fs + (((x - fs) / wide) * wide) + wide) dX3_frame_125 rfl rfl ?_
            refine v_aload_n hC 127 3 dX3_frame_126 rfl rfl rfl ?_
            refine v_callVi hC 130 0 [1] [0] [oF af fl fr ft fb] (As := []) (rest := [.int (iI (fs + (((x - fs) / wide) * wide) + wide)), .int (iI (max (fs + (((x - fs) / wide) * wide)) border)), .ref af]) (c_X3_rightBorder lx D cs al wide high border pattern ) dX3_frame_127 rfl rfl 1 rfl rfl gX3_frame_X3_rightBorder rfl rfl rfl (by decide +kernel) ⟨by decide, by decide⟩ rfl rfl rfl rfl (by decide) rfl (by decide) ⟨rfl, rfl⟩ ⟨by decide, by decide⟩ (fun z127 u127 h127 => ?_)
            dsimp only at h127
            subst h127
            show V p9 lx e9 ({ frames := 3, cells := 0, slots := 0, locals := 66 }) s9 m9 ar9 be9 me9 c9 Q9 D A9 s9.heap 9 0 0 [oF af fl fr ft fb, oL al wide high border pattern] [(8, .int (iI (border + (((y - border) / high) * high)))), (7, .int (iI (fs + (((x - fs) / wide) * wide)))), (6, .int (iI fs)), (0, .ref al), (1, .int (iI x)), (2, .int (iI y)), (3, .ref af), (4, .int (iI ((y - border) / high)))] 130 [.int (iI (12 - border)), .int (iI (fs + (((x - fs) / wide) * wide) + wide)), .int (iI (max (fs + (((x - fs) / wide) * wide)) border)), .ref af]
            refine v_mmin hC 133 dX3_frame_130 rfl L10 L11 L8 L12 ⟨by decide, by decide, by decide, by decide⟩ (by omega) (by omega) ?_
            refine v_iload hC 135 0 dX3_frame_133 rfl rfl ?_
            refine v_iload hC 137 0 dX3_frame_135 rfl rfl ?_
            refine v_aload_n hC 138 3 dX3_frame_137 rfl rfl rfl ?_
            refine v_get hC 141 1 1 (C := RX3) (T := TX3) (N := 4) dX3_frame_138 rfl iX3 L5 rfl rfl (by decide) rfl ?_
            refine v_iadd hC 142 (border + (((y - border) / high) * high) + high) dX3_frame_141 rfl rfl ?_
            refine v_aload_n hC 143 3 dX3_frame_142 rfl rfl rfl ?_
            refine v_callVi hC 146 0 [1] [0] [oF af fl fr ft fb] (As := []) (rest := [.int (iI (border + (((y - border) / high) * high) + high)), .int (iI (border + (((y - border) / high) * high))), .int (iI (min (fs + (((x - fs) / wide) * wide) + wide) (12 - border))), .int (iI (max (fs + (((x - fs) / wide) * wide)) border)), .ref af]) (c_X3_lowerBorder lx D cs al wide high border pattern ) dX3_frame_143 rfl rfl 1 rfl rfl gX3_frame_X3_lowerBorder rfl rfl rfl (by decide +kernel) ⟨by decide, by decide⟩ rfl rfl rfl rfl (by decide) rfl (by decide) ⟨rfl, rfl⟩ ⟨by decide, by decide⟩ (fun z143 u143 h143 => ?_)
            dsimp only at h143
            subst h143
            show V p9 lx e9 ({ frames := 3, cells := 0, slots := 0, locals := 66 }) s9 m9 ar9 be9 me9 c9 Q9 D A9 s9.heap 9 0 0 [oF af fl fr ft fb, oL al wide high border pattern] [(8, .int (iI (border + (((y - border) / high) * high)))), (7, .int (iI (fs + (((x - fs) / wide) * wide)))), (6, .int (iI fs)), (0, .ref al), (1, .int (iI x)), (2, .int (iI y)), (3, .ref af), (4, .int (iI ((y - border) / high)))] 146 [.int (iI (8 - border)), .int (iI (border + (((y - border) / high) * high) + high)), .int (iI (border + (((y - border) / high) * high))), .int (iI (min (fs + (((x - fs) / wide) * wide) + wide) (12 - border))), .int (iI (max (fs + (((x - fs) / wide) * wide)) border)), .ref af]
            refine v_mmin hC 149 dX3_frame_146 rfl L10 L11 L8 L12 ⟨by decide, by decide, by decide, by decide⟩ (by omega) (by omega) ?_
            refine v_callVv hC 152 4 [0] [1] [oL al wide high border pattern] (As := [.int (iI (max (fs + (((x - fs) / wide) * wide)) border)), .int (iI (min (fs + (((x - fs) / wide) * wide) + wide) (12 - border))), .int (iI (border + (((y - border) / high) * high))), .int (iI (min (border + (((y - border) / high) * high) + high) (8 - border)))]) (rest := []) (c_X2_set lx D cs af fl fr ft fb (max (fs + (((x - fs) / wide) * wide)) border) (min (fs + (((x - fs) / wide) * wide) + wide) (12 - border)) (border + (((y - border) / high) * high)) (min (border + (((y - border) / high) * high) + high) (8 - border)) ) dX3_frame_149 rfl rfl 0 rfl rfl gX3_frame_X2_set rfl rfl rfl (by decide +kernel) ⟨by decide, by decide⟩ rfl rfl rfl rfl (by decide) rfl (by decide) ⟨rfl, rfl⟩ ⟨by decide, by decide⟩ (fun u149 h149 => ?_)
            dsimp only at h149
            show V p9 lx e9 ({ frames := 3, cells := 0, slots := 0, locals := 66 }) s9 m9 ar9 be9 me9 c9 Q9 D A9 s9.heap 9 0 0 [oL al wide high border pattern, oF af (max (fs + (((x - fs) / wide) * wide)) border) (min (fs + (((x - fs) / wide) * wide) + wide) (12 - border)) (border + (((y - border) / high) * high)) (min (border + (((y - border) / high) * high) + high) (8 - border))] [(8, .int (iI (border + (((y - border) / high) * high)))), (7, .int (iI (fs + (((x - fs) / wide) * wide)))), (6, .int (iI fs)), (0, .ref al), (1, .int (iI x)), (2, .int (iI y)), (3, .ref af), (4, .int (iI ((y - border) / high)))] 152 []
            exact v_vret hC hQ (max (fs + (((x - fs) / wide) * wide)) border, min (fs + (((x - fs) / wide) * wide) + wide) (12 - border), border + (((y - border) / high) * high), min (border + (((y - border) / high) * high) + high) (8 - border)) [0, 1] dX3_frame_152 rfl rfl ⟨by decide, by decide⟩ ⟨by dsimp only; unfold fL tlL; rw [if_neg (by omega), hfs], by dsimp only; unfold fR tlL; rw [if_neg (by omega), hfs], by dsimp only; unfold fT; rw [if_neg (by omega)], by dsimp only; unfold fB; rw [if_neg (by omega)]⟩
          exact v_sub [0, 1] [2, 3, 4, 5, 1] _ _ rfl rfl rfl (cut_72 (border - 0) (by unfold shf; first | (rw [if_pos (by omega)]; omega) | (rw [if_neg (by omega)]; omega)))
        · skip
          refine v_aload_n hC 62 2 dX3_frame_61 rfl rfl rfl ?_
          refine v_get hC 65 1 0 (C := RX3) (T := TX3) (N := 4) dX3_frame_62 rfl iX3 L2 rfl rfl (by decide) rfl ?_
          refine v_iconst hC 66 dX3_frame_65 rfl ?_
          refine v_ishr1 hC 67 (wide / 2) dX3_frame_66 rfl (by omega) rfl ?_
          refine v_goto hC 71 dX3_frame_67 (by decide) ?_
          refine v_isub hC 72 (border - (wide / 2)) dX3_frame_71 rfl rfl ?_
          have cut_72 : ∀ (fs : Int), (fs = border - shf wide high border pattern y) → V p9 lx e9 ({ frames := 3, cells := 0, slots := 0, locals := 66 }) s9 m9 ar9 be9 me9 c9 Q9 D A9 s9.heap 9 0 0 [oF af fl fr ft fb, oL al wide high border pattern] [(0, .ref al), (1, .int (iI x)), (2, .int (iI y)), (3, .ref af), (4, .int (iI ((y - border) / high)))] 72 [.int (iI fs)] := by
            intro fs hfs
            refine v_istore hC 74 [(6, .int (iI fs)), (0, .ref al), (1, .int (iI x)), (2, .int (iI y)), (3, .ref af), (4, .int (iI ((y - border) / high)))] dX3_frame_72 rfl (by decide) rfl ?_
            refine v_iload hC 76 0 dX3_frame_74 rfl rfl ?_
            refine v_aload_n hC 77 1 dX3_frame_76 rfl rfl rfl ?_
            refine v_get hC 80 1 0 (C := RX3) (T := TX3) (N := 4) dX3_frame_77 rfl iX3 L2 rfl rfl (by decide) rfl ?_
            refine v_iload_n hC 81 2 dX3_frame_80 rfl rfl rfl ?_
            refine v_iload hC 83 0 dX3_frame_81 rfl rfl ?_
            refine v_isub hC 84 (x - fs) dX3_frame_83 rfl rfl ?_
            have hs9 := shf_rng (high := high) (border := border) (pattern := pattern) (y := y) hw
            refine v_callSNi hC 87 2 [] [0, 1] [oF af fl fr ft fb, oL al wide high border pattern] (As := [.int (iI wide), .int (iI (x - fs))]) (rest := [.int (iI fs)]) (c_X7_timesIn lx D cs wide (x - fs) (by omega) (by omega)) dX3_frame_84 rfl rfl gX3_frame_X7_timesIn_n31 L3 L4 RX7 (by decide +kernel) rfl rfl rfl (by decide +kernel) ⟨by decide, by decide⟩ rfl rfl rfl rfl (by decide) rfl (by decide) ⟨rfl, rfl⟩ ⟨by decide, by decide⟩ (fun z84 u84 h84 => ?_)
            dsimp only at h84
            subst h84
            have hd9 := dm_rng (t := x - fs) (w := wide) (by omega) hw.1
            have hd8 := dm_rng (t := y - border) (w := high) (by omega) hh.1
            show V p9 lx e9 ({ frames := 3, cells := 0, slots := 0, locals := 66 }) s9 m9 ar9 be9 me9 c9 Q9 D A9 s9.heap 9 0 0 [oF af fl fr ft fb, oL al wide high border pattern] [(6, .int (iI fs)), (0, .ref al), (1, .int (iI x)), (2, .int (iI y)), (3, .ref af), (4, .int (iI ((y - border) / high)))] 87 [.int (iI ((x - fs) / wide)), .int (iI fs)]
            refine v_aload_n hC 88 1 dX3_frame_87 rfl rfl rfl ?_
            refine v_get hC 91 1 0 (C := RX3) (T := TX3) (N := 4) dX3_frame_88 rfl iX3 L2 rfl rfl (by decide) rfl ?_
            refine v_imul hC 92 (((x - fs) / wide) * wide) dX3_frame_91 rfl rfl ?_
            refine v_iadd hC 93 (fs + (((x - fs) / wide) * wide)) dX3_frame_92 rfl rfl ?_
            refine v_istore hC 95 [(7, .int (iI (fs + (((x - fs) / wide) * wide)))), (6, .int (iI fs)), (0, .ref al), (1, .int (iI x)), (2, .int (iI y)), (3, .ref af), (4, .int (iI ((y - border) / high)))] dX3_frame_93 rfl (by decide) rfl ?_
            refine v_aload_n hC 96 2 dX3_frame_95 rfl rfl rfl ?_
            refine v_get hC 99 1 2 (C := RX3) (T := TX3) (N := 4) dX3_frame_96 rfl iX3 L1 rfl rfl (by decide) rfl ?_
            refine v_iload hC 101 6 dX3_frame_99 rfl rfl ?_
            refine v_aload_n hC 102 2 dX3_frame_101 rfl rfl rfl ?_
            refine v_get hC 105 1 1 (C := RX3) (T := TX3) (N := 4) dX3_frame_102 rfl iX3 L5 rfl rfl (by decide) rfl ?_
            refine v_imul hC 106 (((y - border) / high) * high) dX3_frame_105 rfl rfl ?_
            refine v_iadd hC 107 (border + (((y - border) / high) * high)) dX3_frame_106 rfl rfl ?_
            refine v_istore hC 109 [(8, .int (iI (border + (((y - border) / high) * high)))), (7, .int (iI (fs + (((x - fs) / wide) * wide)))), (6, .int (iI fs)), (0, .ref al), (1, .int (iI x)), (2, .int (iI y)), (3, .ref af), (4, .int (iI ((y - border) / high)))] dX3_frame_107 rfl (by decide) rfl ?_
            refine v_aload_n hC 110 6 dX3_frame_109 rfl rfl rfl ?_
            refine v_iload hC 112 1 dX3_frame_110 rfl rfl ?_
            refine v_aload_n hC 113 3 dX3_frame_112 rfl rfl rfl ?_
            refine v_get hC 116 1 2 (C := RX3) (T := TX3) (N := 4) dX3_frame_113 rfl iX3 L1 rfl rfl (by decide) rfl ?_
            refine v_mmax hC 119 dX3_frame_116 rfl L6 L7 L8 L9 ⟨by decide, by decide, by decide, by decide⟩ (by omega) (by omega) ?_
            refine v_iload hC 121 1 dX3_frame_119 rfl rfl ?_
            refine v_aload_n hC 122 3 dX3_frame_121 rfl rfl rfl ?_
            refine v_get hC 125 1 0 (C := RX3) (T := TX3) (N := 4) dX3_frame_122 rfl iX3 L2 rfl rfl (by decide) rfl ?_
            refine v_iadd hC 126 (fs + (((x - fs) / wide) * wide) + wide) dX3_frame_125 rfl rfl ?_
            refine v_aload_n hC 127 3 dX3_frame_126 rfl rfl rfl ?_
            refine v_callVi hC 130 0 [1] [0] [oF af fl fr ft fb] (As := []) (rest := [.int (iI (fs + (((x - fs) / wide) * wide) + wide)), .int (iI (max (fs + (((x - fs) / wide) * wide)) border)), .ref af]) (c_X3_rightBorder lx D cs al wide high border pattern ) dX3_frame_127 rfl rfl 1 rfl rfl gX3_frame_X3_rightBorder rfl rfl rfl (by decide +kernel) ⟨by decide, by decide⟩ rfl rfl rfl rfl (by decide) rfl (by decide) ⟨rfl, rfl⟩ ⟨by decide, by decide⟩ (fun z127 u127 h127 => ?_)
            dsimp only at h127
            subst h127
            show V p9 lx e9 ({ frames := 3, cells := 0, slots := 0, locals := 66 }) s9 m9 ar9 be9 me9 c9 Q9 D A9 s9.heap 9 0 0 [oF af fl fr ft fb, oL al wide high border pattern] [(8, .int (iI (border + (((y - border) / high) * high)))), (7, .int (iI (fs + (((x - fs) / wide) * wide)))), (6, .int (iI fs)), (0, .ref al), (1, .int (iI x)), (2, .int (iI y)), (3, .ref af), (4, .int (iI ((y - border) / high)))] 130 [.int (iI (12 - border)), .int (iI (fs + (((x - fs) / wide) * wide) + wide)), .int (iI (max (fs + (((x - fs) / wide) * wide)) border)), .ref af]
            refine v_mmin hC 133 dX3_frame_130 rfl L10 L11 L8 L12 ⟨by decide, by decide, by decide, by decide⟩ (by omega) (by omega) ?_
            refine v_iload hC 135 0 dX3_frame_133 rfl rfl ?_
            refine v_iload hC 137 0 dX3_frame_135 rfl rfl ?_
            refine v_aload_n hC 138 3 dX3_frame_137 rfl rfl rfl ?_
            refine v_get hC 141 1 1 (C := RX3) (T := TX3) (N := 4) dX3_frame_138 rfl iX3 L5 rfl rfl (by decide) rfl ?_
            refine v_iadd hC 142 (border + (((y - border) / high) * high) + high) dX3_frame_141 rfl rfl ?_
            refine v_aload_n hC 143 3 dX3_frame_142 rfl rfl rfl ?_
            refine v_callVi hC 146 0 [1] [0] [oF af fl fr ft fb] (As := []) (rest := [.int (iI (border + (((y - border) / high) * high) + high)), .int (iI (border + (((y - border) / high) * high))), .int (iI (min (fs + (((x - fs) / wide) * wide) + wide) (12 - border))), .int (iI (max (fs + (((x - fs) / wide) * wide)) border)), .ref af]) (c_X3_lowerBorder lx D cs al wide high border pattern ) dX3_frame_143 rfl rfl 1 rfl rfl gX3_frame_X3_lowerBorder rfl rfl rfl (by decide +kernel) ⟨by decide, by decide⟩ rfl rfl rfl rfl (by decide) rfl (by decide) ⟨rfl, rfl⟩ ⟨by decide, by decide⟩ (fun z143 u143 h143 => ?_)
            dsimp only at h143
            subst h143
            show V p9 lx e9 ({ frames := 3, cells := 0, slots := 0, locals := 66 }) s9 m9 ar9 be9 me9 c9 Q9 D A9 s9.heap 9 0 0 [oF af fl fr ft fb, oL al wide high border pattern] [(8, .int (iI (border + (((y - border) / high) * high)))), (7, .int (iI (fs + (((x - fs) / wide) * wide)))), (6, .int (iI fs)), (0, .ref al), (1, .int (iI x)), (2, .int (iI y)), (3, .ref af), (4, .int (iI ((y - border) / high)))] 146 [.int (iI (8 - border)), .int (iI (border + (((y - border) / high) * high) + high)), .int (iI (border + (((y - border) / high) * high))), .int (iI (min (fs + (((x - fs) / wide) * wide) + wide) (12 - border))), .int (iI (max (fs + (((x - fs) / wide) * wide)) border)), .ref af]
            refine v_mmin hC 149 dX3_frame_146 rfl L10 L11 L8 L12 ⟨by decide, by decide, by decide, by decide⟩ (by omega) (by omega) ?_
            refine v_callVv hC 152 4 [0] [1] [oL al wide high border pattern] (As := [.int (iI (max (fs + (((x - fs) / wide) * wide)) border)), .int (iI (min (fs + (((x - fs) / wide) * wide) + wide) (12 - border))), .int (iI (border + (((y - border) / high) * high))), .int (iI (min (border + (((y - border) / high) * high) + high) (8 - border)))]) (rest := []) (c_X2_set lx D cs af fl fr ft fb (max (fs + (((x - fs) / wide) * wide)) border) (min (fs + (((x - fs) / wide) * wide) + wide) (12 - border)) (border + (((y - border) / high) * high)) (min (border + (((y - border) / high) * high) + high) (8 - border)) ) dX3_frame_149 rfl rfl 0 rfl rfl gX3_frame_X2_set rfl rfl rfl (by decide +kernel) ⟨by decide, by decide⟩ rfl rfl rfl rfl (by decide) rfl (by decide) ⟨rfl, rfl⟩ ⟨by decide, by decide⟩ (fun u149 h149 => ?_)
            dsimp only at h149
            show V p9 lx e9 ({ frames := 3, cells := 0, slots := 0, locals := 66 }) s9 m9 ar9 be9 me9 c9 Q9 D A9 s9.heap 9 0 0 [oL al wide high border pattern, oF af (max (fs + (((x - fs) / wide) * wide)) border) (min (fs + (((x - fs) / wide) * wide) + wide) (12 - border)) (border + (((y - border) / high) * high)) (min (border + (((y - border) / high) * high) + high) (8 - border))] [(8, .int (iI (border + (((y - border) / high) * high)))), (7, .int (iI (fs + (((x - fs) / wide) * wide)))), (6, .int (iI fs)), (0, .ref al), (1, .int (iI x)), (2, .int (iI y)), (3, .ref af), (4, .int (iI ((y - border) / high)))] 152 []
            exact v_vret hC hQ (max (fs + (((x - fs) / wide) * wide)) border, min (fs + (((x - fs) / wide) * wide) + wide) (12 - border), border + (((y - border) / high) * high), min (border + (((y - border) / high) * high) + high) (8 - border)) [0, 1] dX3_frame_152 rfl rfl ⟨by decide, by decide⟩ ⟨by dsimp only; unfold fL tlL; rw [if_neg (by omega), hfs], by dsimp only; unfold fR tlL; rw [if_neg (by omega), hfs], by dsimp only; unfold fT; rw [if_neg (by omega)], by dsimp only; unfold fB; rw [if_neg (by omega)]⟩
          exact v_sub [0, 1] [2, 3, 4, 5, 1] _ _ rfl rfl rfl (cut_72 (border - (wide / 2)) (by unfold shf; first | (rw [if_pos (by omega)]; omega) | (rw [if_neg (by omega)]; omega)))
      · skip
        refine v_iconst hC 46 dX3_frame_45 rfl ?_
        refine v_goto hC 50 dX3_frame_46 (by decide) ?_
        refine v_istore hC 52 [(5, .int (iI 1)), (4, .int (iI ((y - border) / high))), (0, .ref al), (1, .int (iI x)), (2, .int (iI y)), (3, .ref af)] dX3_frame_50 rfl (by decide) rfl ?_
        refine v_aload_n hC 53 2 dX3_frame_52 rfl rfl rfl ?_
        refine v_get hC 56 1 2 (C := RX3) (T := TX3) (N := 4) dX3_frame_53 rfl iX3 L1 rfl rfl (by decide) rfl ?_
        refine v_iload hC 58 0 dX3_frame_56 rfl rfl ?_
        refine v_if_eq hC 70 61 dX3_frame_58 (by decide) rfl (by omega) (fun c_58 => ?_) (fun c_58 => ?_)
        · skip
          refine v_iconst hC 71 dX3_frame_70 rfl ?_
          refine v_isub hC 72 (border - 0) dX3_frame_71 rfl rfl ?_
          have cut_72 : ∀ (fs : Int), (fs = border - shf wide high border pattern y) → V p9 lx e9 ({ frames := 3, cells := 0, slots := 0, locals := 66 }) s9 m9 ar9 be9 me9 c9 Q9 D A9 s9.heap 9 0 0 [oF af fl fr ft fb, oL al wide high border pattern] [(0, .ref al), (1, .int (iI x)), (2, .int (iI y)), (3, .ref af), (4, .int (iI ((y - border) / high)))] 72 [.int (iI fs)] := by
            intro fs hfs
            refine v_istore hC 74 [(6, .int (iI fs)), (0, .ref al), (1, .int (iI x)), (2, .int (iI y)), (3, .ref af), (4, .int (iI ((y - border) / high)))] dX3_frame_72 rfl (by decide) rfl ?_
            refine v_iload hC 76 0 dX3_frame_74 rfl rfl ?_
            refine v_aload_n hC 77 1 dX3_frame_76 rfl rfl rfl ?_
            refine v_get hC 80 1 0 (C := RX3) (T := TX3) (N := 4) dX3_frame_77 rfl iX3 L2 rfl rfl (by decide) rfl ?_
            refine v_iload_n hC 81 2 dX3_frame_80 rfl rfl rfl ?_
            refine v_iload hC 83 0 dX3_frame_81 rfl rfl ?_
            refine v_isub hC 84 (x - fs) dX3_frame_83 rfl rfl ?_
            have hs9 := shf_rng (high := high) (border := border) (pattern := pattern) (y := y) hw
            refine v_callSNi hC 87 2 [] [0, 1] [oF af fl fr ft fb, oL al wide high border pattern] (As := [.int (iI wide), .int (iI (x - fs))]) (rest := [.int (iI fs)]) (c_X7_timesIn lx D cs wide (x - fs) (by omega) (by omega)) dX3_frame_84 rfl rfl gX3_frame_X7_timesIn_n31 L3 L4 RX7 (by decide +kernel) rfl rfl rfl (by decide +kernel) ⟨by decide, by decide⟩ rfl rfl rfl rfl (by decide) rfl (by decide) ⟨rfl, rfl⟩ ⟨by decide, by decide⟩ (fun z84 u84 h84 => ?_)
            dsimp only at h84
            subst h84
            have hd9 := dm_rng (t := x - fs) (w := wide) (by omega) hw.1
            have hd8 := dm_rng (t := y - border) (w := high) (by omega) hh.1
            show V p9 lx e9 ({ frames := 3, cells := 0, slots := 0, locals := 66 }) s9 m9 ar9 be9 me9 c9 Q9 D A9 s9.heap 9 0 0 [oF af fl fr ft fb, oL al wide high border pattern] [(6, .int (iI fs)), (0, .ref al), (1, .int (iI x)), (2, .int (iI y)), (3, .ref af), (4, .int (iI ((y - border) / high)))] 87 [.int (iI ((x - fs) / wide)), .int (iI fs)]
            refine v_aload_n hC 88 1 dX3_frame_87 rfl rfl rfl ?_
            refine v_get hC 91 1 0 (C := RX3) (T := TX3) (N := 4) dX3_frame_88 rfl iX3 L2 rfl rfl (by decide) rfl ?_
            refine v_imul hC 92 (((x - fs) / wide) * wide) dX3_frame_91 rfl rfl ?_
            refine v_iadd hC 93 (fs + (((x - fs) / wide) * wide)) dX3_frame_92 rfl rfl ?_
            refine v_istore hC 95 [(7, .int (iI (fs + (((x - fs) / wide) * wide)))), (6, .int (iI fs)), (0, .ref al), (1, .int (iI x)), (2, .int (iI y)), (3, .ref af), (4, .int (iI ((y - border) / high)))] dX3_frame_93 rfl (by decide) rfl ?_
            refine v_aload_n hC 96 2 dX3_frame_95 rfl rfl rfl ?_
            refine v_get hC 99 1 2 (C := RX3) (T := TX3) (N := 4) dX3_frame_96 rfl iX3 L1 rfl rfl (by decide) rfl ?_
            refine v_iload hC 101 6 dX3_frame_99 rfl rfl ?_
            refine v_aload_n hC 102 2 dX3_frame_101 rfl rfl rfl ?_
            refine v_get hC 105 1 1 (C := RX3) (T := TX3) (N := 4) dX3_frame_102 rfl iX3 L5 rfl rfl (by decide) rfl ?_
            refine v_imul hC 106 (((y - border) / high) * high) dX3_frame_105 rfl rfl ?_
            refine v_iadd hC 107 (border + (((y - border) / high) * high)) dX3_frame_106 rfl rfl ?_
            refine v_istore hC 109 [(8, .int (iI (border + (((y - border) / high) * high)))), (7, .int (iI (fs + (((x - fs) / wide) * wide)))), (6, .int (iI fs)), (0, .ref al), (1, .int (iI x)), (2, .int (iI y)), (3, .ref af), (4, .int (iI ((y - border) / high)))] dX3_frame_107 rfl (by decide) rfl ?_
            refine v_aload_n hC 110 6 dX3_frame_109 rfl rfl rfl ?_
            refine v_iload hC 112 1 dX3_frame_110 rfl rfl ?_
            refine v_aload_n hC 113 3 dX3_frame_112 rfl rfl rfl ?_
            refine v_get hC 116 1 2 (C := RX3) (T := TX3) (N := 4) dX3_frame_113 rfl iX3 L1 rfl rfl (by decide) rfl ?_
            refine v_mmax hC 119 dX3_frame_116 rfl L6 L7 L8 L9 ⟨by decide, by decide, by decide, by decide⟩ (by omega) (by omega) ?_
            refine v_iload hC 121 1 dX3_frame_119 rfl rfl ?_
            refine v_aload_n hC 122 3 dX3_frame_121 rfl rfl rfl ?_
            refine v_get hC 125 1 0 (C := RX3) (T := TX3) (N := 4) dX3_frame_122 rfl iX3 L2 rfl rfl (by decide) rfl ?_
            refine v_iadd hC 126 (fs + (((x - fs) / wide) * wide) + wide) dX3_frame_125 rfl rfl ?_
            refine v_aload_n hC 127 3 dX3_frame_126 rfl rfl rfl ?_
            refine v_callVi hC 130 0 [1] [0] [oF af fl fr ft fb] (As := []) (rest := [.int (iI (fs + (((x - fs) / wide) * wide) + wide)), .int (iI (max (fs + (((x - fs) / wide) * wide)) border)), .ref af]) (c_X3_rightBorder lx D cs al wide high border pattern ) dX3_frame_127 rfl rfl 1 rfl rfl gX3_frame_X3_rightBorder rfl rfl rfl (by decide +kernel) ⟨by decide, by decide⟩ rfl rfl rfl rfl (by decide) rfl (by decide) ⟨rfl, rfl⟩ ⟨by decide, by decide⟩ (fun z127 u127 h127 => ?_)
            dsimp only at h127
            subst h127
            show V p9 lx e9 ({ frames := 3, cells := 0, slots := 0, locals := 66 }) s9 m9 ar9 be9 me9 c9 Q9 D A9 s9.heap 9 0 0 [oF af fl fr ft fb, oL al wide high border pattern] [(8, .int (iI (border + (((y - border) / high) * high)))), (7, .int (iI (fs + (((x - fs) / wide) * wide)))), (6, .int (iI fs)), (0, .ref al), (1, .int (iI x)), (2, .int (iI y)), (3, .ref af), (4, .int (iI ((y - border) / high)))] 130 [.int (iI (12 - border)), .int (iI (fs + (((x - fs) / wide) * wide) + wide)), .int (iI (max (fs + (((x - fs) / wide) * wide)) border)), .ref af]
            refine v_mmin hC 133 dX3_frame_130 rfl L10 L11 L8 L12 ⟨by decide, by decide, by decide, by decide⟩ (by omega) (by omega) ?_
            refine v_iload hC 135 0 dX3_frame_133 rfl rfl ?_
            refine v_iload hC 137 0 dX3_frame_135 rfl rfl ?_
            refine v_aload_n hC 138 3 dX3_frame_137 rfl rfl rfl ?_
            refine v_get hC 141 1 1 (C := RX3) (T := TX3) (N := 4) dX3_frame_138 rfl iX3 L5 rfl rfl (by decide) rfl ?_
            refine v_iadd hC 142 (border + (((y - border) / high) * high) + high) dX3_frame_141 rfl rfl ?_
            refine v_aload_n hC 143 3 dX3_frame_142 rfl rfl rfl ?_
            refine v_callVi hC 146 0 [1] [0] [oF af fl fr ft fb] (As := []) (rest := [.int (iI (border + (((y - border) / high) * high) + high)), .int (iI (border + (((y - border) / high) * high))), .int (iI (min (fs + (((x - fs) / wide) * wide) + wide) (12 - border))), .int (iI (max (fs + (((x - fs) / wide) * wide)) border)), .ref af]) (c_X3_lowerBorder lx D cs al wide high border pattern ) dX3_frame_143 rfl rfl 1 rfl rfl gX3_frame_X3_lowerBorder rfl rfl rfl (by decide +kernel) ⟨by decide, by decide⟩ rfl rfl rfl rfl (by decide) rfl (by decide) ⟨rfl, rfl⟩ ⟨by decide, by decide⟩ (fun z143 u143 h143 => ?_)
            dsimp only at h143
            subst h143
            show V p9 lx e9 ({ frames := 3, cells := 0, slots := 0, locals := 66 }) s9 m9 ar9 be9 me9 c9 Q9 D A9 s9.heap 9 0 0 [oF af fl fr ft fb, oL al wide high border pattern] [(8, .int (iI (border + (((y - border) / high) * high)))), (7, .int (iI (fs + (((x - fs) / wide) * wide)))), (6, .int (iI fs)), (0, .ref al), (1, .int (iI x)), (2, .int (iI y)), (3, .ref af), (4, .int (iI ((y - border) / high)))] 146 [.int (iI (8 - border)), .int (iI (border + (((y - border) / high) * high) + high)), .int (iI (border + (((y - border) / high) * high))), .int (iI (min (fs + (((x - fs) / wide) * wide) + wide) (12 - border))), .int (iI (max (fs + (((x - fs) / wide) * wide)) border)), .ref af]
            refine v_mmin hC 149 dX3_frame_146 rfl L10 L11 L8 L12 ⟨by decide, by decide, by decide, by decide⟩ (by omega) (by omega) ?_
            refine v_callVv hC 152 4 [0] [1] [oL al wide high border pattern] (As := [.int (iI (max (fs + (((x - fs) / wide) * wide)) border)), .int (iI (min (fs + (((x - fs) / wide) * wide) + wide) (12 - border))), .int (iI (border + (((y - border) / high) * high))), .int (iI (min (border + (((y - border) / high) * high) + high) (8 - border)))]) (rest := []) (c_X2_set lx D cs af fl fr ft fb (max (fs + (((x - fs) / wide) * wide)) border) (min (fs + (((x - fs) / wide) * wide) + wide) (12 - border)) (border + (((y - border) / high) * high)) (min (border + (((y - border) / high) * high) + high) (8 - border)) ) dX3_frame_149 rfl rfl 0 rfl rfl gX3_frame_X2_set rfl rfl rfl (by decide +kernel) ⟨by decide, by decide⟩ rfl rfl rfl rfl (by decide) rfl (by decide) ⟨rfl, rfl⟩ ⟨by decide, by decide⟩ (fun u149 h149 => ?_)
            dsimp only at h149
            show V p9 lx e9 ({ frames := 3, cells := 0, slots := 0, locals := 66 }) s9 m9 ar9 be9 me9 c9 Q9 D A9 s9.heap 9 0 0 [oL al wide high border pattern, oF af (max (fs + (((x - fs) / wide) * wide)) border) (min (fs + (((x - fs) / wide) * wide) + wide) (12 - border)) (border + (((y - border) / high) * high)) (min (border + (((y - border) / high) * high) + high) (8 - border))] [(8, .int (iI (border + (((y - border) / high) * high)))), (7, .int (iI (fs + (((x - fs) / wide) * wide)))), (6, .int (iI fs)), (0, .ref al), (1, .int (iI x)), (2, .int (iI y)), (3, .ref af), (4, .int (iI ((y - border) / high)))] 152 []
            exact v_vret hC hQ (max (fs + (((x - fs) / wide) * wide)) border, min (fs + (((x - fs) / wide) * wide) + wide) (12 - border), border + (((y - border) / high) * high), min (border + (((y - border) / high) * high) + high) (8 - border)) [0, 1] dX3_frame_152 rfl rfl ⟨by decide, by decide⟩ ⟨by dsimp only; unfold fL tlL; rw [if_neg (by omega), hfs], by dsimp only; unfold fR tlL; rw [if_neg (by omega), hfs], by dsimp only; unfold fT; rw [if_neg (by omega)], by dsimp only; unfold fB; rw [if_neg (by omega)]⟩
          exact v_sub [0, 1] [2, 3, 4, 5, 1] _ _ rfl rfl rfl (cut_72 (border - 0) (by unfold shf; first | (rw [if_pos (by omega)]; omega) | (rw [if_neg (by omega)]; omega)))
        · skip
          refine v_aload_n hC 62 2 dX3_frame_61 rfl rfl rfl ?_
          refine v_get hC 65 1 0 (C := RX3) (T := TX3) (N := 4) dX3_frame_62 rfl iX3 L2 rfl rfl (by decide) rfl ?_
          refine v_iconst hC 66 dX3_frame_65 rfl ?_
          refine v_ishr1 hC 67 (wide / 2) dX3_frame_66 rfl (by omega) rfl ?_
          refine v_goto hC 71 dX3_frame_67 (by decide) ?_
          refine v_isub hC 72 (border - (wide / 2)) dX3_frame_71 rfl rfl ?_
          have cut_72 : ∀ (fs : Int), (fs = border - shf wide high border pattern y) → V p9 lx e9 ({ frames := 3, cells := 0, slots := 0, locals := 66 }) s9 m9 ar9 be9 me9 c9 Q9 D A9 s9.heap 9 0 0 [oF af fl fr ft fb, oL al wide high border pattern] [(0, .ref al), (1, .int (iI x)), (2, .int (iI y)), (3, .ref af), (4, .int (iI ((y - border) / high)))] 72 [.int (iI fs)] := by
            intro fs hfs
            refine v_istore hC 74 [(6, .int (iI fs)), (0, .ref al), (1, .int (iI x)), (2, .int (iI y)), (3, .ref af), (4, .int (iI ((y - border) / high)))] dX3_frame_72 rfl (by decide) rfl ?_
            refine v_iload hC 76 0 dX3_frame_74 rfl rfl ?_
            refine v_aload_n hC 77 1 dX3_frame_76 rfl rfl rfl ?_
            refine v_get hC 80 1 0 (C := RX3) (T := TX3) (N := 4) dX3_frame_77 rfl iX3 L2 rfl rfl (by decide) rfl ?_
            refine v_iload_n hC 81 2 dX3_frame_80 rfl rfl rfl ?_
            refine v_iload hC 83 0 dX3_frame_81 rfl rfl ?_
            refine v_isub hC 84 (x - fs) dX3_frame_83 rfl rfl ?_
            have hs9 := shf_rng (high := high) (border := border) (pattern := pattern) (y := y) hw
            refine v_callSNi hC 87 2 [] [0, 1] [oF af fl fr ft fb, oL al wide high border pattern] (As := [.int (iI wide), .int (iI (x - fs))]) (rest := [.int (iI fs)]) (c_X7_timesIn lx D cs wide (x - fs) (by omega) (by omega)) dX3_frame_84 rfl rfl gX3_frame_X7_timesIn_n31 L3 L4 RX7 (by decide +kernel) rfl rfl rfl (by decide +kernel) ⟨by decide, by decide⟩ rfl rfl rfl rfl (by decide) rfl (by decide) ⟨rfl, rfl⟩ ⟨by decide, by decide⟩ (fun z84 u84 h84 => ?_)
            dsimp only at h84
            subst h84
            have hd9 := dm_rng (t := x - fs) (w := wide) (by omega) hw.1
            have hd8 := dm_rng (t := y - border) (w := high) (by omega) hh.1
            show V p9 lx e9 ({ frames := 3, cells := 0, slots := 0, locals := 66 }) s9 m9 ar9 be9 me9 c9 Q9 D A9 s9.heap 9 0 0 [oF af fl fr ft fb, oL al wide high border pattern] [(6, .int (iI fs)), (0, .ref al), (1, .int (iI x)), (2, .int (iI y)), (3, .ref af), (4, .int (iI ((y - border) / high)))] 87 [.int (iI ((x - fs) / wide)), .int (iI fs)]
            refine v_aload_n hC 88 1 dX3_frame_87 rfl rfl rfl ?_
            refine v_get hC 91 1 0 (C := RX3) (T := TX3) (N := 4) dX3_frame_88 rfl iX3 L2 rfl rfl (by decide) rfl ?_
            refine v_imul hC 92 (((x - fs) / wide) * wide) dX3_frame_91 rfl rfl ?_
            refine v_iadd hC 93 (fs + (((x - fs) / wide) * wide)) dX3_frame_92 rfl rfl ?_
            refine v_istore hC 95 [(7, .int (iI (fs + (((x - fs) / wide) * wide)))), (6, .int (iI fs)), (0, .ref al), (1, .int (iI x)), (2, .int (iI y)), (3, .ref af), (4, .int (iI ((y - border) / high)))] dX3_frame_93 rfl (by decide) rfl ?_
            refine v_aload_n hC 96 2 dX3_frame_95 rfl rfl rfl ?_
            refine v_get hC 99 1 2 (C := RX3) (T := TX3) (N := 4) dX3_frame_96 rfl iX3 L1 rfl rfl (by decide) rfl ?_
            refine v_iload hC 101 6 dX3_frame_99 rfl rfl ?_
            refine v_aload_n hC 102 2 dX3_frame_101 rfl rfl rfl ?_
            refine v_get hC 105 1 1 (C := RX3) (T := TX3) (N := 4) dX3_frame_102 rfl iX3 L5 rfl rfl (by decide) rfl ?_
            refine v_imul hC 106 (((y - border) / high) * high) dX3_frame_105 rfl rfl ?_
            refine v_iadd hC 107 (border + (((y - border) / high) * high)) dX3_frame_106 rfl rfl ?_
            refine v_istore hC 109 [(8, .int (iI (border + (((y - border) / high) * high)))), (7, .int (iI (fs + (((x - fs) / wide) * wide)))), (6, .int (iI fs)), (0, .ref al), (1, .int (iI x)), (2, .int (iI y)), (3, .ref af), (4, .int (iI ((y - border) / high)))] dX3_frame_107 rfl (by decide) rfl ?_
            refine v_aload_n hC 110 6 dX3_frame_109 rfl rfl rfl ?_
            refine v_iload hC 112 1 dX3_frame_110 rfl rfl ?_
            refine v_aload_n hC 113 3 dX3_frame_112 rfl rfl rfl ?_
            refine v_get hC 116 1 2 (C := RX3) (T := TX3) (N := 4) dX3_frame_113 rfl iX3 L1 rfl rfl (by decide) rfl ?_
            refine v_mmax hC 119 dX3_frame_116 rfl L6 L7 L8 L9 ⟨by decide, by decide, by decide, by decide⟩ (by omega) (by omega) ?_
            refine v_iload hC 121 1 dX3_frame_119 rfl rfl ?_
            refine v_aload_n hC 122 3 dX3_frame_121 rfl rfl rfl ?_
            refine v_get hC 125 1 0 (C := RX3) (T := TX3) (N := 4) dX3_frame_122 rfl iX3 L2 rfl rfl (by decide) rfl ?_
            refine v_iadd hC 126 (fs + (((x - fs) / wide) * wide) + wide) dX3_frame_125 rfl rfl ?_
            refine v_aload_n hC 127 3 dX3_frame_126 rfl rfl rfl ?_
            refine v_callVi hC 130 0 [1] [0] [oF af fl fr ft fb] (As := []) (rest := [.int (iI (fs + (((x - fs) / wide) * wide) + wide)), .int (iI (max (fs + (((x - fs) / wide) * wide)) border)), .ref af]) (c_X3_rightBorder lx D cs al wide high border pattern ) dX3_frame_127 rfl rfl 1 rfl rfl gX3_frame_X3_rightBorder rfl rfl rfl (by decide +kernel) ⟨by decide, by decide⟩ rfl rfl rfl rfl (by decide) rfl (by decide) ⟨rfl, rfl⟩ ⟨by decide, by decide⟩ (fun z127 u127 h127 => ?_)
            dsimp only at h127
            subst h127
            show V p9 lx e9 ({ frames := 3, cells := 0, slots := 0, locals := 66 }) s9 m9 ar9 be9 me9 c9 Q9 D A9 s9.heap 9 0 0 [oF af fl fr ft fb, oL al wide high border pattern] [(8, .int (iI (border + (((y - border) / high) * high)))), (7, .int (iI (fs + (((x - fs) / wide) * wide)))), (6, .int (iI fs)), (0, .ref al), (1, .int (iI x)), (2, .int (iI y)), (3, .ref af), (4, .int (iI ((y - border) / high)))] 130 [.int (iI (12 - border)), .int (iI (fs + (((x - fs) / wide) * wide) + wide)), .int (iI (max (fs + (((x - fs) / wide) * wide)) border)), .ref af]
            refine v_mmin hC 133 dX3_frame_130 rfl L10 L11 L8 L12 ⟨by decide, by decide, by decide, by decide⟩ (by omega) (by omega) ?_
            refine v_iload hC 135 0 dX3_frame_133 rfl rfl ?_
            refine v_iload hC 137 0 dX3_frame_135 rfl rfl ?_
            refine v_aload_n hC 138 3 dX3_frame_137 rfl rfl rfl ?_
            refine v_get hC 141 1 1 (C := RX3) (T := TX3) (N := 4) dX3_frame_138 rfl iX3 L5 rfl rfl (by decide) rfl ?_
            refine v_iadd hC 142 (border + (((y - border) / high) * high) + high) dX3_frame_141 rfl rfl ?_
            refine v_aload_n hC 143 3 dX3_frame_142 rfl rfl rfl ?_
            refine v_callVi hC 146 0 [1] [0] [oF af fl fr ft fb] (As := []) (rest := [.int (iI (border + (((y - border) / high) * high) + high)), .int (iI (border + (((y - border) / high) * high))), .int (iI (min (fs + (((x - fs) / wide) * wide) + wide) (12 - border))), .int (iI (max (fs + (((x - fs) / wide) * wide)) border)), .ref af]) (c_X3_lowerBorder lx D cs al wide high border pattern ) dX3_frame_143 rfl rfl 1 rfl rfl gX3_frame_X3_lowerBorder rfl rfl rfl (by decide +kernel) ⟨by decide, by decide⟩ rfl rfl rfl rfl (by decide) rfl (by decide) ⟨rfl, rfl⟩ ⟨by decide, by decide⟩ (fun z143 u143 h143 => ?_)
            dsimp only at h143
            subst h143
            show V p9 lx e9 ({ frames := 3, cells := 0, slots := 0, locals := 66 }) s9 m9 ar9 be9 me9 c9 Q9 D A9 s9.heap 9 0 0 [oF af fl fr ft fb, oL al wide high border pattern] [(8, .int (iI (border + (((y - border) / high) * high)))), (7, .int (iI (fs + (((x - fs) / wide) * wide)))), (6, .int (iI fs)), (0, .ref al), (1, .int (iI x)), (2, .int (iI y)), (3, .ref af), (4, .int (iI ((y - border) / high)))] 146 [.int (iI (8 - border)), .int (iI (border + (((y - border) / high) * high) + high)), .int (iI (border + (((y - border) / high) * high))), .int (iI (min (fs + (((x - fs) / wide) * wide) + wide) (12 - border))), .int (iI (max (fs + (((x - fs) / wide) * wide)) border)), .ref af]
            refine v_mmin hC 149 dX3_frame_146 rfl L10 L11 L8 L12 ⟨by decide, by decide, by decide, by decide⟩ (by omega) (by omega) ?_
            refine v_callVv hC 152 4 [0] [1] [oL al wide high border pattern] (As := [.int (iI (max (fs + (((x - fs) / wide) * wide)) border)), .int (iI (min (fs + (((x - fs) / wide) * wide) + wide) (12 - border))), .int (iI (border + (((y - border) / high) * high))), .int (iI (min (border + (((y - border) / high) * high) + high) (8 - border)))]) (rest := []) (c_X2_set lx D cs af fl fr ft fb (max (fs + (((x - fs) / wide) * wide)) border) (min (fs + (((x - fs) / wide) * wide) + wide) (12 - border)) (border + (((y - border) / high) * high)) (min (border + (((y - border) / high) * high) + high) (8 - border)) ) dX3_frame_149 rfl rfl 0 rfl rfl gX3_frame_X2_set rfl rfl rfl (by decide +kernel) ⟨by decide, by decide⟩ rfl rfl rfl rfl (by decide) rfl (by decide) ⟨rfl, rfl⟩ ⟨by decide, by decide⟩ (fun u149 h149 => ?_)
            dsimp only at h149
            show V p9 lx e9 ({ frames := 3, cells := 0, slots := 0, locals := 66 }) s9 m9 ar9 be9 me9 c9 Q9 D A9 s9.heap 9 0 0 [oL al wide high border pattern, oF af (max (fs + (((x - fs) / wide) * wide)) border) (min (fs + (((x - fs) / wide) * wide) + wide) (12 - border)) (border + (((y - border) / high) * high)) (min (border + (((y - border) / high) * high) + high) (8 - border))] [(8, .int (iI (border + (((y - border) / high) * high)))), (7, .int (iI (fs + (((x - fs) / wide) * wide)))), (6, .int (iI fs)), (0, .ref al), (1, .int (iI x)), (2, .int (iI y)), (3, .ref af), (4, .int (iI ((y - border) / high)))] 152 []
            exact v_vret hC hQ (max (fs + (((x - fs) / wide) * wide)) border, min (fs + (((x - fs) / wide) * wide) + wide) (12 - border), border + (((y - border) / high) * high), min (border + (((y - border) / high) * high) + high) (8 - border)) [0, 1] dX3_frame_152 rfl rfl ⟨by decide, by decide⟩ ⟨by dsimp only; unfold fL tlL; rw [if_neg (by omega), hfs], by dsimp only; unfold fR tlL; rw [if_neg (by omega), hfs], by dsimp only; unfold fT; rw [if_neg (by omega)], by dsimp only; unfold fB; rw [if_neg (by omega)]⟩
          exact v_sub [0, 1] [2, 3, 4, 5, 1] _ _ rfl rfl rfl (cut_72 (border - (wide / 2)) (by unfold shf; first | (rw [if_pos (by omega)]; omega) | (rw [if_neg (by omega)]; omega)))
  · skip
    refine v_aload_n hC 10 3 dX3_frame_9 rfl rfl rfl ?_
    refine v_iload_n hC 11 1 dX3_frame_10 rfl rfl rfl ?_
    refine v_iload_n hC 12 1 dX3_frame_11 rfl rfl rfl ?_
    refine v_iconst hC 13 dX3_frame_12 rfl ?_
    refine v_iadd hC 14 (x + 1) dX3_frame_13 rfl rfl ?_
    refine v_iload_n hC 15 2 dX3_frame_14 rfl rfl rfl ?_
    refine v_iload_n hC 16 2 dX3_frame_15 rfl rfl rfl ?_
    refine v_iconst hC 17 dX3_frame_16 rfl ?_
    refine v_iadd hC 18 (y + 1) dX3_frame_17 rfl rfl ?_
    refine v_callVv hC 21 4 [0] [1] [oL al wide high border pattern] (As := [.int (iI x), .int (iI (x + 1)), .int (iI y), .int (iI (y + 1))]) (rest := []) (c_X2_set lx D cs af fl fr ft fb x (x + 1) y (y + 1) ) dX3_frame_18 rfl rfl 0 rfl rfl gX3_frame_X2_set rfl rfl rfl (by decide +kernel) ⟨by decide, by decide⟩ rfl rfl rfl rfl (by decide) rfl (by decide) ⟨rfl, rfl⟩ ⟨by decide, by decide⟩ (fun u18 h18 => ?_)
    dsimp only at h18
    show V p9 lx e9 ({ frames := 3, cells := 0, slots := 0, locals := 66 }) s9 m9 ar9 be9 me9 c9 Q9 D A9 s9.heap 9 0 0 [oL al wide high border pattern, oF af x (x + 1) y (y + 1)] [(0, .ref al), (1, .int (iI x)), (2, .int (iI y)), (3, .ref af)] 21 []
    exact v_vret hC hQ (x, x + 1, y, y + 1) [0, 1] dX3_frame_21 rfl rfl ⟨by decide, by decide⟩ ⟨by dsimp only; unfold fL; rw [if_pos (by omega)], by dsimp only; unfold fR; rw [if_pos (by omega)], by dsimp only; unfold fT; rw [if_pos (by omega)], by dsimp only; unfold fB; rw [if_pos (by omega)]⟩
end
section
theorem zz_t : True := trivial
end

/-! THE WALK'S OWN KIT: whole numbers under Int32 (iI), rows as functions on whole numbers (aI, uI), a judgement V over worlds and listed locals, a row an instruction -/
section VK1
def iI (z : Int) : Int32 := Int32.ofInt z
def aI (g : Int → Int) : Nat → Int32 := fun j => iI (g (j : Int))
def uI (g : Int → Int) (k v : Int) : Int → Int := fun j => if j = k then v else g j
def lI (z : Int) : Int64 := Int64.ofInt z
def bI (g : Int → Int) : Nat → Int64 := fun j => lI (g (j : Int))
theorem iI_toInt {z : Int} (h : -2147483648 ≤ z ∧ z < 2147483648) : (iI z).toInt = z := Int32.toInt_ofInt_of_le (by omega) (by omega)
theorem iI_of (x : Int32) : x = iI x.toInt := (Int32.ofInt_toInt x).symm
theorem iI_rng (x : Int32) : -2147483648 ≤ x.toInt ∧ x.toInt < 2147483648 := ⟨by have := x.le_toInt; omega, by have := x.toInt_lt; omega⟩
theorem iI_add (a b : Int) : iI a + iI b = iI (a + b) := (Int32.ofInt_add a b).symm
theorem iI_sub (a b : Int) : iI a - iI b = iI (a - b) := (Int32.ofInt_sub a b).symm
theorem iI_mul (a b : Int) : iI a * iI b = iI (a * b) := (Int32.ofInt_mul a b).symm
theorem iI_lt {a b : Int} (ha : -2147483648 ≤ a ∧ a < 2147483648) (hb : -2147483648 ≤ b ∧ b < 2147483648) : iI a < iI b ↔ a < b := by
  rw [Int32.lt_iff_toInt_lt, iI_toInt ha, iI_toInt hb]
theorem iI_le {a b : Int} (ha : -2147483648 ≤ a ∧ a < 2147483648) (hb : -2147483648 ≤ b ∧ b < 2147483648) : iI a ≤ iI b ↔ a ≤ b := by
  rw [Int32.le_iff_toInt_le, iI_toInt ha, iI_toInt hb]
theorem iI_eq {a b : Int} (ha : -2147483648 ≤ a ∧ a < 2147483648) (hb : -2147483648 ≤ b ∧ b < 2147483648) : iI a = iI b ↔ a = b := by
  rw [← Int32.toInt_inj, iI_toInt ha, iI_toInt hb]
theorem iI_0 : (0 : Int32) = iI 0 := rfl
theorem iI_div {a b : Int} (ha : 0 ≤ a ∧ a < 2147483648) (hb : 0 < b ∧ b < 2147483648) : iI a / iI b = iI (a / b) := by
  have hm : Int32.minValue.toInt = -2147483648 := by decide
  have hM : Int32.maxValue.toInt = 2147483647 := by decide
  have h := Int32.ofInt_tdiv (a := a) (b := b) (by omega) (by omega) (by omega) (by omega)
  rw [Int.tdiv_eq_ediv_of_nonneg ha.1] at h
  exact h.symm
theorem iI_rem {a b : Int} (ha : 0 ≤ a ∧ a < 2147483648) (hb : 0 < b ∧ b < 2147483648) : iI a - iI a / iI b * iI b = iI (a % b) := by
  rw [iI_div ha hb, iI_mul, iI_sub, Int.emod_def, Int.mul_comm]
theorem iI_nat {n : Nat} : iI (n : Int) = nI n := Int32.ofInt_eq_ofNat
theorem iI_clamp {z : Int} (h : 0 ≤ z ∧ z < 2147483648) : (iI z).toNatClampNeg = z.toNat := Int32.toNatClampNeg_ofInt_of_le (by omega) (by omega)
theorem iI_in {z : Int} {n : Nat} (h : 0 ≤ z ∧ z < (n : Int)) (hn : n < 2147483648) : vp_in (iI z) n := by
  rw [vp_in_iff, iI_toInt (by omega)]; omega
theorem aI_get {g : Int → Int} {z : Int} (h : 0 ≤ z ∧ z < 2147483648) : aI g (iI z).toNatClampNeg = iI (g z) := by
  rw [iI_clamp h]; unfold aI; rw [Int.toNat_of_nonneg h.1]
theorem aI_upd {g : Int → Int} {z v : Int} (h : 0 ≤ z ∧ z < 2147483648) : upd (aI g) (iI z).toNatClampNeg (iI v) = aI (uI g z v) := by
  rw [iI_clamp h]
  funext j
  unfold upd aI uI
  by_cases hj : j = z.toNat
  · rw [if_pos hj, if_pos (by omega)]
  · rw [if_neg hj, if_neg (by omega)]
theorem bI_get {g : Int → Int} {z : Int} (h : 0 ≤ z ∧ z < 2147483648) : bI g (iI z).toNatClampNeg = lI (g z) := by
  rw [iI_clamp h]; unfold bI; rw [Int.toNat_of_nonneg h.1]
theorem bI_upd {g : Int → Int} {z v : Int} (h : 0 ≤ z ∧ z < 2147483648) : vp_updL (bI g) (iI z).toNatClampNeg (lI v) = bI (uI g z v) := by
  rw [iI_clamp h]
  funext j
  unfold vp_updL bI uI
  by_cases hj : j = z.toNat
  · rw [if_pos hj, if_pos (by omega)]
  · rw [if_neg hj, if_neg (by omega)]
theorem lI_of {z : Int} (h : -2147483648 ≤ z ∧ z < 2147483648) : (iI z).toInt64 = lI z := by
  apply Int64.toInt_inj.mp
  rw [Int32.toInt_toInt64, iI_toInt h]
  exact (Int64.toInt_ofInt_of_le (by omega) (by omega)).symm
theorem lI_toInt {z : Int} (h : -2147483648 ≤ z ∧ z < 2147483648) : (lI z).toInt = z := Int64.toInt_ofInt_of_le (by omega) (by omega)
theorem lI_cmp {a b : Int} (ha : -2147483648 ≤ a ∧ a < 2147483648) (hb : -2147483648 ≤ b ∧ b < 2147483648) : lg_cmp (lI a) (lI b) = iI (if b < a then 1 else if a = b then 0 else -1) := by
  have h1 : (lI a > lI b) ↔ b < a := by
    show lI b < lI a ↔ b < a
    rw [Int64.lt_iff_toInt_lt, lI_toInt ha, lI_toInt hb]
  have h2 : lI a = lI b ↔ a = b := by rw [← Int64.toInt_inj, lI_toInt ha, lI_toInt hb]
  unfold lg_cmp
  by_cases c1 : b < a
  · rw [if_pos (h1.mpr c1), if_pos c1]; rfl
  · rw [if_neg (fun h => c1 (h1.mp h)), if_neg c1]
    by_cases c2 : a = b
    · rw [if_pos (h2.mpr c2), if_pos c2]; rfl
    · rw [if_neg (fun h => c2 (h2.mp h)), if_neg c2]; rfl
theorem iI_01 {z : Int} (h : z = 0 ∨ z = 1) : narrow .boolean (.int (iI z)) = .int (iI z) := by rcases h with rfl | rfl <;> rfl
theorem iI_nar01 {z : Int} (h : z = 0 ∨ z = 1) : vp_nar .boolean (iI z) = iI z := by rcases h with rfl | rfl <;> rfl
theorem iI_bv {z : Int} : (iI z).toBitVec.toNat = (z % 4294967296).toNat := by
  show (BitVec.ofInt 32 z).toNat = _
  rw [BitVec.toNat_ofInt]
  rfl
theorem iI_and {z : Int} {m : Int32} (k : Nat) (N : Int) (hk : k ≤ 31) (hm : m.toBitVec.toNat = 2 ^ k - 1) (hN : ((2 ^ k : Nat) : Int) = N) : iI z &&& m = iI (z % N) := by
  rw [pk_and (iI z) k hm, iI_bv, ← iI_nat]
  congr 1
  subst hN
  have h0 : 0 ≤ z % 4294967296 := Int.emod_nonneg _ (by decide)
  rw [Int.natCast_emod, Int.toNat_of_nonneg h0]
  have hd : ((2 ^ k : Nat) : Int) ∣ 4294967296 := by
    refine ⟨((2 ^ (32 - k) : Nat) : Int), ?_⟩
    rw [← Int.natCast_mul, ← Nat.pow_add, show k + (32 - k) = 32 by omega]
    rfl
  exact Int.emod_emod_of_dvd _ hd
theorem iI_shr1 {z : Int} (h : 0 ≤ z ∧ z < 2147483648) : iI z >>> (iI 1 &&& 31) = iI (z / 2) := by
  obtain ⟨n, rfl⟩ : ∃ n : Nat, z = n := ⟨z.toNat, by omega⟩
  rw [iI_nat, pk_shrN (by omega) (iI 1 &&& 31) 1 (by decide), ← iI_nat]
  rfl
theorem iI_or {a b : Int} (ha : a = 0 ∨ a = 1) (hb : b = 0 ∨ b = 1) : iI a ||| iI b = iI (max a b) := by
  rcases ha with rfl | rfl <;> rcases hb with rfl | rfl <;> rfl
theorem uI_eq (g : Int → Int) (k v : Int) : uI g k v k = v := by unfold uI; rw [if_pos rfl]
theorem uI_ne (g : Int → Int) {k j : Int} (v : Int) (h : j ≠ k) : uI g k v j = g j := by unfold uI; rw [if_neg h]
end VK1

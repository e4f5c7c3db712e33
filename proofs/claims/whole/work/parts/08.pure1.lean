section VPURE
/-! the floor's numbers -/
def cC (high border : Int) : Int := (7 - 2 * border) / high + 1
def nS (high border : Int) : Int := 2 * border + cC high border
def sR (high border y : Int) : Int := if y < border then y else if 8 - border ≤ y then border + cC high border + y - (8 - border) else border + (y - border) / high
def shf (wide high border pattern y : Int) : Int := if pattern = 1 ∧ (y - border) / high % 2 = 1 then wide / 2 else 0
abbrev egd (border x y : Int) : Prop := x < border ∨ 12 - border ≤ x ∨ y < border ∨ 8 - border ≤ y
def tlL (wide high border pattern x y : Int) : Int := (border - shf wide high border pattern y) + (x - (border - shf wide high border pattern y)) / wide * wide
def fL (wide high border pattern x y : Int) : Int := if egd border x y then x else max (tlL wide high border pattern x y) border
def fR (wide high border pattern x y : Int) : Int := if egd border x y then x + 1 else min (tlL wide high border pattern x y + wide) (12 - border)
def fT (wide high border pattern x y : Int) : Int := if egd border x y then y else border + (y - border) / high * high
def fB (wide high border pattern x y : Int) : Int := if egd border x y then y + 1 else min (border + (y - border) / high * high + high) (8 - border)
theorem one4 {a : Int} (h : 1 ≤ a ∧ a ≤ 4) : a = 1 ∨ a = 2 ∨ a = 3 ∨ a = 4 := by omega
theorem dm_rng {t w : Int} (h0 : 0 ≤ t) (hw : 1 ≤ w) : 0 ≤ t / w ∧ t / w ≤ t ∧ t / w * w ≤ t ∧ t < t / w * w + w ∧ 0 ≤ t / w * w := by
  have h1 := Int.ediv_mul_le t (show w ≠ 0 by omega)
  have h2 := Int.lt_ediv_add_one_mul_self t (show 0 < w by omega)
  rw [Int.add_mul, Int.one_mul] at h2
  have h3 : 0 ≤ t / w := Int.ediv_nonneg h0 (by omega)
  have h4 : 0 ≤ t / w * w := Int.mul_nonneg h3 (by omega)
  have h5 : t / w ≤ t := Int.ediv_le_self w h0
  exact ⟨h3, h5, h1, h2, h4⟩
theorem cC_rng {high border : Int} (hh : 1 ≤ high ∧ high ≤ 4) (hb : 0 ≤ border ∧ border ≤ 2) : 1 ≤ cC high border ∧ cC high border ≤ 8 - 2 * border := by
  unfold cC
  rcases one4 hh with rfl | rfl | rfl | rfl <;> omega
theorem nS_rng {high border : Int} (hh : 1 ≤ high ∧ high ≤ 4) (hb : 0 ≤ border ∧ border ≤ 2) : 1 ≤ nS high border ∧ nS high border ≤ 8 := by
  have := cC_rng hh hb
  unfold nS
  omega
theorem sR_rng {high border y : Int} (hh : 1 ≤ high ∧ high ≤ 4) (hb : 0 ≤ border ∧ border ≤ 2) (hy : 0 ≤ y ∧ y < 8) : 0 ≤ sR high border y ∧ sR high border y < nS high border := by
  unfold sR nS cC
  rcases one4 hh with rfl | rfl | rfl | rfl <;> (by_cases h1 : y < border <;> by_cases h2 : 8 - border ≤ y <;> simp only [h1, h2, if_true, if_false] <;> omega)
theorem shf_rng {wide high border pattern y : Int} (hw : 1 ≤ wide ∧ wide ≤ 4) : 0 ≤ shf wide high border pattern y ∧ shf wide high border pattern y ≤ 2 ∧ shf wide high border pattern y < wide := by
  unfold shf
  split <;> omega
theorem frame_rng {wide high border pattern x y : Int} (hw : 1 ≤ wide ∧ wide ≤ 4) (hh : 1 ≤ high ∧ high ≤ 4) (hb : 0 ≤ border ∧ border ≤ 2) (hx : 0 ≤ x ∧ x < 12) (hy : 0 ≤ y ∧ y < 8) :
    (0 ≤ fL wide high border pattern x y ∧ fL wide high border pattern x y ≤ x ∧ x < fR wide high border pattern x y ∧ fR wide high border pattern x y ≤ 12) ∧ 0 ≤ fT wide high border pattern x y ∧ fT wide high border pattern x y ≤ y ∧ y < fB wide high border pattern x y ∧ fB wide high border pattern x y ≤ 8 := by
  by_cases he : egd border x y
  · simp only [fL, fR, fT, fB, if_pos he]; omega
  · simp only [fL, fR, fT, fB, if_neg he]
    have hs := shf_rng (high := high) (border := border) (pattern := pattern) (y := y) hw
    simp only [egd] at he
    have h1 := dm_rng (t := x - (border - shf wide high border pattern y)) (w := wide) (by omega) hw.1
    have h2 := dm_rng (t := y - border) (w := high) (by omega) hh.1
    simp only [tlL]
    omega
end VPURE
section VPURE2
/-- a row's values lie between lo and hi -/
abbrev Rn (g : Int → Int) (lo hi : Int) : Prop := ∀ j : Int, lo ≤ g j ∧ g j ≤ hi
theorem Rn_uI {g : Int → Int} {lo hi k v : Int} (h : Rn g lo hi) (hv : lo ≤ v ∧ v ≤ hi) : Rn (uI g k v) lo hi := by
  intro j
  unfold uI
  split
  · exact hv
  · exact h j
/-- the place i taken out, those behind it up to n one to the front -/
def sh (g : Int → Int) (i n : Int) : Int → Int := fun j => if i ≤ j ∧ j < n - 1 then g (j + 1) else g j
theorem sh_0 (g : Int → Int) (i : Int) : sh g i (i + 1) = g := by
  funext j
  unfold sh
  rw [if_neg (by omega)]
theorem sh_at (g : Int → Int) {i x : Int} : sh g i x x = g x := by
  unfold sh
  rw [if_neg (by omega)]
theorem sh_step (g : Int → Int) {i x : Int} (h : i < x) : uI (sh g i x) (x - 1) (g x) = sh g i (x + 1) := by
  funext j
  unfold uI
  by_cases hj : j = x - 1
  · subst hj
    rw [if_pos rfl]
    unfold sh
    rw [if_pos (by omega), show x - 1 + 1 = x by omega]
  · rw [if_neg hj]
    unfold sh
    by_cases h2 : i ≤ j ∧ j < x - 1
    · rw [if_pos h2, if_pos (by omega)]
    · rw [if_neg h2, if_neg (by omega)]
theorem Rn_sh {g : Int → Int} {lo hi i n : Int} (h : Rn g lo hi) : Rn (sh g i n) lo hi := by
  intro j
  unfold sh
  split
  · exact h (j + 1)
  · exact h j
/-- the last place ahead of n with the value f, or -1 -/
def tp (g : Int → Int) (f : Int) : Nat → Int
  | 0 => -1
  | n + 1 => if g (n : Int) = f then (n : Int) else tp g f n
theorem tp_I {g : Int → Int} {f i : Int} (hi : 0 ≤ i) : tp g f (i + 1).toNat = if g i = f then i else tp g f i.toNat := by
  obtain ⟨k, rfl⟩ : ∃ k : Nat, i = k := ⟨i.toNat, by omega⟩
  rw [show ((k : Int) + 1).toNat = k + 1 by omega, show ((k : Int)).toNat = k by omega]
  rfl
theorem tp_rng (g : Int → Int) (f : Int) : ∀ n : Nat, -1 ≤ tp g f n ∧ tp g f n < (n : Int)
  | 0 => by unfold tp; omega
  | n + 1 => by
    have := tp_rng g f n
    unfold tp
    split <;> omega
/-- what bars a cell when its row is found anew -/
def dr (pil : Int → Int) (door j : Int) : Int := if pil j = 1 ∨ (0 ≤ j ∧ j < 12 ∧ door ≤ j ∧ j < door + 2) then 1 else 0
def rrw (pil bar : Int → Int) (door y x : Int) : Int → Int := fun j => if y * 12 ≤ j ∧ j < y * 12 + x then dr pil door j else bar j
theorem rrw_0 (pil bar : Int → Int) (door y : Int) : rrw pil bar door y 0 = bar := by
  funext j; unfold rrw; rw [if_neg (by omega)]
theorem rrw_step (pil bar : Int → Int) (door y x v : Int) (hx : 0 ≤ x) (hv : v = dr pil door (y * 12 + x)) : uI (rrw pil bar door y x) (y * 12 + x) v = rrw pil bar door y (x + 1) := by
  funext j
  unfold uI
  by_cases hj : j = y * 12 + x
  · subst hj
    rw [if_pos rfl]
    unfold rrw
    rw [if_pos (by omega)]; exact hv
  · rw [if_neg hj]
    unfold rrw
    by_cases h2 : y * 12 ≤ j ∧ j < y * 12 + x
    · rw [if_pos h2, if_pos (by omega)]
    · rw [if_neg h2, if_neg (by omega)]
theorem dr_01 (pil : Int → Int) (door j : Int) : 0 ≤ dr pil door j ∧ dr pil door j ≤ 1 := by
  unfold dr; split <;> omega
theorem Rn_rrw {pil bar : Int → Int} {door y x : Int} (h : Rn bar 0 1) : Rn (rrw pil bar door y x) 0 1 := by
  intro j
  unfold rrw
  split
  · exact dr_01 pil door j
  · exact h j
/-- the bars found anew in the first n rows, but in those of laid strips -/
def rnw (pil bar laid : Int → Int) (door high border n : Int) : Int → Int := fun j => if 0 ≤ j ∧ j < 12 * n ∧ laid (sR high border (j / 12)) ≠ 1 then dr pil door j else bar j
theorem rnw_0 (pil bar laid : Int → Int) (door high border : Int) : rnw pil bar laid door high border 0 = bar := by
  funext j; unfold rnw; rw [if_neg (by omega)]
theorem rnw_skip (pil bar laid : Int → Int) (door high border y : Int) (hl : laid (sR high border y) = 1) : rnw pil bar laid door high border y = rnw pil bar laid door high border (y + 1) := by
  funext j
  unfold rnw
  by_cases h : 0 ≤ j ∧ j < 12 * y ∧ laid (sR high border (j / 12)) ≠ 1
  · rw [if_pos h, if_pos ⟨h.1, by omega, h.2.2⟩]
  · rw [if_neg h]
    by_cases h2 : j / 12 = y
    · rw [if_neg (by rw [h2]; exact fun q => q.2.2 hl)]
    · rw [if_neg (fun q => h ⟨q.1, by omega, q.2.2⟩)]
theorem rnw_step (pil bar laid : Int → Int) (door high border y : Int) (hy : 0 ≤ y) (hl : laid (sR high border y) ≠ 1) : rrw pil (rnw pil bar laid door high border y) door y 12 = rnw pil bar laid door high border (y + 1) := by
  funext j
  unfold rrw
  by_cases h2 : y * 12 ≤ j ∧ j < y * 12 + 12
  · rw [if_pos h2]
    unfold rnw
    have e : j / 12 = y := by omega
    rw [if_pos ⟨by omega, by omega, by rw [e]; exact hl⟩]
  · rw [if_neg h2]
    unfold rnw
    by_cases h : 0 ≤ j ∧ j < 12 * y ∧ laid (sR high border (j / 12)) ≠ 1
    · rw [if_pos h, if_pos ⟨h.1, by omega, h.2.2⟩]
    · rw [if_neg h, if_neg (fun q => h ⟨q.1, by omega, q.2.2⟩)]
theorem Rn_rnw {pil bar laid : Int → Int} {door high border n : Int} (h : Rn bar 0 1) : Rn (rnw pil bar laid door high border n) 0 1 := by
  intro j
  unfold rnw
  split
  · exact dr_01 pil door j
  · exact h j
end VPURE2

section VPURE4
/-! the pieces -/
abbrev egc (border c : Int) : Prop := egd border (c % 12) (c / 12)
def tlN (wide high border pattern c : Int) : Int := 100 * ((c / 12 - border) / high) + (c % 12 - border + shf wide high border pattern (c / 12)) / wide
abbrev sm (wide high border pattern a d : Int) : Prop := a = d ∨ (¬ egc border a ∧ ¬ egc border d ∧ tlN wide high border pattern a = tlN wide high border pattern d)
def sl (wide high border pattern : Int) (bar : Int → Int) (c d : Int) : Bool := decide (c ≤ d ∧ bar d ≠ 1 ∧ sm wide high border pattern c d)
def qC (P : Int → Bool) : Nat → Int
  | 0 => 0
  | n + 1 => if P n = true then qC P n + 1 else qC P n
def qL (P : Int → Bool) : Nat → Int
  | 0 => 12
  | n + 1 => if P n = true then min (qL P n) ((n : Int) % 12) else qL P n
def qR (P : Int → Bool) : Nat → Int
  | 0 => -1
  | n + 1 => if P n = true then max (qR P n) ((n : Int) % 12) else qR P n
def qB (P : Int → Bool) : Nat → Int
  | 0 => -1
  | n + 1 => if P n = true then (n : Int) / 12 else qB P n
def qA (P : Int → Bool) (g : Int → Int) (p n : Int) : Int → Int := fun j => if 0 ≤ j ∧ j < n ∧ P j = true then p else g j
def pf (wide high border pattern : Int) (bar : Int → Int) : Nat → Int × (Int → Int)
  | 0 => (0, fun _ => -1)
  | n + 1 => if bar n ≠ 1 ∧ (pf wide high border pattern bar n).2 n < 0 then ((pf wide high border pattern bar n).1 + 1, qA (sl wide high border pattern bar n) (pf wide high border pattern bar n).2 (pf wide high border pattern bar n).1 96) else pf wide high border pattern bar n
def nw (wide high border pattern : Int) (bar : Int → Int) (n : Nat) : Prop := bar n ≠ 1 ∧ (pf wide high border pattern bar n).2 n < 0
theorem q_skip {P : Int → Bool} {a : Nat} : ∀ k : Nat, (∀ j : Nat, a ≤ j → j < a + k → P j = false) → qC P (a + k) = qC P a ∧ qL P (a + k) = qL P a ∧ qR P (a + k) = qR P a ∧ qB P (a + k) = qB P a
  | 0, _ => ⟨rfl, rfl, rfl, rfl⟩
  | k + 1, h => by
    have ih := q_skip k (fun j h1 h2 => h j h1 (by omega))
    have hp : ¬ P ((a + k : Nat) : Int) = true := by rw [h (a + k) (by omega) (by omega)]; decide
    rw [show a + (k + 1) = (a + k) + 1 by omega]
    refine ⟨?_, ?_, ?_, ?_⟩
    · rw [← ih.1]; exact if_neg hp
    · rw [← ih.2.1]; exact if_neg hp
    · rw [← ih.2.2.1]; exact if_neg hp
    · rw [← ih.2.2.2]; exact if_neg hp
theorem qA_skip {P : Int → Bool} {g : Int → Int} {p a b : Int} (hab : a ≤ b) (h : ∀ j : Int, a ≤ j → j < b → P j = false) : qA P g p a = qA P g p b := by
  funext j
  unfold qA
  by_cases h1 : 0 ≤ j ∧ j < a ∧ P j = true
  · rw [if_pos h1, if_pos ⟨h1.1, by omega, h1.2.2⟩]
  · rw [if_neg h1]
    by_cases h2 : 0 ≤ j ∧ j < b ∧ P j = true
    · by_cases h3 : j < a
      · exact absurd ⟨h2.1, h3, h2.2.2⟩ h1
      · have h4 := h j (by omega) h2.2.1
        rw [h4] at h2
        exact absurd h2.2.2 (by decide)
    · rw [if_neg h2]
theorem qA_0 (P : Int → Bool) (g : Int → Int) (p : Int) : qA P g p 0 = g := by
  funext j; unfold qA; rw [if_neg (by omega)]
theorem qA_step {P : Int → Bool} {g : Int → Int} {p n : Int} (hn : 0 ≤ n) (hP : P n = true) : uI (qA P g p n) n p = qA P g p (n + 1) := by
  funext j
  unfold uI qA
  by_cases hj : j = n
  · subst hj; rw [if_pos rfl, if_pos ⟨hn, by omega, hP⟩]
  · rw [if_neg hj]
    by_cases h : 0 ≤ j ∧ j < n ∧ P j = true
    · rw [if_pos h, if_pos ⟨h.1, by omega, h.2.2⟩]
    · rw [if_neg h, if_neg (fun q => h ⟨q.1, by omega, q.2.2⟩)]
theorem qA_none {P : Int → Bool} {g : Int → Int} {p n : Int} (hP : P n = false) : qA P g p n = qA P g p (n + 1) := qA_skip (by omega) (fun j h1 h2 => by rw [show j = n by omega]; exact hP)
theorem q_rng (P : Int → Bool) : ∀ n : Nat, n ≤ 96 → (0 ≤ qC P n ∧ qC P n ≤ n) ∧ (0 ≤ qL P n ∧ qL P n ≤ 12) ∧ (-1 ≤ qR P n ∧ qR P n ≤ 11) ∧ (-1 ≤ qB P n ∧ qB P n ≤ 7)
  | 0, _ => by simp only [qC, qL, qR, qB]; omega
  | n + 1, h => by
    have ih := q_rng P n (by omega)
    simp only [qC, qL, qR, qB]
    split <;> omega
theorem sm_symm {wide high border pattern a d : Int} (h : sm wide high border pattern a d) : sm wide high border pattern d a := by
  rcases h with h | ⟨h1, h2, h3⟩
  · exact Or.inl h.symm
  · exact Or.inr ⟨h2, h1, h3.symm⟩
theorem sm_trans {wide high border pattern a d e : Int} (h : sm wide high border pattern a d) (g : sm wide high border pattern d e) : sm wide high border pattern a e := by
  rcases h with rfl | ⟨h1, h2, h3⟩
  · exact g
  · rcases g with rfl | ⟨g1, g2, g3⟩
    · exact Or.inr ⟨h1, h2, h3⟩
    · exact Or.inr ⟨h1, g2, h3.trans g3⟩
theorem sl_iff {wide high border pattern : Int} {bar : Int → Int} {c d : Int} : sl wide high border pattern bar c d = true ↔ c ≤ d ∧ bar d ≠ 1 ∧ sm wide high border pattern c d := decide_eq_true_iff
/-- cells are numbered, as far as found: by a piece's first cell -/
theorem pf_at {wide high border pattern : Int} {bar : Int → Int} : ∀ n : Nat, n ≤ 96 → (0 ≤ (pf wide high border pattern bar n).1 ∧ (pf wide high border pattern bar n).1 ≤ n) ∧ ∀ d : Int, 0 ≤ d → d < 96 → (0 ≤ (pf wide high border pattern bar n).2 d ↔ bar d ≠ 1 ∧ ∃ e : Nat, e < n ∧ nw wide high border pattern bar e ∧ (e : Int) ≤ d ∧ sm wide high border pattern e d) ∧ -1 ≤ (pf wide high border pattern bar n).2 d ∧ (pf wide high border pattern bar n).2 d < (pf wide high border pattern bar n).1
  | 0, _ => ⟨⟨Int.le_refl _, Int.le_refl _⟩, fun d _ _ => by
    show ((0 : Int) ≤ -1 ↔ _) ∧ (-1 : Int) ≤ -1 ∧ (-1 : Int) < 0
    exact ⟨⟨fun h => absurd h (by decide), fun ⟨_, e, he, _⟩ => absurd he (by omega)⟩, by decide, by decide⟩⟩
  | n + 1, hn => by
    obtain ⟨i1, i2⟩ := pf_at (wide := wide) (high := high) (border := border) (pattern := pattern) (bar := bar) n (by omega)
    by_cases hc : bar n ≠ 1 ∧ (pf wide high border pattern bar n).2 n < 0
    · have e1 : pf wide high border pattern bar (n + 1) = ((pf wide high border pattern bar n).1 + 1, qA (sl wide high border pattern bar n) (pf wide high border pattern bar n).2 (pf wide high border pattern bar n).1 96) := if_pos hc
      rw [e1]
      refine ⟨by dsimp only; omega, fun d h1 h2 => ?_⟩
      dsimp only
      obtain ⟨j1, j2, j3⟩ := i2 d h1 h2
      unfold qA
      by_cases hs : sl wide high border pattern bar n d = true
      · rw [if_pos ⟨h1, h2, hs⟩]
        have h3 := sl_iff.mp hs
        exact ⟨⟨fun _ => ⟨h3.2.1, n, by omega, hc, h3.1, h3.2.2⟩, fun _ => by omega⟩, by omega, by omega⟩
      · rw [if_neg (fun q => hs q.2.2)]
        refine ⟨⟨fun h => ?_, fun ⟨g1, e, g2, g3, g4, g5⟩ => ?_⟩, by omega, by omega⟩
        · obtain ⟨g1, e, g2, g3⟩ := j1.mp h
          exact ⟨g1, e, by omega, g3⟩
        · by_cases he : e = n
          · subst he; exact absurd (sl_iff.mpr ⟨g4, g1, g5⟩) hs
          · exact j1.mpr ⟨g1, e, by omega, g3, g4, g5⟩
    · have e1 : pf wide high border pattern bar (n + 1) = pf wide high border pattern bar n := if_neg hc
      rw [e1]
      refine ⟨by omega, fun d h1 h2 => ?_⟩
      obtain ⟨j1, j2⟩ := i2 d h1 h2
      refine ⟨⟨fun h => ?_, fun ⟨g1, e, g2, g3, g4, g5⟩ => ?_⟩, j2⟩
      · obtain ⟨g1, e, g2, g3⟩ := j1.mp h
        exact ⟨g1, e, by omega, g3⟩
      · by_cases he : e = n
        · subst he; exact absurd g3 hc
        · exact j1.mpr ⟨g1, e, by omega, g3, g4, g5⟩
/-- a cell is the first of its piece: not barred, and none ahead of it in its tile that isn't -/
theorem nw_iff {wide high border pattern : Int} {bar : Int → Int} {k : Nat} (hk : k < 96) : nw wide high border pattern bar k ↔ bar k ≠ 1 ∧ ∀ d : Int, 0 ≤ d → d < k → sm wide high border pattern k d → bar d = 1 := by
  constructor
  · intro h
    refine ⟨h.1, fun d h1 h2 h3 => Decidable.byContradiction fun hb => ?_⟩
    -- d is processed: its piece has a first cell, and that is k's too
    have main : ∃ e : Nat, e < k ∧ nw wide high border pattern bar e ∧ (e : Int) ≤ d ∧ sm wide high border pattern e d := by
      obtain ⟨D, rfl⟩ : ∃ D : Nat, d = D := ⟨d.toNat, by omega⟩
      by_cases hn : nw wide high border pattern bar D
      · exact ⟨D, by omega, hn, by omega, Or.inl rfl⟩
      · have h4 : 0 ≤ (pf wide high border pattern bar D).2 D := Decidable.byContradiction fun q => hn ⟨hb, by omega⟩
        obtain ⟨-, e, g1, g2, g3, g4⟩ := (((pf_at D (by omega)).2 D (by omega) (by omega)).1).mp h4
        exact ⟨e, by omega, g2, g3, g4⟩
    obtain ⟨e, g1, g2, g3, g4⟩ := main
    have h5 := (((pf_at (wide := wide) (high := high) (border := border) (pattern := pattern) (bar := bar) k (by omega)).2 k (by omega) (by omega)).1).mpr ⟨h.1, e, g1, g2, by omega, sm_trans g4 (sm_symm h3)⟩
    have := h.2
    omega
  · intro h
    refine ⟨h.1, Decidable.byContradiction fun hq => ?_⟩
    obtain ⟨-, e, g1, g2, g3, g4⟩ := (((pf_at (wide := wide) (high := high) (border := border) (pattern := pattern) (bar := bar) k (by omega)).2 k (by omega) (by omega)).1).mp (by omega)
    exact g2.1 (h.2 e (by omega) (by omega) (sm_symm g4))
/-- every number below the count is some first cell's -/
theorem pf_onto {wide high border pattern : Int} {bar : Int → Int} : ∀ n : Nat, ∀ p : Int, 0 ≤ p → p < (pf wide high border pattern bar n).1 → ∃ k : Nat, k < n ∧ nw wide high border pattern bar k ∧ (pf wide high border pattern bar k).1 = p
  | 0, p, h0, h1 => by simp only [pf] at h1; omega
  | n + 1, p, h0, h1 => by
    by_cases hc : bar n ≠ 1 ∧ (pf wide high border pattern bar n).2 n < 0
    · have e1 : pf wide high border pattern bar (n + 1) = ((pf wide high border pattern bar n).1 + 1, qA (sl wide high border pattern bar n) (pf wide high border pattern bar n).2 (pf wide high border pattern bar n).1 96) := if_pos hc
      rw [e1] at h1
      dsimp only at h1
      by_cases hp : p = (pf wide high border pattern bar n).1
      · exact ⟨n, by omega, hc, hp.symm⟩
      · obtain ⟨k, g1, g2⟩ := pf_onto (wide := wide) (high := high) (border := border) (pattern := pattern) (bar := bar) n p h0 (by omega)
        exact ⟨k, by omega, g2⟩
    · have e1 : pf wide high border pattern bar (n + 1) = pf wide high border pattern bar n := if_neg hc
      rw [e1] at h1
      obtain ⟨k, g1, g2⟩ := pf_onto (wide := wide) (high := high) (border := border) (pattern := pattern) (bar := bar) n p h0 h1
      exact ⟨k, by omega, g2⟩
/-- later first cells have greater numbers -/
theorem pf_mono {wide high border pattern : Int} {bar : Int → Int} {a : Nat} : ∀ k : Nat, (pf wide high border pattern bar a).1 ≤ (pf wide high border pattern bar (a + k)).1
  | 0 => Int.le_refl _
  | k + 1 => by
    have ih := pf_mono (wide := wide) (high := high) (border := border) (pattern := pattern) (bar := bar) (a := a) k
    rw [show a + (k + 1) = (a + k) + 1 by omega]
    show _ ≤ (if bar ((a + k : Nat) : Int) ≠ 1 ∧ (pf wide high border pattern bar (a + k)).2 ((a + k : Nat) : Int) < 0 then ((pf wide high border pattern bar (a + k)).1 + 1, qA (sl wide high border pattern bar ((a + k : Nat) : Int)) (pf wide high border pattern bar (a + k)).2 (pf wide high border pattern bar (a + k)).1 96) else pf wide high border pattern bar (a + k)).1
    split
    · dsimp only; omega
    · exact ih
theorem pf_new {wide high border pattern : Int} {bar : Int → Int} {n : Nat} (h : nw wide high border pattern bar n) : pf wide high border pattern bar (n + 1) = ((pf wide high border pattern bar n).1 + 1, qA (sl wide high border pattern bar n) (pf wide high border pattern bar n).2 (pf wide high border pattern bar n).1 96) := if_pos h
theorem pf_old {wide high border pattern : Int} {bar : Int → Int} {n : Nat} (h : ¬ nw wide high border pattern bar n) : pf wide high border pattern bar (n + 1) = pf wide high border pattern bar n := if_neg h
theorem pf_lt {wide high border pattern : Int} {bar : Int → Int} {a n : Nat} (h : nw wide high border pattern bar a) (ha : a < n) : (pf wide high border pattern bar a).1 < (pf wide high border pattern bar n).1 := by
  have h1 := pf_mono (wide := wide) (high := high) (border := border) (pattern := pattern) (bar := bar) (a := a + 1) (n - (a + 1))
  rw [show a + 1 + (n - (a + 1)) = n by omega, pf_new h] at h1
  dsimp only at h1
  omega
theorem div_eq {t u w : Int} (hw : 1 ≤ w ∧ w ≤ 4) : u / w = t / w ↔ t / w * w ≤ u ∧ u < t / w * w + w := by
  rcases one4 hw with rfl | rfl | rfl | rfl <;> omega
theorem shf_lt100 {t w : Int} (h : 0 ≤ t ∧ t < 100) (hw : 1 ≤ w) : 0 ≤ t / w ∧ t / w < 100 := by
  have := dm_rng h.1 hw; omega
/-- a cell within the frame is a cell of the same tile -/
theorem frame_sm {wide high border pattern x y u r : Int} (hw : 1 ≤ wide ∧ wide ≤ 4) (hh : 1 ≤ high ∧ high ≤ 4) (hb : 0 ≤ border ∧ border ≤ 2) (hx : 0 ≤ x ∧ x < 12) (hy : 0 ≤ y ∧ y < 8) (hu : 0 ≤ u ∧ u < 12) (hr : 0 ≤ r ∧ r < 8) :
    sm wide high border pattern (y * 12 + x) (r * 12 + u) ↔ (fL wide high border pattern x y ≤ u ∧ u < fR wide high border pattern x y) ∧ fT wide high border pattern x y ≤ r ∧ r < fB wide high border pattern x y := by
  have e1 : (y * 12 + x) % 12 = x := by omega
  have e2 : (y * 12 + x) / 12 = y := by omega
  have e3 : (r * 12 + u) % 12 = u := by omega
  have e4 : (r * 12 + u) / 12 = r := by omega
  simp only [sm, egc, tlN, e1, e2, e3, e4]
  by_cases he : egd border x y
  · simp only [fL, fR, fT, fB, if_pos he]
    constructor
    · rintro (h | h)
      · omega
      · exact absurd he h.1
    · intro h; left; omega
  · simp only [fL, fR, fT, fB, if_neg he, tlL]
    simp only [egd] at he
    have hs := shf_rng (high := high) (border := border) (pattern := pattern) (y := y) hw
    have hs2 := shf_rng (high := high) (border := border) (pattern := pattern) (y := r) hw
    have d1 := dm_rng (t := x - (border - shf wide high border pattern y)) (w := wide) (by omega) hw.1
    have d2 := dm_rng (t := y - border) (w := high) (by omega) hh.1
    have q1 := div_eq (t := x - (border - shf wide high border pattern y)) (u := u - (border - shf wide high border pattern y)) hw
    have q2 := div_eq (t := y - border) (u := r - border) hh
    have n1 : x - border + shf wide high border pattern y = x - (border - shf wide high border pattern y) := by omega
    have n2 : u - border + shf wide high border pattern y = u - (border - shf wide high border pattern y) := by omega
    have key : (r - border) / high = (y - border) / high → shf wide high border pattern r = shf wide high border pattern y := by
      intro h; unfold shf; rw [h]
    constructor
    · rintro (h | ⟨-, h2, h3⟩)
      · have hyr : y = r := by omega
        have hxu : x = u := by omega
        subst hyr; subst hxu
        simp only [egd] at *
        omega
      · simp only [egd] at h2
        have g1 := shf_lt100 (t := x - border + shf wide high border pattern y) (w := wide) (by omega) hw.1
        have g2 := shf_lt100 (t := u - border + shf wide high border pattern r) (w := wide) (by omega) hw.1
        have hc : (r - border) / high = (y - border) / high := by omega
        have ht : (u - border + shf wide high border pattern r) / wide = (x - border + shf wide high border pattern y) / wide := by omega
        rw [key hc, n1, n2] at ht
        have a1 := q1.mp ht
        have a2 := q2.mp hc
        omega
    · intro h
      right
      have a1 := q1.mpr (by omega)
      have a2 := q2.mpr (by omega)
      refine ⟨he, by simp only [egd]; omega, ?_⟩
      rw [key a2, n1, n2, a1, a2]
end VPURE4
section VPURE5
/-! a piece measured, cell by cell -/
def MS (fl fr ft c : Int) (P : Int → Bool) (ofc : Int → Int) (p d : Int) (ofc2 : Int → Int) (sz lm rm lo : Int) : Prop :=
  ofc2 = qA P ofc p d ∧ sz = qC P d.toNat ∧ ((d ≤ c ∧ lm = fr ∧ rm = fl ∧ lo = ft) ∨ (c < d ∧ lm = qL P d.toNat ∧ rm = qR P d.toNat ∧ lo = qB P d.toNat))
theorem q_low {P : Int → Bool} {c : Int} (hP : ∀ j : Int, 0 ≤ j → j < c → P j = false) {d : Int} (hd : 0 ≤ d ∧ d ≤ c) : qC P d.toNat = 0 ∧ qL P d.toNat = 12 ∧ qR P d.toNat = -1 ∧ qB P d.toNat = -1 := by
  have h := q_skip (P := P) (a := 0) d.toNat (fun j h1 h2 => hP j (by omega) (by omega))
  rw [Nat.zero_add] at h
  exact h
theorem MS_0 {fl fr ft c : Int} {P : Int → Bool} {ofc : Int → Int} {p d : Int} (hP : ∀ j : Int, 0 ≤ j → j < c → P j = false) (hd : 0 ≤ d ∧ d ≤ c) : MS fl fr ft c P ofc p d ofc 0 fr fl ft := by
  refine ⟨?_, (q_low hP hd).1.symm, Or.inl ⟨hd.2, rfl, rfl, rfl⟩⟩
  rw [← qA_skip (P := P) (g := ofc) (p := p) hd.1 (fun j h1 h2 => hP j h1 (by omega)), qA_0]
theorem q_I {P : Int → Bool} {d : Int} (hd : 0 ≤ d) : qC P (d + 1).toNat = (if P d = true then qC P d.toNat + 1 else qC P d.toNat) ∧ qL P (d + 1).toNat = (if P d = true then min (qL P d.toNat) (d % 12) else qL P d.toNat) ∧ qR P (d + 1).toNat = (if P d = true then max (qR P d.toNat) (d % 12) else qR P d.toNat) ∧ qB P (d + 1).toNat = (if P d = true then d / 12 else qB P d.toNat) := by
  obtain ⟨k, rfl⟩ : ∃ k : Nat, d = k := ⟨d.toNat, by omega⟩
  rw [show ((k : Int) + 1).toNat = k + 1 by omega, show ((k : Int)).toNat = k by omega]
  exact ⟨rfl, rfl, rfl, rfl⟩
theorem MS_yes {fl fr ft c : Int} {P : Int → Bool} {ofc ofc2 : Int → Int} {p sz lm rm lo u r : Int} (h : MS fl fr ft c P ofc p (r * 12 + u) ofc2 sz lm rm lo) (hP : ∀ j : Int, 0 ≤ j → j < c → P j = false) (hr : 0 ≤ r) (hu : 0 ≤ u ∧ u < 12) (huf : fl ≤ u ∧ u < fr) (hy : P (r * 12 + u) = true) :
    MS fl fr ft c P ofc p (r * 12 + (u + 1)) (uI ofc2 (r * 12 + u) p) (sz + 1) (min lm u) (max rm u) r := by
  obtain ⟨h1, h2, h3⟩ := h
  have hcd : c ≤ r * 12 + u := Decidable.byContradiction fun q => by
    have := hP (r * 12 + u) (by omega) (by omega)
    rw [this] at hy
    exact absurd hy (by decide)
  obtain ⟨e1, e2, e3, e4⟩ := q_I (P := P) (d := r * 12 + u) (by omega)
  rw [if_pos hy] at e1 e2 e3 e4
  rw [show r * 12 + (u + 1) = r * 12 + u + 1 by omega]
  refine ⟨by rw [h1]; exact qA_step (by omega) hy, by rw [e1, h2], Or.inr ⟨by omega, ?_⟩⟩
  rw [e2, e3, e4]
  rcases h3 with ⟨g1, rfl, rfl, rfl⟩ | ⟨g1, rfl, rfl, rfl⟩
  · obtain ⟨-, f2, f3, -⟩ := q_low (d := r * 12 + u) hP ⟨by omega, g1⟩
    rw [f2, f3]
    omega
  · refine ⟨?_, ?_, ?_⟩
    · rw [show (r * 12 + u) % 12 = u by omega]
    · rw [show (r * 12 + u) % 12 = u by omega]
    · omega
theorem MS_no {fl fr ft c : Int} {P : Int → Bool} {ofc ofc2 : Int → Int} {p sz lm rm lo d : Int} (h : MS fl fr ft c P ofc p d ofc2 sz lm rm lo) (hd : 0 ≤ d) (hc : P c = true) (hn : P d = false) : MS fl fr ft c P ofc p (d + 1) ofc2 sz lm rm lo := by
  obtain ⟨h1, h2, h3⟩ := h
  have hdc : d ≠ c := fun q => by rw [q, hc] at hn; exact absurd hn (by decide)
  have hn' : ¬ P d = true := by rw [hn]; decide
  obtain ⟨e1, e2, e3, e4⟩ := q_I (P := P) (d := d) hd
  rw [if_neg hn'] at e1 e2 e3 e4
  refine ⟨by rw [h1]; exact qA_none hn, by rw [e1]; exact h2, ?_⟩
  rw [e2, e3, e4]
  rcases h3 with ⟨g1, g2⟩ | ⟨g1, g2⟩
  · exact Or.inl ⟨by omega, g2⟩
  · exact Or.inr ⟨by omega, g2⟩
theorem MS_skip {fl fr ft c : Int} {P : Int → Bool} {ofc ofc2 : Int → Int} {p sz lm rm lo d : Int} (hc : P c = true) : ∀ k : Nat, MS fl fr ft c P ofc p d ofc2 sz lm rm lo → 0 ≤ d → (∀ j : Int, d ≤ j → j < d + k → P j = false) → MS fl fr ft c P ofc p (d + k) ofc2 sz lm rm lo
  | 0, h, _, _ => by rw [show d + ((0 : Nat) : Int) = d by omega]; exact h
  | k + 1, h, hd, hn => by
    have ih := MS_skip hc k h hd (fun j h1 h2 => hn j h1 (by omega))
    have := MS_no ih (by omega) hc (hn (d + k) (by omega) (by omega))
    rw [show d + ((k + 1 : Nat) : Int) = d + k + 1 by omega]
    exact this
theorem MS_to {fl fr ft c : Int} {P : Int → Bool} {ofc ofc2 : Int → Int} {p sz lm rm lo d d' : Int} (h : MS fl fr ft c P ofc p d ofc2 sz lm rm lo) (hc : P c = true) (hd : 0 ≤ d) (hdd : d ≤ d') (hn : ∀ j : Int, d ≤ j → j < d' → P j = false) : MS fl fr ft c P ofc p d' ofc2 sz lm rm lo := by
  have := MS_skip (d := d) hc (d' - d).toNat h hd (fun j h1 h2 => hn j h1 (by omega))
  rw [show d + (((d' - d).toNat : Nat) : Int) = d' by omega] at this
  exact this
/-- what a selection has to do with a frame -/
def inF (fl fr ft fb c : Int) (bar : Int → Int) (P : Int → Bool) : Prop := ∀ u r : Int, 0 ≤ u → u < 12 → 0 ≤ r → r < 8 → (P (r * 12 + u) = true ↔ c ≤ r * 12 + u ∧ bar (r * 12 + u) ≠ 1 ∧ (fl ≤ u ∧ u < fr) ∧ ft ≤ r ∧ r < fb)
theorem inF_of {wide high border pattern x y : Int} {bar : Int → Int} (hw : 1 ≤ wide ∧ wide ≤ 4) (hh : 1 ≤ high ∧ high ≤ 4) (hb : 0 ≤ border ∧ border ≤ 2) (hx : 0 ≤ x ∧ x < 12) (hy : 0 ≤ y ∧ y < 8) :
    inF (fL wide high border pattern x y) (fR wide high border pattern x y) (fT wide high border pattern x y) (fB wide high border pattern x y) (y * 12 + x) bar (sl wide high border pattern bar (y * 12 + x)) := by
  intro u r h1 h2 h3 h4
  rw [sl_iff, frame_sm hw hh hb hx hy ⟨h1, h2⟩ ⟨h3, h4⟩]
theorem inF_no {fl fr ft fb c : Int} {bar : Int → Int} {P : Int → Bool} (h : inF fl fr ft fb c bar P) {j : Int} (hj : 0 ≤ j ∧ j < 96) (hn : j < c ∨ bar j = 1 ∨ j % 12 < fl ∨ fr ≤ j % 12 ∨ j / 12 < ft ∨ fb ≤ j / 12) : P j = false := by
  have h1 := h (j % 12) (j / 12) (by omega) (by omega) (by omega) (by omega)
  rw [show j / 12 * 12 + j % 12 = j by omega] at h1
  cases hp : P j
  · rfl
  · have := h1.mp hp
    omega
theorem inF_yes {fl fr ft fb c : Int} {bar : Int → Int} {P : Int → Bool} (h : inF fl fr ft fb c bar P) {u r : Int} (hu : 0 ≤ u ∧ u < 12) (hr : 0 ≤ r ∧ r < 8) (hy : c ≤ r * 12 + u ∧ bar (r * 12 + u) ≠ 1 ∧ (fl ≤ u ∧ u < fr) ∧ ft ≤ r ∧ r < fb) : P (r * 12 + u) = true := (h u r hu.1 hu.2 hr.1 hr.2).mpr hy
/-- a box that has all of a selection -/
theorem q_box {P : Int → Bool} {lo hi : Int} (hP : ∀ j : Int, 0 ≤ j → j < 96 → P j = true → lo ≤ j % 12 ∧ j % 12 ≤ hi) : ∀ n : Nat, n ≤ 96 → (qL P n = 12 ∨ lo ≤ qL P n) ∧ (qR P n = -1 ∨ qR P n ≤ hi)
  | 0, _ => ⟨Or.inl rfl, Or.inl rfl⟩
  | n + 1, hn => by
    have ih := q_box hP n (by omega)
    unfold qL qR
    by_cases h : P n = true
    · have := hP n (by omega) (by omega) h
      rw [if_pos h, if_pos h]; omega
    · rw [if_neg h, if_neg h]; exact ih
theorem q_boxB {P : Int → Bool} {hi : Int} (hP : ∀ j : Int, 0 ≤ j → j < 96 → P j = true → j / 12 ≤ hi) : ∀ n : Nat, n ≤ 96 → (qB P n = -1 ∨ qB P n ≤ hi)
  | 0, _ => Or.inl rfl
  | n + 1, hn => by
    have ih := q_boxB hP n (by omega)
    unfold qB
    by_cases h : P n = true
    · have := hP n (by omega) (by omega) h
      rw [if_pos h]; omega
    · rw [if_neg h]; exact ih
theorem q_has {P : Int → Bool} {c : Nat} (hc : P c = true) : ∀ k : Nat, 1 ≤ qC P (c + 1 + k) ∧ qL P (c + 1 + k) ≤ (c : Int) % 12 ∧ (c : Int) % 12 ≤ qR P (c + 1 + k) ∧ (c : Int) / 12 ≤ qB P (c + 1 + k)
  | 0 => by
    have h0 : ∀ n : Nat, 0 ≤ qC P n := by
      intro n
      induction n with
      | zero => exact Int.le_refl _
      | succ n ih => unfold qC; split <;> omega
    have := h0 c
    simp only [Nat.add_zero, qC, qL, qR, qB, if_pos hc]
    omega
  | k + 1 => by
    have ih := q_has hc k
    rw [show c + 1 + (k + 1) = (c + 1 + k) + 1 by omega]
    unfold qC qL qR qB
    by_cases h : P ((c + 1 + k : Nat) : Int) = true
    · rw [if_pos h, if_pos h, if_pos h, if_pos h]; omega
    · rw [if_neg h, if_neg h, if_neg h, if_neg h]; exact ih
/-- the kind of the piece whose first cell is k -/
def kdN (wide high border pattern : Int) (bar : Int → Int) (k : Int) : Int := if egc border k then 2 else if qC (sl wide high border pattern bar k) 96 = wide * high then 0 else 1
theorem kdN_rng (wide high border pattern : Int) (bar : Int → Int) (k : Int) : 0 ≤ kdN wide high border pattern bar k ∧ kdN wide high border pattern bar k ≤ 2 := by
  unfold kdN; split
  · omega
  · split <;> omega
/-- the pieces as far as found: n cells looked at -/
def PFI (wide high border pattern : Int) (bar : Int → Int) (n : Nat) (cnt : Int) (ofc knd col row siz bw bh : Int → Int) : Prop :=
  cnt = (pf wide high border pattern bar n).1 ∧ (∀ j : Int, 0 ≤ j → j < 96 → ofc j = (pf wide high border pattern bar n).2 j) ∧
  ∀ k : Nat, k < n → nw wide high border pattern bar k → col (pf wide high border pattern bar k).1 = (k : Int) % 12 ∧ row (pf wide high border pattern bar k).1 = (k : Int) / 12 ∧ knd (pf wide high border pattern bar k).1 = kdN wide high border pattern bar k ∧ siz (pf wide high border pattern bar k).1 = qC (sl wide high border pattern bar k) 96 ∧ bw (pf wide high border pattern bar k).1 = qR (sl wide high border pattern bar k) 96 - qL (sl wide high border pattern bar k) 96 + 1 ∧ bh (pf wide high border pattern bar k).1 = qB (sl wide high border pattern bar k) 96 - (k : Int) / 12 + 1
theorem PFI_0 {wide high border pattern : Int} {bar g knd col row siz bw bh : Int → Int} : PFI wide high border pattern bar 0 0 (fil g (-1) 96) knd col row siz bw bh :=
  ⟨rfl, fun j h1 h2 => by unfold fil; rw [if_pos ⟨h1, h2⟩]; rfl, fun k hk => absurd hk (by omega)⟩
theorem PFI_old {wide high border pattern : Int} {bar : Int → Int} {n : Nat} {cnt : Int} {ofc knd col row siz bw bh : Int → Int} (h : PFI wide high border pattern bar n cnt ofc knd col row siz bw bh) (hn : ¬ nw wide high border pattern bar n) : PFI wide high border pattern bar (n + 1) cnt ofc knd col row siz bw bh := by
  obtain ⟨h1, h2, h3⟩ := h
  rw [PFI, pf_old hn]
  exact ⟨h1, h2, fun k hk hw => h3 k (by by_cases q : k = n; · subst q; exact absurd hw hn
                                         · omega) hw⟩
theorem PFI_new {wide high border pattern : Int} {bar : Int → Int} {n : Nat} {cnt v1 v2 v3 v4 v5 v6 : Int} {ofc knd col row siz bw bh : Int → Int} (h : PFI wide high border pattern bar n cnt ofc knd col row siz bw bh) (hn : nw wide high border pattern bar n)
    (e1 : v1 = (n : Int) % 12) (e2 : v2 = (n : Int) / 12) (e3 : v3 = kdN wide high border pattern bar n) (e4 : v4 = qC (sl wide high border pattern bar n) 96) (e5 : v5 = qR (sl wide high border pattern bar n) 96 - qL (sl wide high border pattern bar n) 96 + 1) (e6 : v6 = qB (sl wide high border pattern bar n) 96 - (n : Int) / 12 + 1) :
    PFI wide high border pattern bar (n + 1) (cnt + 1) (qA (sl wide high border pattern bar n) ofc cnt 96) (uI knd cnt v3) (uI col cnt v1) (uI row cnt v2) (uI siz cnt v4) (uI bw cnt v5) (uI bh cnt v6) := by
  obtain ⟨h1, h2, h3⟩ := h
  rw [PFI, pf_new hn]
  refine ⟨by dsimp only; rw [h1], fun j g1 g2 => ?_, fun k hk hw => ?_⟩
  · dsimp only
    unfold qA
    rw [h2 j g1 g2, h1]
  · by_cases q : k = n
    · subst q
      rw [h1, uI_eq, uI_eq, uI_eq, uI_eq, uI_eq, uI_eq]
      exact ⟨e1, e2, e3, e4, e5, e6⟩
    · have hlt := pf_lt (n := n) hw (by omega)
      have hne : (pf wide high border pattern bar k).1 ≠ cnt := by omega
      rw [uI_ne _ _ hne, uI_ne _ _ hne, uI_ne _ _ hne, uI_ne _ _ hne, uI_ne _ _ hne, uI_ne _ _ hne]
      exact h3 k (by omega) hw
end VPURE5

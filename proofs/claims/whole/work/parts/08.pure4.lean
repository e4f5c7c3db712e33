section VPURE6
theorem PFI_nw {wide high border pattern cnt n : Int} {bar ofc knd col row siz bw bh : Int → Int} (h : PFI wide high border pattern bar n.toNat cnt ofc knd col row siz bw bh) (hn : 0 ≤ n ∧ n < 96) : (nw wide high border pattern bar n.toNat ↔ bar n ≠ 1 ∧ ofc n < 0) ∧ (-1 ≤ ofc n ∧ ofc n < 96) ∧ 0 ≤ cnt ∧ cnt ≤ n := by
  obtain ⟨h1, h2, -⟩ := h
  obtain ⟨p1, p2⟩ := pf_at (wide := wide) (high := high) (border := border) (pattern := pattern) (bar := bar) n.toNat (by omega)
  have h3 := p2 n hn.1 hn.2
  have h4 := h2 n hn.1 hn.2
  rw [h4, h1]
  unfold nw
  rw [Int.toNat_of_nonneg hn.1]
  exact ⟨Iff.rfl, by omega, by omega⟩
theorem PFI_oldI {wide high border pattern cnt n : Int} {bar ofc knd col row siz bw bh : Int → Int} (hn : 0 ≤ n) (h : PFI wide high border pattern bar n.toNat cnt ofc knd col row siz bw bh) (hno : ¬ nw wide high border pattern bar n.toNat) : PFI wide high border pattern bar (n + 1).toNat cnt ofc knd col row siz bw bh := by
  rw [show (n + 1).toNat = n.toNat + 1 by omega]
  exact PFI_old h hno
theorem PFI_newI {wide high border pattern cnt n v1 v2 v3 v4 v5 v6 : Int} {bar ofc knd col row siz bw bh : Int → Int} (hn : 0 ≤ n) (h : PFI wide high border pattern bar n.toNat cnt ofc knd col row siz bw bh) (hyes : nw wide high border pattern bar n.toNat)
    (e1 : v1 = n % 12) (e2 : v2 = n / 12) (e3 : v3 = kdN wide high border pattern bar n) (e4 : v4 = qC (sl wide high border pattern bar n) 96) (e5 : v5 = qR (sl wide high border pattern bar n) 96 - qL (sl wide high border pattern bar n) 96 + 1) (e6 : v6 = qB (sl wide high border pattern bar n) 96 - n / 12 + 1) :
    PFI wide high border pattern bar (n + 1).toNat (cnt + 1) (qA (sl wide high border pattern bar n) ofc cnt 96) (uI knd cnt v3) (uI col cnt v1) (uI row cnt v2) (uI siz cnt v4) (uI bw cnt v5) (uI bh cnt v6) := by
  rw [show (n + 1).toNat = n.toNat + 1 by omega]
  have e : ((n.toNat : Nat) : Int) = n := Int.toNat_of_nonneg hn
  have := PFI_new (v1 := v1) (v2 := v2) (v3 := v3) (v4 := v4) (v5 := v5) (v6 := v6) h hyes (by rw [e]; exact e1) (by rw [e]; exact e2) (by rw [e]; exact e3) (by rw [e]; exact e4) (by rw [e]; exact e5) (by rw [e]; exact e6)
  rw [e] at this
  exact this
/-- the box of a piece -/
theorem sl_box {wide high border pattern : Int} {bar : Int → Int} {k : Nat} (hw : 1 ≤ wide ∧ wide ≤ 4) (hh : 1 ≤ high ∧ high ≤ 4) (hb : 0 ≤ border ∧ border ≤ 2) (hk : k < 96) (hn : nw wide high border pattern bar k) :
    (0 ≤ qL (sl wide high border pattern bar k) 96 ∧ qR (sl wide high border pattern bar k) 96 ≤ 11 ∧ qB (sl wide high border pattern bar k) 96 ≤ 7) ∧ (1 ≤ qR (sl wide high border pattern bar k) 96 - qL (sl wide high border pattern bar k) 96 + 1 ∧ 1 ≤ qB (sl wide high border pattern bar k) 96 - (k : Int) / 12 + 1) ∧ (¬ egc border k → qR (sl wide high border pattern bar k) 96 - qL (sl wide high border pattern bar k) 96 + 1 ≤ wide ∧ qB (sl wide high border pattern bar k) 96 - (k : Int) / 12 + 1 ≤ high) := by
  have hself : sl wide high border pattern bar k k = true := sl_iff.mpr ⟨Int.le_refl _, hn.1, Or.inl rfl⟩
  have h1 := q_has hself (95 - k)
  rw [show k + 1 + (95 - k) = 96 by omega] at h1
  have h2 := q_rng (sl wide high border pattern bar k) 96 (by decide)
  refine ⟨by omega, by omega, fun he => ?_⟩
  have hx : 0 ≤ (k : Int) % 12 ∧ (k : Int) % 12 < 12 := by omega
  have hy : 0 ≤ (k : Int) / 12 ∧ (k : Int) / 12 < 8 := by omega
  have hF := inF_of (pattern := pattern) (bar := bar) hw hh hb hx hy
  rw [show (k : Int) / 12 * 12 + (k : Int) % 12 = k by omega] at hF
  have hin : ∀ j : Int, 0 ≤ j → j < 96 → sl wide high border pattern bar k j = true → (fL wide high border pattern ((k : Int) % 12) ((k : Int) / 12) ≤ j % 12 ∧ j % 12 ≤ fR wide high border pattern ((k : Int) % 12) ((k : Int) / 12) - 1) ∧ j / 12 ≤ fB wide high border pattern ((k : Int) % 12) ((k : Int) / 12) - 1 := by
    intro j g1 g2 g3
    have h3 := hF (j % 12) (j / 12) (by omega) (by omega) (by omega) (by omega)
    rw [show j / 12 * 12 + j % 12 = j by omega] at h3
    have := h3.mp g3
    omega
  have b1 := q_box (fun j g1 g2 g3 => (hin j g1 g2 g3).1) 96 (by decide)
  have b2 := q_boxB (fun j g1 g2 g3 => (hin j g1 g2 g3).2) 96 (by decide)
  have hs := shf_rng (high := high) (border := border) (pattern := pattern) (y := (k : Int) / 12) hw
  have he' : ¬ egd border ((k : Int) % 12) ((k : Int) / 12) := he
  simp only [fL, fR, fB, if_neg he', tlL] at b1 b2
  simp only [egd] at he'
  have d2 := dm_rng (t := (k : Int) / 12 - border) (w := high) (by omega) hh.1
  omega
theorem PFI_dim {wide high border pattern cnt : Int} {bar ofc knd col row siz bw bh : Int → Int} (hw : 1 ≤ wide ∧ wide ≤ 4) (hh : 1 ≤ high ∧ high ≤ 4) (hb : 0 ≤ border ∧ border ≤ 2) (h : PFI wide high border pattern bar 96 cnt ofc knd col row siz bw bh) : (0 ≤ cnt ∧ cnt ≤ 96) ∧ ∀ j : Int, 0 ≤ j → j < cnt → ((0 ≤ col j ∧ col j < 12) ∧ 0 ≤ row j ∧ row j < 8) ∧ (0 ≤ knd j ∧ knd j ≤ 2) ∧ (0 ≤ siz j ∧ siz j ≤ 96) ∧ (knd j = 1 → (0 ≤ bw j ∧ bw j ≤ wide) ∧ 0 ≤ bh j ∧ bh j ≤ high) := by
  obtain ⟨h1, h2, h3⟩ := h
  have hp := (pf_at (wide := wide) (high := high) (border := border) (pattern := pattern) (bar := bar) 96 (by omega)).1
  refine ⟨by omega, fun j g1 g2 => ?_⟩
  obtain ⟨k, k1, k2, rfl⟩ := pf_onto (wide := wide) (high := high) (border := border) (pattern := pattern) (bar := bar) 96 j g1 (by omega)
  obtain ⟨a1, a2, a3, a4, a5, a6⟩ := h3 k k1 k2
  have bx := sl_box hw hh hb k1 k2
  have kr := kdN_rng wide high border pattern bar k
  have qr := q_rng (sl wide high border pattern bar k) 96 (by decide)
  refine ⟨by omega, by omega, by omega, fun hk => ?_⟩
  have he : ¬ egc border k := by
    intro q
    rw [a3] at hk
    unfold kdN at hk
    rw [if_pos q] at hk
    omega
  have := bx.2.2 he
  omega
end VPURE6
section VPURE7
/-- how many of the first n pieces are of a strip -/
def pcn (high border : Int) (row : Int → Int) (s : Int) : Nat → Int
  | 0 => 0
  | n + 1 => pcn high border row s n + (if sR high border (row n) = s then 1 else 0)
theorem pcn_I {high border s i : Int} {row : Int → Int} (hi : 0 ≤ i) : pcn high border row s (i + 1).toNat = pcn high border row s i.toNat + (if sR high border (row i) = s then 1 else 0) := by
  obtain ⟨k, rfl⟩ : ∃ k : Nat, i = k := ⟨i.toNat, by omega⟩
  rw [show ((k : Int) + 1).toNat = k + 1 by omega, show ((k : Int)).toNat = k by omega]
  rfl
theorem pcn_rng {high border s : Int} {row : Int → Int} : ∀ n : Nat, 0 ≤ pcn high border row s n ∧ pcn high border row s n ≤ n
  | 0 => ⟨Int.le_refl _, Int.le_refl _⟩
  | n + 1 => by
    have := pcn_rng (high := high) (border := border) (s := s) (row := row) n
    unfold pcn
    split <;> omega
theorem pcn_congr {high border s : Int} {row row' : Int → Int} : ∀ n : Nat, (∀ j : Int, 0 ≤ j → j < n → row j = row' j) → pcn high border row s n = pcn high border row' s n
  | 0, _ => rfl
  | n + 1, h => by
    unfold pcn
    rw [pcn_congr n (fun j h1 h2 => h j h1 (by omega)), h n (by omega) (by omega)]
theorem pf_newI {wide high border pattern : Int} {bar : Int → Int} {n : Int} (hn : 0 ≤ n ∧ n < 96) (h : bar n ≠ 1 ∧ ∀ d : Int, 0 ≤ d → d < n → sm wide high border pattern n d → bar d = 1) : (pf wide high border pattern bar (n + 1).toNat).1 = (pf wide high border pattern bar n.toNat).1 + 1 := by
  rw [show (n + 1).toNat = n.toNat + 1 by omega, pf_new ((nw_iff (by omega)).mpr (by rw [Int.toNat_of_nonneg hn.1]; exact h))]
theorem pf_oldI {wide high border pattern : Int} {bar : Int → Int} {n : Int} (hn : 0 ≤ n ∧ n < 96) (h : ¬ (bar n ≠ 1 ∧ ∀ d : Int, 0 ≤ d → d < n → sm wide high border pattern n d → bar d = 1)) : (pf wide high border pattern bar (n + 1).toNat).1 = (pf wide high border pattern bar n.toNat).1 := by
  rw [show (n + 1).toNat = n.toNat + 1 by omega, pf_old (fun q => h (by have := (nw_iff (by omega)).mp q; rw [Int.toNat_of_nonneg hn.1] at this; exact this))]
end VPURE7

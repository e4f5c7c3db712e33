section VPURE8
/-! the reference's words -/
def mbar (mpillar mshut : Int → Int) : Int → Int := fun j => if mpillar j = 1 ∨ (j < 12 ∧ mshut j = 1) then 1 else 0
theorem mbar_iff {mpillar mshut : Int → Int} {j : Int} : mbar mpillar mshut j = 1 ↔ mpillar j = 1 ∨ (j < 12 ∧ mshut j = 1) := by
  unfold mbar
  constructor
  · intro h
    by_cases q : mpillar j = 1 ∨ (j < 12 ∧ mshut j = 1)
    · exact q
    · rw [if_neg q] at h; omega
  · intro h; rw [if_pos h]
def mbw (r l : Int → Int) : Int → Int := fun j => r j - l j + 1
def rowOf (g : Int → Int) : Int → Int := fun j => g j / 12
theorem cC_alt {high border : Int} (hh : 1 ≤ high ∧ high ≤ 4) : (8 - 2 * border + high - 1) / high = cC high border := by
  unfold cC
  rcases one4 hh with rfl | rfl | rfl | rfl <;> omega
theorem uI_uI (g : Int → Int) (k v w : Int) : uI (uI g k v) k w = uI g k w := by
  funext j; unfold uI; split <;> rfl
theorem sh_step' (g : Int → Int) {i k : Int} (h : i ≤ k) : uI (sh g i (k + 1)) k (g (k + 1)) = sh g i (k + 1 + 1) := by
  have := sh_step g (i := i) (x := k + 1) (by omega)
  rw [show k + 1 - 1 = k by omega] at this
  exact this
def MFI (wide high border pattern : Int) (bar : Int → Int) (n : Nat) (cnt : Int) (at_ pk pfc pn lf rt tp_ bt : Int → Int) : Prop :=
  cnt = (pf wide high border pattern bar n).1 ∧ (∀ j : Int, 0 ≤ j → j < 96 → at_ j = (pf wide high border pattern bar n).2 j) ∧
  ∀ k : Nat, k < n → nw wide high border pattern bar k → pfc (pf wide high border pattern bar k).1 = (k : Int) ∧ pk (pf wide high border pattern bar k).1 = kdN wide high border pattern bar k ∧ pn (pf wide high border pattern bar k).1 = qC (sl wide high border pattern bar k) 96 ∧ lf (pf wide high border pattern bar k).1 = qL (sl wide high border pattern bar k) 96 ∧ rt (pf wide high border pattern bar k).1 = qR (sl wide high border pattern bar k) 96 ∧ tp_ (pf wide high border pattern bar k).1 = (k : Int) / 12 ∧ bt (pf wide high border pattern bar k).1 = qB (sl wide high border pattern bar k) 96
theorem MFI_0 {wide high border pattern : Int} {bar g pk pfc pn lf rt tp_ bt : Int → Int} : MFI wide high border pattern bar 0 0 (fil g (-1) 96) pk pfc pn lf rt tp_ bt :=
  ⟨rfl, fun j h1 h2 => by unfold fil; rw [if_pos ⟨h1, h2⟩]; rfl, fun k hk => absurd hk (by omega)⟩
theorem MFI_nw {wide high border pattern cnt n : Int} {bar at_ pk pfc pn lf rt tp_ bt : Int → Int} (h : MFI wide high border pattern bar n.toNat cnt at_ pk pfc pn lf rt tp_ bt) (hn : 0 ≤ n ∧ n < 96) : (nw wide high border pattern bar n.toNat ↔ bar n ≠ 1 ∧ at_ n < 0) ∧ (-1 ≤ at_ n ∧ at_ n < 96) ∧ 0 ≤ cnt ∧ cnt ≤ n := by
  obtain ⟨h1, h2, -⟩ := h
  obtain ⟨p1, p2⟩ := pf_at (wide := wide) (high := high) (border := border) (pattern := pattern) (bar := bar) n.toNat (by omega)
  have h3 := p2 n hn.1 hn.2
  have h4 := h2 n hn.1 hn.2
  rw [h4, h1]
  unfold nw
  rw [Int.toNat_of_nonneg hn.1]
  exact ⟨Iff.rfl, by omega, by omega⟩
theorem MFI_oldI {wide high border pattern cnt n : Int} {bar at_ pk pfc pn lf rt tp_ bt : Int → Int} (hn : 0 ≤ n) (h : MFI wide high border pattern bar n.toNat cnt at_ pk pfc pn lf rt tp_ bt) (hno : ¬ nw wide high border pattern bar n.toNat) : MFI wide high border pattern bar (n + 1).toNat cnt at_ pk pfc pn lf rt tp_ bt := by
  rw [show (n + 1).toNat = n.toNat + 1 by omega]
  obtain ⟨h1, h2, h3⟩ := h
  rw [MFI, pf_old hno]
  exact ⟨h1, h2, fun k hk hw => h3 k (by
    by_cases q : k = n.toNat
    · subst q; exact absurd hw hno
    · omega) hw⟩
theorem MFI_newI {wide high border pattern cnt n v3 : Int} {bar at_ pk pfc pn lf rt tp_ bt : Int → Int} (hn : 0 ≤ n) (h : MFI wide high border pattern bar n.toNat cnt at_ pk pfc pn lf rt tp_ bt) (hyes : nw wide high border pattern bar n.toNat) (e3 : v3 = kdN wide high border pattern bar n) :
    MFI wide high border pattern bar (n + 1).toNat (cnt + 1) (qA (sl wide high border pattern bar n) at_ cnt 96) (uI pk cnt v3) (uI pfc cnt n) (uI pn cnt (qC (sl wide high border pattern bar n) 96)) (uI lf cnt (qL (sl wide high border pattern bar n) 96)) (uI rt cnt (qR (sl wide high border pattern bar n) 96)) (uI tp_ cnt (n / 12)) (uI bt cnt (qB (sl wide high border pattern bar n) 96)) := by
  rw [show (n + 1).toNat = n.toNat + 1 by omega]
  have e : ((n.toNat : Nat) : Int) = n := Int.toNat_of_nonneg hn
  obtain ⟨h1, h2, h3⟩ := h
  rw [MFI, pf_new hyes]
  refine ⟨by dsimp only; rw [h1], fun j g1 g2 => ?_, fun k hk hw => ?_⟩
  · dsimp only
    unfold qA
    rw [h2 j g1 g2, h1, e]
  · by_cases q : k = n.toNat
    · subst q
      rw [h1, uI_eq, uI_eq, uI_eq, uI_eq, uI_eq, uI_eq, uI_eq, e]
      exact ⟨rfl, e3, rfl, rfl, rfl, rfl, rfl⟩
    · have hlt := pf_lt (n := n.toNat) hw (by omega)
      have hne : (pf wide high border pattern bar k).1 ≠ cnt := by omega
      rw [uI_ne _ _ hne, uI_ne _ _ hne, uI_ne _ _ hne, uI_ne _ _ hne, uI_ne _ _ hne, uI_ne _ _ hne, uI_ne _ _ hne]
      exact h3 k (by omega) hw
theorem MFI_dim {wide high border pattern cnt : Int} {bar at_ pk pfc pn lf rt tp_ bt : Int → Int} (hw : 1 ≤ wide ∧ wide ≤ 4) (hh : 1 ≤ high ∧ high ≤ 4) (hb : 0 ≤ border ∧ border ≤ 2) (h : MFI wide high border pattern bar 96 cnt at_ pk pfc pn lf rt tp_ bt) : (0 ≤ cnt ∧ cnt ≤ 96) ∧ ∀ j : Int, 0 ≤ j → j < cnt → (0 ≤ pfc j ∧ pfc j < 96) ∧ (0 ≤ pk j ∧ pk j ≤ 2) ∧ (0 ≤ pn j ∧ pn j ≤ 96) ∧ (pk j = 1 → (0 ≤ mbw rt lf j ∧ mbw rt lf j ≤ wide) ∧ 0 ≤ mbw bt tp_ j ∧ mbw bt tp_ j ≤ high) := by
  obtain ⟨h1, h2, h3⟩ := h
  have hp := (pf_at (wide := wide) (high := high) (border := border) (pattern := pattern) (bar := bar) 96 (by omega)).1
  refine ⟨by omega, fun j g1 g2 => ?_⟩
  obtain ⟨k, k1, k2, rfl⟩ := pf_onto (wide := wide) (high := high) (border := border) (pattern := pattern) (bar := bar) 96 j g1 (by omega)
  obtain ⟨a1, a2, a3, a4, a5, a6, a7⟩ := h3 k k1 k2
  have bx := sl_box hw hh hb k1 k2
  have kr := kdN_rng wide high border pattern bar k
  have qr := q_rng (sl wide high border pattern bar k) 96 (by decide)
  refine ⟨by omega, by omega, by omega, fun hk => ?_⟩
  have he : ¬ egc border k := by
    intro q
    rw [a2] at hk
    unfold kdN at hk
    rw [if_pos q] at hk
    omega
  have := bx.2.2 he
  unfold mbw
  omega
/-- the class's pieces are the reference's -/
theorem PM_same {wide high border pattern cnt mcnt : Int} {bar ofc knd col row siz bw bh at_ pk pfc pn lf rt tp_ bt : Int → Int} (h : PFI wide high border pattern bar 96 cnt ofc knd col row siz bw bh) (g : MFI wide high border pattern bar 96 mcnt at_ pk pfc pn lf rt tp_ bt) :
    cnt = mcnt ∧ (∀ j : Int, 0 ≤ j → j < 96 → ofc j = at_ j) ∧ ∀ j : Int, 0 ≤ j → j < cnt → knd j = pk j ∧ col j = pfc j % 12 ∧ row j = pfc j / 12 ∧ siz j = pn j ∧ bw j = mbw rt lf j ∧ bh j = mbw bt tp_ j := by
  obtain ⟨h1, h2, h3⟩ := h
  obtain ⟨g1, g2, g3⟩ := g
  refine ⟨by rw [h1, g1], fun j i1 i2 => by rw [h2 j i1 i2, g2 j i1 i2], fun j i1 i2 => ?_⟩
  obtain ⟨k, k1, k2, rfl⟩ := pf_onto (wide := wide) (high := high) (border := border) (pattern := pattern) (bar := bar) 96 j i1 (by omega)
  obtain ⟨a1, a2, a3, a4, a5, a6⟩ := h3 k k1 k2
  obtain ⟨b1, b2, b3, b4, b5, b6, b7⟩ := g3 k k1 k2
  unfold mbw
  rw [a1, a2, a3, a4, a5, a6, b1, b2, b3, b4, b5, b6, b7]
  exact ⟨rfl, rfl, rfl, rfl, rfl, rfl⟩
end VPURE8
section VPURE9
theorem tlN_rng {wide high border pattern c : Int} (hw : 1 ≤ wide ∧ wide ≤ 4) (hh : 1 ≤ high ∧ high ≤ 4) (hb : 0 ≤ border ∧ border ≤ 2) (hc : 0 ≤ c ∧ c < 96) (he : ¬ (c % 12 < border ∨ 12 - border ≤ c % 12 ∨ c / 12 < border ∨ 8 - border ≤ c / 12)) : 0 ≤ tlN wide high border pattern c ∧ tlN wide high border pattern c < 10000 := by
  have hs := shf_rng (high := high) (border := border) (pattern := pattern) (y := c / 12) hw
  have d1 := dm_rng (t := c / 12 - border) (w := high) (by omega) hh.1
  have d2 := dm_rng (t := c % 12 - border + shf wide high border pattern (c / 12)) (w := wide) (by omega) hw.1
  unfold tlN
  omega
end VPURE9

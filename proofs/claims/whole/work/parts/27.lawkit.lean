section VLAW
section
variable {p : Program} {l : Launch} {e : Env} {R : Room} {s : State} {m : MethodId} {args : Array Value} {below : List Frame} {meth : Method} {c : Code} {Q : State → Prop} {D : va_G} {A : Nat → Prop} {H0 : Heap} {nL cells slots : Nat} {ws : va_W} {lv : List (Nat × Value)} {pc : Nat} {st : List Value} {own nm : String} {cc : ByteArray} {ret : Option FieldType} {Ts : List Cond} {cs : Nat → ClassId}
/-- the script's int at z, as a whole number -/
def sX (xs : Nat → Int32) (z : Int) : Int := (xs z.toNat).toInt
theorem sX_rng (xs : Nat → Int32) (z : Int) : -2147483648 ≤ sX xs z ∧ sX xs z < 2147483648 := iI_rng _
theorem v_sld (hC : v_C p s m args meth c own nm cc nL ret Ts D cs A s.heap) {b L : Nat} {xs : Nat → Int32} (hX : va_X b L xs s s.heap) (hbl : b < s.heap.size) (hbA : ¬ A b) (pc' : Nat) {z : Int} (hdg : decode cc pc = .ok (.iaload, 1)) (hpc : pc + 1 = pc') (hL : L ≤ 2560) (hz : 0 ≤ z ∧ z < (L : Int)) (kk : V p l e R s m args below meth c Q D A s.heap nL cells slots ws lv pc' (.int (iI (sX xs z)) :: st)) : V p l e R s m args below meth c Q D A s.heap nL cells slots ws lv pc (.int (iI z) :: .ref b :: st) := by
  obtain ⟨hx, hb, hml, hown, hts, hr, hnm, hlk, hK, hN, hA⟩ := hC
  subst hpc
  intro H locs ls hP hD hS hl
  refine va_sld hx hb hX hbl hbA hS (iI_in hz (by omega)) hdg ?_
  have h := kk H locs ls hP hD hS hl
  rw [iI_clamp (by omega)]
  unfold sX at h
  rw [← iI_of] at h
  exact h
theorem v_slen (hC : v_C p s m args meth c own nm cc nL ret Ts D cs A s.heap) {b L : Nat} {xs : Nat → Int32} (hX : va_X b L xs s s.heap) (hbl : b < s.heap.size) (hbA : ¬ A b) (pc' : Nat) (hdg : decode cc pc = .ok (.arraylength, 1)) (hpc : pc + 1 = pc') (kk : V p l e R s m args below meth c Q D A s.heap nL cells slots ws lv pc' (.int (iI (L : Int)) :: st)) : V p l e R s m args below meth c Q D A s.heap nL cells slots ws lv pc (.ref b :: st) := by
  obtain ⟨hx, hb, hml, hown, hts, hr, hnm, hlk, hK, hN, hA⟩ := hC
  subst hpc
  intro H locs ls hP hD hS hl
  refine va_slen hx hb hX hbl hbA hS hdg ?_
  have h := kk H locs ls hP hD hS hl
  rw [iI_nat] at h
  exact h
theorem v_newal (hC : v_C p s m args meth c own nm cc nL ret Ts D cs A H0) (pc' : Nat) {n : Nat} {cells' slots' : Nat} (hdg : decode cc pc = .ok (.newarray .long, 2)) (hpc : pc + 2 = pc') (harr : Cond.arrayClass .long ∈ Ts) (hn : n < 1000) (hcs : cells + 1 = cells' ∧ slots + n = slots') (hR : cells' ≤ R.cells ∧ slots' ≤ R.slots) (kk : ∀ q : Nat, V p l e R s m args below meth c Q D A H0 nL cells' slots' (ws ++ [(q, .inl (cs 2, n, .inr (.inl (bI (fun _ => 0)))))]) lv pc' (.ref q :: st)) : V p l e R s m args below meth c Q D A H0 nL cells slots ws lv pc (.int (iI n) :: st) := by
  obtain ⟨hx, hb, hml, hown, hts, hr, hnm, hlk, hK, hN, hA⟩ := hC
  obtain ⟨rfl, rfl⟩ := hcs
  subst hpc; exact fun H locs ls hP hD hS hl => va_newa (atype := .long) hx hb (hts _ harr) rfl hK hP hD hS hA (a0 := (n, .inr (.inl (bI (fun _ => 0))))) (fun cA => rfl) (by rw [iI_0, iI_lt (by omega) (by omega)]; omega) (by rw [iI_clamp (by omega)]; omega) (by show n * 8 ≤ 536870912; omega) hR.1 hR.2 hdg (fun q cA H hK1 hP hD hS => by
    have h1 := (hK1.2 3 (cA, .long) rfl).2
    have h2 := (hK.2 2 (cs 2, .long) rfl).2
    have h3 : cA = cs 2 := Option.some.inj (h1.symm.trans h2)
    subst h3
    exact kk q H locs ls hP hD hS hl)
end
/-- what the law's objects hold, the class's and the reference's; what both hold alike is said once -/
structure Sv where
  (wide high border pattern door : Int)
  (pil bar : Int → Int)
  (cnt : Int)
  (ofc knd col row siz bw bh : Int → Int)
  (fl fr ft fb gfl gfr gft gfb : Int)
  (nt rc : Int)
  (src rw rh rmk : Int → Int)
  (kc km : Int)
  (kf kt : Int → Int)
  (hour grt beg : Int)
  (laid dryh : Int → Int)
  (mpieces mtiles mrests mthrown mcrates mmoves mhour : Int)
  (mpil mcf mcn mshut mpk mpf mpn mpr mleft mright mtop mbottom mat mrw mrh mrp mdry : Int → Int)
  (og : Int → Int)
/-- n instructions of the script are done -/
structure REL (n : Nat) (y : Sv) : Prop where
  hw : 1 ≤ y.wide ∧ y.wide ≤ 4
  hh : 1 ≤ y.high ∧ y.high ≤ 4
  hb : 0 ≤ y.border ∧ y.border ≤ 2
  hp : 0 ≤ y.pattern ∧ y.pattern ≤ 1
  hd : 0 ≤ y.door ∧ y.door ≤ 10
  hpil : Rn y.pil 0 1
  hsh : Rn y.mshut 0 1
  hbar : y.bar = mbar y.pil y.mshut
  hmp : y.mpil = y.pil
  hmc : y.mcf = y.kf ∧ y.mcn = y.kt ∧ y.mcrates = y.kc ∧ y.mmoves = y.km
  hmh : y.mhour = y.hour
  hpo : ∀ j : Int, (j < 0 ∨ 96 ≤ j) → y.pil j = 0
  hso : ∀ j : Int, (j < 0 ∨ 12 ≤ j) → y.mshut j = 0
  hsd : y.laid 0 ≠ 1 → ∀ j : Int, 0 ≤ j → j < 12 → (y.mshut j = 1 ↔ y.door ≤ j ∧ j < y.door + 2)
  hlaid : Rn y.laid 0 1
  hdry : Rn y.dryh 0 1000000
  hmd : Rn y.mdry (-1) 1000000
  hld : ∀ j : Int, 0 ≤ j → j < 8 → (y.laid j = 1 ↔ 0 ≤ y.mdry j) ∧ (y.laid j = 1 → y.dryh j = y.mdry j)
  hbeg : y.beg = 0 ∨ y.beg = 1
  hbl : y.beg = 0 → ∀ j : Int, 0 ≤ j → j < 8 → y.laid j ≠ 1
  hhr : 0 ≤ y.hour ∧ y.hour ≤ 100 * (n : Int)
  hkm : 0 ≤ y.km ∧ y.km ≤ 40 * (n : Int)
  hkc : 0 ≤ y.kc ∧ y.kc ≤ 20
  hkf : Rn y.kf 0 9
  hkt : Rn y.kt 0 100
  hg : 0 ≤ y.grt ∧ y.grt ≤ 48
  hP : PFI y.wide y.high y.border y.pattern y.bar 96 y.cnt y.ofc y.knd y.col y.row y.siz y.bw y.bh
  hknd : Rn y.knd 0 2
  hM : MFI y.wide y.high y.border y.pattern y.bar 96 y.mpieces y.mat y.mpk y.mpf y.mpn y.mleft y.mright y.mtop y.mbottom
  hmpk : Rn y.mpk 0 2
  hC : CTd y.wide y.high y.cnt y.knd y.bw y.bh y.nt y.rc y.rw y.rh y.rmk y.src
  hMC : CTd y.wide y.high y.mpieces y.mpk (mbw y.mright y.mleft) (mbw y.mbottom y.mtop) y.mtiles y.mrests y.mrw y.mrh y.mrp y.mpr
theorem CTd_ok {W H cnt : Int} {knd bw bh : Int → Int} {nt rc : Int} {rw rh rmk src : Int → Int} (h : CTd W H cnt knd bw bh nt rc rw rh rmk src) (hW : W ≤ 4) (hH : H ≤ 4) (hcnt : 0 ≤ cnt ∧ cnt ≤ 96) (hd : ∀ j : Int, 0 ≤ j → j < cnt → knd j = 1 → (0 ≤ bw j ∧ bw j ≤ W) ∧ 0 ≤ bh j ∧ bh j ≤ H) : Rok (rc, rw, rh, rmk) 96 := by
  obtain ⟨s0, h0, h1, h2, h3⟩ := h
  have hk := Rok_ct (knd := knd) (bw := bw) (bh := bh) h0 hW hH cnt.toNat (by omega) (fun j i1 i2 i3 => hd j i1 (by omega) i3)
  rw [← h1] at hk
  exact Rok_le hk (by omega)
/-- what follows: both see the same -/
structure EQ (y : Sv) : Prop where
  e1 : y.cnt = y.mpieces
  e2 : 0 ≤ y.cnt ∧ y.cnt ≤ 96
  e3 : ∀ j : Int, 0 ≤ j → j < 96 → y.ofc j = y.mat j ∧ -1 ≤ y.ofc j ∧ y.ofc j ≤ 96
  e4 : ∀ j : Int, 0 ≤ j → j < y.cnt → y.knd j = y.mpk j ∧ y.col j = y.mpf j % 12 ∧ y.row j = y.mpf j / 12 ∧ y.siz j = y.mpn j
  e5 : ∀ j : Int, 0 ≤ j → j < y.cnt → ((0 ≤ y.col j ∧ y.col j < 12) ∧ 0 ≤ y.row j ∧ y.row j < 8) ∧ (0 ≤ y.knd j ∧ y.knd j ≤ 2) ∧ 0 ≤ y.siz j ∧ y.siz j ≤ 96
  e6 : ∀ j : Int, 0 ≤ j → j < y.mpieces → 0 ≤ y.mpf j ∧ y.mpf j < 96
  e7 : y.nt = y.mtiles ∧ y.rc = y.mrests
  e8 : 0 ≤ y.rc ∧ y.rc ≤ 96
  e9 : ∀ j : Int, 0 ≤ j → j < y.rc → y.rw j = y.mrw j ∧ y.rh j = y.mrh j
  e10 : ∀ j : Int, 0 ≤ j → j < y.cnt → y.src j = y.mpr j ∧ -1 ≤ y.src j ∧ y.src j ≤ 96
  e11 : Rok (y.rc, y.rw, y.rh, y.rmk) 96
  e12 : Rok (y.mrests, y.mrw, y.mrh, y.mrp) 96
  e13 : y.cnt = (pf y.wide y.high y.border y.pattern y.bar 96).1
  e14 : Rn y.rw 0 4 ∧ Rn y.rh 0 4
  e15 : Rn y.bar 0 1
theorem REL.eq {n : Nat} {y : Sv} (h : REL n y) : EQ y := by
  have p1 := PFI_dim h.hw h.hh h.hb h.hP
  have p2 := MFI_dim h.hw h.hh h.hb h.hM
  have p3 := PM_same h.hP h.hM
  have p4 := CT_same h.hw.2 h.hh.2 p1.1 h.hC (by rw [p3.1]; exact h.hMC) (fun j i1 i2 => (p1.2 j i1 i2).2.2.2) (fun j i1 i2 => ⟨(p3.2.2 j i1 i2).1, (p3.2.2 j i1 i2).2.2.2.2.1, (p3.2.2 j i1 i2).2.2.2.2.2⟩)
  have p5 := CTd_ok h.hMC h.hw.2 h.hh.2 p2.1 (fun j i1 i2 => (p2.2 j i1 i2).2.2.2)
  have p6 := pf_at (wide := y.wide) (high := y.high) (border := y.border) (pattern := y.pattern) (bar := y.bar) 96 (by omega)
  refine ⟨p3.1, p1.1, fun j i1 i2 => ⟨p3.2.1 j i1 i2, ?_⟩, fun j i1 i2 => ⟨(p3.2.2 j i1 i2).1, (p3.2.2 j i1 i2).2.1, (p3.2.2 j i1 i2).2.2.1, (p3.2.2 j i1 i2).2.2.2.1⟩, fun j i1 i2 => ⟨(p1.2 j i1 i2).1, (p1.2 j i1 i2).2.1, (p1.2 j i1 i2).2.2.1⟩, fun j i1 i2 => (p2.2 j i1 i2).1, ⟨p4.1, p4.2.1⟩, p4.2.2.1, p4.2.2.2.1, p4.2.2.2.2.1, p4.2.2.2.2.2.2, p5, h.hP.1, p4.2.2.2.2.2.1, ?_⟩
  · rw [h.hP.2.1 j i1 i2]
    have q := (p6.2 j i1 i2).2
    omega
  · intro j
    rw [h.hbar]
    unfold mbar
    split <;> omega
end VLAW

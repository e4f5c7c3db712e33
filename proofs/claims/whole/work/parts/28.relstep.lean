section VREL
theorem REL.mono {n : Nat} {wide high border pattern door cnt fl fr ft fb gfl gfr gft gfb nt rc kc km hour grt beg mpieces mtiles mrests mthrown mcrates mmoves mhour : Int} {pil bar ofc knd col row siz bw bh src rw rh rmk kf kt laid dryh mpil mcf mcn mshut mpk mpf mpn mpr mleft mright mtop mbottom mat mrw mrh mrp mdry og : Int → Int} (h : REL n wide high border pattern door cnt fl fr ft fb gfl gfr gft gfb nt rc kc km hour grt beg mpieces mtiles mrests mthrown mcrates mmoves mhour pil bar ofc knd col row siz bw bh src rw rh rmk kf kt laid dryh mpil mcf mcn mshut mpk mpf mpn mpr mleft mright mtop mbottom mat mrw mrh mrp mdry og) : REL (n + 1) wide high border pattern door cnt fl fr ft fb gfl gfr gft gfb nt rc kc km hour grt beg mpieces mtiles mrests mthrown mcrates mmoves mhour pil bar ofc knd col row siz bw bh src rw rh rmk kf kt laid dryh mpil mcf mcn mshut mpk mpf mpn mpr mleft mright mtop mbottom mat mrw mrh mrp mdry og :=
  (REL.mk h.hw h.hh h.hb h.hp h.hd h.hpil h.hsh h.hbar h.hmp h.hmc h.hmh h.hpo h.hso h.hsd h.hlaid h.hdry h.hmd h.hld h.hbeg h.hbl (⟨h.hhr.1, by have := h.hhr.2; omega⟩) (⟨h.hkm.1, by have := h.hkm.2; omega⟩) h.hkc h.hkf h.hkt h.hg h.hP h.hknd h.hM h.hmpk h.hC h.hMC)
/-- a reader, or a call that is refused -/
theorem REL.rd {n : Nat} {wide high border pattern door cnt fl fr ft fb gfl gfr gft gfb nt rc kc km hour grt beg mpieces mtiles mrests mthrown mcrates mmoves mhour : Int} {pil bar ofc knd col row siz bw bh src rw rh rmk kf kt laid dryh mpil mcf mcn mshut mpk mpf mpn mpr mleft mright mtop mbottom mat mrw mrh mrp mdry og : Int → Int} (h : REL n wide high border pattern door cnt fl fr ft fb gfl gfr gft gfb nt rc kc km hour grt beg mpieces mtiles mrests mthrown mcrates mmoves mhour pil bar ofc knd col row siz bw bh src rw rh rmk kf kt laid dryh mpil mcf mcn mshut mpk mpf mpn mpr mleft mright mtop mbottom mat mrw mrh mrp mdry og) (t a b c d : Int) (o : Int → Int) : REL (n + 1) wide high border pattern door cnt fl fr ft fb a b c d nt rc kc km hour grt beg mpieces mtiles mrests t mcrates mmoves mhour pil bar ofc knd col row siz bw bh src rw rh rmk kf kt laid dryh mpil mcf mcn mshut mpk mpf mpn mpr mleft mright mtop mbottom mat mrw mrh mrp mdry o :=
  (REL.mk h.hw h.mono.hh h.mono.hb h.mono.hp h.mono.hd h.mono.hpil h.mono.hsh h.mono.hbar h.mono.hmp h.mono.hmc h.mono.hmh h.mono.hpo h.mono.hso h.mono.hsd h.mono.hlaid h.mono.hdry h.mono.hmd h.mono.hld h.mono.hbeg h.mono.hbl h.mono.hhr h.mono.hkm h.mono.hkc h.mono.hkf h.mono.hkt h.mono.hg h.mono.hP h.mono.hknd h.mono.hM h.mono.hmpk h.mono.hC h.mono.hMC)
theorem sR_row0 {high border : Int} (hh : 1 ≤ high ∧ high ≤ 4) (hb : 0 ≤ border ∧ border ≤ 2) : sR high border 0 = 0 := by
  unfold sR
  by_cases h : 0 < border
  · rw [if_pos h]
  · rw [if_neg h, if_neg (by omega), show border = 0 by omega]
    simp
theorem mbar_lo {pil mshut : Int → Int} {j : Int} (h : 12 ≤ j) : mbar pil mshut j = if pil j = 1 then 1 else 0 := by
  unfold mbar
  by_cases c : pil j = 1
  · rw [if_pos (Or.inl c), if_pos c]
  · rw [if_neg (fun q => by omega), if_neg c]
theorem dr_lo {pil : Int → Int} {door j : Int} (h : 12 ≤ j) : dr pil door j = if pil j = 1 then 1 else 0 := by
  unfold dr
  by_cases c : pil j = 1
  · rw [if_pos (Or.inl c), if_pos c]
  · rw [if_neg (fun q => by omega), if_neg c]
theorem dr_up {pil mshut : Int → Int} {door j : Int} (h0 : 0 ≤ j) (h : j < 12) (hs : mshut j = 1 ↔ door ≤ j ∧ j < door + 2) : dr pil door j = mbar pil mshut j := by
  unfold dr mbar
  by_cases c : pil j = 1 ∨ (j < 12 ∧ mshut j = 1)
  · rw [if_pos c, if_pos (by omega)]
  · rw [if_neg c, if_neg (by omega)]
/-- every row is renewed: no strip is laid -/
theorem rnw_all {pil bar laid mshut : Int → Int} {door k b : Int} (hk : 1 ≤ k ∧ k ≤ 4) (hb : 0 ≤ b ∧ b ≤ 2) (hl : ∀ j : Int, 0 ≤ j → j < 8 → laid j ≠ 1) (ho : ∀ j : Int, (j < 0 ∨ 96 ≤ j) → bar j = mbar pil mshut j) (hsd : ∀ j : Int, 0 ≤ j → j < 12 → (mshut j = 1 ↔ door ≤ j ∧ j < door + 2)) : rnw pil bar laid door k b 8 = mbar pil mshut := by
  funext j
  unfold rnw
  have hn := nS_rng hk hb
  by_cases c : 0 ≤ j ∧ j < 96
  · have hs := sR_rng hk hb (y := j / 12) (by omega)
    rw [if_pos ⟨c.1, by omega, hl _ hs.1 (by omega)⟩]
    by_cases c2 : j < 12
    · exact dr_up c.1 c2 (hsd j c.1 c2)
    · rw [dr_lo (by omega), mbar_lo (by omega)]
  · rw [if_neg (fun q => by omega)]
    exact ho j (by omega)
/-- the door moves, its strip isn't laid -/
theorem rnw_door {pil bar laid mshut mshut' : Int → Int} {door k b : Int} (hk : 1 ≤ k ∧ k ≤ 4) (hb : 0 ≤ b ∧ b ≤ 2) (hl : laid 0 ≠ 1) (hbar : bar = mbar pil mshut) (hso : ∀ j : Int, (j < 0 ∨ 12 ≤ j) → mshut' j = mshut j) (hsd : ∀ j : Int, 0 ≤ j → j < 12 → (mshut' j = 1 ↔ door ≤ j ∧ j < door + 2)) : rnw pil bar laid door k b 8 = mbar pil mshut' := by
  funext j
  unfold rnw
  by_cases c2 : 0 ≤ j ∧ j < 12
  · rw [if_pos ⟨c2.1, by omega, by rw [show j / 12 = 0 by omega, sR_row0 hk hb]; exact hl⟩]
    exact dr_up c2.1 c2.2 (hsd j c2.1 c2.2)
  · by_cases c3 : j < 0
    · rw [if_neg (fun q => by omega), hbar]
      unfold mbar
      rw [hso j (by omega)]
    · split
      · rw [dr_lo (by omega), mbar_lo (by omega)]
      · rw [hbar, mbar_lo (by omega), mbar_lo (by omega)]
/-- the door moves, its strip is laid -/
theorem rnw_shut {pil bar laid mshut : Int → Int} {door k b : Int} (hk : 1 ≤ k ∧ k ≤ 4) (hb : 0 ≤ b ∧ b ≤ 2) (hl : laid 0 = 1) (hbar : bar = mbar pil mshut) : rnw pil bar laid door k b 8 = bar := by
  funext j
  unfold rnw
  split
  · next c =>
    by_cases c2 : j < 12
    · exfalso
      apply c.2.2
      rw [show j / 12 = 0 by omega, sR_row0 hk hb]
      exact hl
    · rw [dr_lo (by omega), hbar, mbar_lo (by omega)]
  · rfl
theorem CTd_of {W H cnt : Int} {knd bw bh : Int → Int} {nt rc : Int} {rw rh rmk src : Int → Int} {s0 : Rs} (h0 : Rok s0 96) (i4 : ((rc, rw, rh, rmk) : Rs) = ctR W H knd bw bh s0 cnt.toNat) (i5 : nt = ctT W H knd bw bh s0 cnt.toNat) (i6 : ∀ j : Int, 0 ≤ j → j < cnt → src j = ctS W H knd bw bh s0 j.toNat) : CTd W H cnt knd bw bh nt rc rw rh rmk src := ⟨s0, h0, i4, i5, i6⟩
section
variable {n : Nat} {wide high border pattern door cnt fl fr ft fb gfl gfr gft gfb nt rc kc km hour grt beg mpieces mtiles mrests mthrown mcrates mmoves mhour : Int} {pil bar ofc knd col row siz bw bh src rw rh rmk kf kt laid dryh mpil mcf mcn mshut mpk mpf mpn mpr mleft mright mtop mbottom mat mrw mrh mrp mdry og : Int → Int} {bar1 ofc1 knd1 col1 row1 siz1 bw1 bh1 rw1 rh1 rm1 src1 mat1 mpk1 mpf1 mpn1 mleft1 mright1 mtop1 mbottom1 mrw1 mrh1 mrp1 mpr1 : Int → Int} {cnt1 nt1 rc1 mpieces1 mtiles1 mrests1 : Int}
theorem REL.plan (h : REL n wide high border pattern door cnt fl fr ft fb gfl gfr gft gfb nt rc kc km hour grt beg mpieces mtiles mrests mthrown mcrates mmoves mhour pil bar ofc knd col row siz bw bh src rw rh rmk kf kt laid dryh mpil mcf mcn mshut mpk mpf mpn mpr mleft mright mtop mbottom mat mrw mrh mrp mdry og) {w k b q : Int} (fl1 fr1 ft1 fb1 : Int) (og1 : Int → Int) (hok : (1 ≤ w ∧ w ≤ 4) ∧ (1 ≤ k ∧ k ≤ 4) ∧ (0 ≤ b ∧ b ≤ 2) ∧ 0 ≤ q ∧ q ≤ 1) (hbeg : beg = 0) (i1 : bar1 = rnw pil bar laid door k b 8) (i2 : PFI w k b q bar1 96 cnt1 ofc1 knd1 col1 row1 siz1 bw1 bh1) (i3 : Rn knd1 0 2) (i4 : ((rc1, rw1, rh1, rm1) : Rs) = ctR w k knd1 bw1 bh1 (rc, rw, rh, rmk) cnt1.toNat) (i5 : nt1 = ctT w k knd1 bw1 bh1 (rc, rw, rh, rmk) cnt1.toNat) (i6 : ∀ j : Int, 0 ≤ j → j < cnt1 → src1 j = ctS w k knd1 bw1 bh1 (rc, rw, rh, rmk) j.toNat)
    (m1 : MFI w k b q (mbar mpil mshut) 96 mpieces1 mat1 mpk1 mpf1 mpn1 mleft1 mright1 mtop1 mbottom1) (m2 : Rn mpk1 0 2) (m3 : ((mrests1, mrw1, mrh1, mrp1) : Rs) = ctR w k mpk1 (mbw mright1 mleft1) (mbw mbottom1 mtop1) (mrests, mrw, mrh, mrp) mpieces1.toNat) (m4 : mtiles1 = ctT w k mpk1 (mbw mright1 mleft1) (mbw mbottom1 mtop1) (mrests, mrw, mrh, mrp) mpieces1.toNat) (m5 : ∀ j : Int, 0 ≤ j → j < mpieces1 → mpr1 j = ctS w k mpk1 (mbw mright1 mleft1) (mbw mbottom1 mtop1) (mrests, mrw, mrh, mrp) j.toNat) :
    REL (n + 1) w k b q door cnt1 fl1 fr1 ft1 fb1 gfl gfr gft gfb nt1 rc1 kc km hour grt beg mpieces1 mtiles1 mrests1 0 mcrates mmoves mhour pil bar1 ofc1 knd1 col1 row1 siz1 bw1 bh1 src1 rw1 rh1 rm1 kf kt laid dryh mpil mcf mcn mshut mpk1 mpf1 mpn1 mpr1 mleft1 mright1 mtop1 mbottom1 mat1 mrw1 mrh1 mrp1 mdry og1 := by
  have hE := h.eq
  have h' := h.mono
  have hb0 := h.hbl hbeg
  have e : bar1 = mbar pil mshut := by
    rw [i1]
    exact rnw_all hok.2.1 hok.2.2.1 hb0 (fun j _ => by rw [h.hbar]) (h.hsd (hb0 0 (by omega) (by omega)))
  rw [h.hmp, ← e] at m1
  exact (REL.mk hok.1 hok.2.1 hok.2.2.1 hok.2.2.2 h'.hd h'.hpil h'.hsh e h'.hmp h'.hmc h'.hmh h'.hpo h'.hso h'.hsd h'.hlaid h'.hdry h'.hmd h'.hld h'.hbeg h'.hbl h'.hhr h'.hkm h'.hkc h'.hkf h'.hkt h'.hg i2 i3 m1 m2 (CTd_of hE.e11 i4 i5 i6) (CTd_of hE.e12 m3 m4 m5))
theorem REL.pillar (h : REL n wide high border pattern door cnt fl fr ft fb gfl gfr gft gfb nt rc kc km hour grt beg mpieces mtiles mrests mthrown mcrates mmoves mhour pil bar ofc knd col row siz bw bh src rw rh rmk kf kt laid dryh mpil mcf mcn mshut mpk mpf mpn mpr mleft mright mtop mbottom mat mrw mrh mrp mdry og) {x r v : Int} (fl1 fr1 ft1 fb1 : Int) (og1 : Int → Int) (hok : (0 ≤ x ∧ x < 12) ∧ 0 ≤ r ∧ r < 8) (hv : v = 0 ∨ v = 1) (hbeg : beg = 0) (i1 : bar1 = rnw (uI pil (r * 12 + x) v) bar laid door high border 8) (i2 : PFI wide high border pattern bar1 96 cnt1 ofc1 knd1 col1 row1 siz1 bw1 bh1) (i3 : Rn knd1 0 2) (i4 : ((rc1, rw1, rh1, rm1) : Rs) = ctR wide high knd1 bw1 bh1 (rc, rw, rh, rmk) cnt1.toNat) (i5 : nt1 = ctT wide high knd1 bw1 bh1 (rc, rw, rh, rmk) cnt1.toNat) (i6 : ∀ j : Int, 0 ≤ j → j < cnt1 → src1 j = ctS wide high knd1 bw1 bh1 (rc, rw, rh, rmk) j.toNat)
    (m1 : MFI wide high border pattern (mbar (uI mpil (12 * r + x) v) mshut) 96 mpieces1 mat1 mpk1 mpf1 mpn1 mleft1 mright1 mtop1 mbottom1) (m2 : Rn mpk1 0 2) (m3 : ((mrests1, mrw1, mrh1, mrp1) : Rs) = ctR wide high mpk1 (mbw mright1 mleft1) (mbw mbottom1 mtop1) (mrests, mrw, mrh, mrp) mpieces1.toNat) (m4 : mtiles1 = ctT wide high mpk1 (mbw mright1 mleft1) (mbw mbottom1 mtop1) (mrests, mrw, mrh, mrp) mpieces1.toNat) (m5 : ∀ j : Int, 0 ≤ j → j < mpieces1 → mpr1 j = ctS wide high mpk1 (mbw mright1 mleft1) (mbw mbottom1 mtop1) (mrests, mrw, mrh, mrp) j.toNat) :
    REL (n + 1) wide high border pattern door cnt1 fl1 fr1 ft1 fb1 gfl gfr gft gfb nt1 rc1 kc km hour grt beg mpieces1 mtiles1 mrests1 0 mcrates mmoves mhour (uI pil (r * 12 + x) v) bar1 ofc1 knd1 col1 row1 siz1 bw1 bh1 src1 rw1 rh1 rm1 kf kt laid dryh (uI mpil (12 * r + x) v) mcf mcn mshut mpk1 mpf1 mpn1 mpr1 mleft1 mright1 mtop1 mbottom1 mat1 mrw1 mrh1 mrp1 mdry og1 := by
  have hE := h.eq
  have h' := h.mono
  have hb0 := h.hbl hbeg
  have hz : 12 * r + x = r * 12 + x := by omega
  have hpo : ∀ j : Int, (j < 0 ∨ 96 ≤ j) → uI pil (r * 12 + x) v j = 0 := fun j hj => by rw [uI_ne _ _ (by omega)]; exact h.hpo j hj
  have e : bar1 = mbar (uI pil (r * 12 + x) v) mshut := by
    rw [i1]
    refine rnw_all h.hh h.hb hb0 (fun j hj => ?_) (h.hsd (hb0 0 (by omega) (by omega)))
    rw [h.hbar]
    unfold mbar
    rw [hpo j hj, h.hpo j hj]
  have e2 : uI mpil (12 * r + x) v = uI pil (r * 12 + x) v := by rw [h.hmp, hz]
  rw [e2, ← e] at m1
  exact (REL.mk h'.hw h'.hh h'.hb h'.hp h'.hd (Rn_uI h.hpil (by omega)) h'.hsh e e2 h'.hmc h'.hmh hpo h'.hso h'.hsd h'.hlaid h'.hdry h'.hmd h'.hld h'.hbeg h'.hbl h'.hhr h'.hkm h'.hkc h'.hkf h'.hkt h'.hg i2 i3 m1 m2 (CTd_of hE.e11 i4 i5 i6) (CTd_of hE.e12 m3 m4 m5))
theorem REL.door0 (h : REL n wide high border pattern door cnt fl fr ft fb gfl gfr gft gfb nt rc kc km hour grt beg mpieces mtiles mrests mthrown mcrates mmoves mhour pil bar ofc knd col row siz bw bh src rw rh rmk kf kt laid dryh mpil mcf mcn mshut mpk mpf mpn mpr mleft mright mtop mbottom mat mrw mrh mrp mdry og) {x : Int} (fl1 fr1 ft1 fb1 : Int) (og1 : Int → Int) (hok : 0 ≤ x ∧ x ≤ 10) (hl0 : laid 0 ≠ 1) (i1 : bar1 = rnw pil bar laid x high border 8) (i2 : PFI wide high border pattern bar1 96 cnt1 ofc1 knd1 col1 row1 siz1 bw1 bh1) (i3 : Rn knd1 0 2) (i4 : ((rc1, rw1, rh1, rm1) : Rs) = ctR wide high knd1 bw1 bh1 (rc, rw, rh, rmk) cnt1.toNat) (i5 : nt1 = ctT wide high knd1 bw1 bh1 (rc, rw, rh, rmk) cnt1.toNat) (i6 : ∀ j : Int, 0 ≤ j → j < cnt1 → src1 j = ctS wide high knd1 bw1 bh1 (rc, rw, rh, rmk) j.toNat)
    (m1 : MFI wide high border pattern (mbar mpil (shw x mshut 12)) 96 mpieces1 mat1 mpk1 mpf1 mpn1 mleft1 mright1 mtop1 mbottom1) (m2 : Rn mpk1 0 2) (m3 : ((mrests1, mrw1, mrh1, mrp1) : Rs) = ctR wide high mpk1 (mbw mright1 mleft1) (mbw mbottom1 mtop1) (mrests, mrw, mrh, mrp) mpieces1.toNat) (m4 : mtiles1 = ctT wide high mpk1 (mbw mright1 mleft1) (mbw mbottom1 mtop1) (mrests, mrw, mrh, mrp) mpieces1.toNat) (m5 : ∀ j : Int, 0 ≤ j → j < mpieces1 → mpr1 j = ctS wide high mpk1 (mbw mright1 mleft1) (mbw mbottom1 mtop1) (mrests, mrw, mrh, mrp) j.toNat) :
    REL (n + 1) wide high border pattern x cnt1 fl1 fr1 ft1 fb1 gfl gfr gft gfb nt1 rc1 kc km hour grt beg mpieces1 mtiles1 mrests1 0 mcrates mmoves mhour pil bar1 ofc1 knd1 col1 row1 siz1 bw1 bh1 src1 rw1 rh1 rm1 kf kt laid dryh mpil mcf mcn (shw x mshut 12) mpk1 mpf1 mpn1 mpr1 mleft1 mright1 mtop1 mbottom1 mat1 mrw1 mrh1 mrp1 mdry og1 := by
  have hE := h.eq
  have h' := h.mono
  have hs1 : ∀ j : Int, (j < 0 ∨ 12 ≤ j) → shw x mshut 12 j = mshut j := fun j hj => by unfold shw; rw [if_neg (by omega)]
  have hs2 : ∀ j : Int, 0 ≤ j → j < 12 → (shw x mshut 12 j = 1 ↔ x ≤ j ∧ j < x + 2) := fun j i1 i2 => by
    unfold shw
    rw [if_pos ⟨i1, i2⟩]
    split <;> omega
  have e : bar1 = mbar pil (shw x mshut 12) := by
    rw [i1]
    exact rnw_door h.hh h.hb hl0 h.hbar hs1 hs2
  rw [h.hmp, ← e] at m1
  exact (REL.mk h'.hw h'.hh h'.hb h'.hp hok h'.hpil (Rn_shw h.hsh) e h'.hmp h'.hmc h'.hmh h'.hpo (fun j hj => by rw [hs1 j hj]; exact h.hso j hj) (fun _ => hs2) h'.hlaid h'.hdry h'.hmd h'.hld h'.hbeg h'.hbl h'.hhr h'.hkm h'.hkc h'.hkf h'.hkt h'.hg i2 i3 m1 m2 (CTd_of hE.e11 i4 i5 i6) (CTd_of hE.e12 m3 m4 m5))
theorem REL.door1 (h : REL n wide high border pattern door cnt fl fr ft fb gfl gfr gft gfb nt rc kc km hour grt beg mpieces mtiles mrests mthrown mcrates mmoves mhour pil bar ofc knd col row siz bw bh src rw rh rmk kf kt laid dryh mpil mcf mcn mshut mpk mpf mpn mpr mleft mright mtop mbottom mat mrw mrh mrp mdry og) {x : Int} (fl1 fr1 ft1 fb1 : Int) (og1 : Int → Int) (hok : 0 ≤ x ∧ x ≤ 10) (hl0 : laid 0 = 1) (i1 : bar1 = rnw pil bar laid x high border 8) (i2 : PFI wide high border pattern bar1 96 cnt1 ofc1 knd1 col1 row1 siz1 bw1 bh1) (i3 : Rn knd1 0 2) (i4 : ((rc1, rw1, rh1, rm1) : Rs) = ctR wide high knd1 bw1 bh1 (rc, rw, rh, rmk) cnt1.toNat) (i5 : nt1 = ctT wide high knd1 bw1 bh1 (rc, rw, rh, rmk) cnt1.toNat) (i6 : ∀ j : Int, 0 ≤ j → j < cnt1 → src1 j = ctS wide high knd1 bw1 bh1 (rc, rw, rh, rmk) j.toNat) :
    REL (n + 1) wide high border pattern x cnt1 fl1 fr1 ft1 fb1 gfl gfr gft gfb nt1 rc1 kc km hour grt beg mpieces mtiles mrests 0 mcrates mmoves mhour pil bar1 ofc1 knd1 col1 row1 siz1 bw1 bh1 src1 rw1 rh1 rm1 kf kt laid dryh mpil mcf mcn mshut mpk mpf mpn mpr mleft mright mtop mbottom mat mrw mrh mrp mdry og1 := by
  have hE := h.eq
  have h' := h.mono
  have e : bar1 = bar := by
    rw [i1]
    exact rnw_shut h.hh h.hb hl0 h.hbar
  exact (REL.mk h'.hw h'.hh h'.hb h'.hp hok h'.hpil h'.hsh (e.trans h.hbar) h'.hmp h'.hmc h'.hmh h'.hpo h'.hso (fun q => absurd hl0 q) h'.hlaid h'.hdry h'.hmd h'.hld h'.hbeg h'.hbl h'.hhr h'.hkm h'.hkc h'.hkf h'.hkt h'.hg i2 i3 (by rw [e]; exact h.hM) h'.hmpk (CTd_of hE.e11 i4 i5 i6) h'.hMC)
end
theorem REL.crate {n : Nat} {wide high border pattern door cnt fl fr ft fb gfl gfr gft gfb nt rc kc km hour grt beg mpieces mtiles mrests mthrown mcrates mmoves mhour : Int} {pil bar ofc knd col row siz bw bh src rw rh rmk kf kt laid dryh mpil mcf mcn mshut mpk mpf mpn mpr mleft mright mtop mbottom mat mrw mrh mrp mdry og : Int → Int} (h : REL n wide high border pattern door cnt fl fr ft fb gfl gfr gft gfb nt rc kc km hour grt beg mpieces mtiles mrests mthrown mcrates mmoves mhour pil bar ofc knd col row siz bw bh src rw rh rmk kf kt laid dryh mpil mcf mcn mshut mpk mpf mpn mpr mleft mright mtop mbottom mat mrw mrh mrp mdry og) {x k : Int} (og1 : Int → Int) (hok : (0 ≤ x ∧ x ≤ 9) ∧ 1 ≤ k ∧ k ≤ 100) (hf : kc < 20) : REL (n + 1) wide high border pattern door cnt fl fr ft fb gfl gfr gft gfb nt rc (kc + 1) km hour grt beg mpieces mtiles mrests 0 (mcrates + 1) mmoves mhour pil bar ofc knd col row siz bw bh src rw rh rmk (uI kf kc x) (uI kt kc k) laid dryh mpil (uI mcf mcrates x) (uI mcn mcrates k) mshut mpk mpf mpn mpr mleft mright mtop mbottom mat mrw mrh mrp mdry og1 :=
  (REL.mk h.mono.hw h.mono.hh h.mono.hb h.mono.hp h.mono.hd h.mono.hpil h.mono.hsh h.mono.hbar h.mono.hmp (⟨by rw [h.hmc.1, h.hmc.2.2.1], by rw [h.hmc.2.1, h.hmc.2.2.1], by rw [h.hmc.2.2.1], h.hmc.2.2.2⟩) h.mono.hmh h.mono.hpo h.mono.hso h.mono.hsd h.mono.hlaid h.mono.hdry h.mono.hmd h.mono.hld h.mono.hbeg h.mono.hbl h.mono.hhr h.mono.hkm (⟨by have := h.hkc; omega, by omega⟩) (Rn_uI h.hkf (by omega)) (Rn_uI h.hkt (by omega)) h.mono.hg h.mono.hP h.mono.hknd h.mono.hM h.mono.hmpk h.mono.hC h.mono.hMC)
theorem REL.fetch {n : Nat} {wide high border pattern door cnt fl fr ft fb gfl gfr gft gfb nt rc kc km hour grt beg mpieces mtiles mrests mthrown mcrates mmoves mhour : Int} {pil bar ofc knd col row siz bw bh src rw rh rmk kf kt laid dryh mpil mcf mcn mshut mpk mpf mpn mpr mleft mright mtop mbottom mat mrw mrh mrp mdry og : Int → Int} (h : REL n wide high border pattern door cnt fl fr ft fb gfl gfr gft gfb nt rc kc km hour grt beg mpieces mtiles mrests mthrown mcrates mmoves mhour pil bar ofc knd col row siz bw bh src rw rh rmk kf kt laid dryh mpil mcf mcn mshut mpk mpf mpn mpr mleft mright mtop mbottom mat mrw mrh mrp mdry og) {x : Int} (og1 : Int → Int) {kf1 kt1 mcf1 mcn1 : Int → Int} {km1 kc1 mmoves1 mcrates1 : Int}
    (h1 : tp kf x kc.toNat < 0 → og1 0 = -1 ∧ kf1 = kf ∧ kt1 = kt ∧ km1 = km ∧ kc1 = kc) (h2 : 0 ≤ tp kf x kc.toNat → og1 0 = kt (tp kf x kc.toNat) ∧ kf1 = sh kf (tp kf x kc.toNat) kc ∧ kt1 = sh kt (tp kf x kc.toNat) kc ∧ km1 = km + 2 * (kc - 1 - tp kf x kc.toNat) ∧ kc1 = kc - 1)
    {z : Int} (g1 : tp mcf x mcrates.toNat < 0 → z = -1 ∧ mcf1 = mcf ∧ mcn1 = mcn ∧ mmoves1 = mmoves ∧ mcrates1 = mcrates) (g2 : 0 ≤ tp mcf x mcrates.toNat → z = mcn (tp mcf x mcrates.toNat) ∧ mcf1 = sh mcf (tp mcf x mcrates.toNat) mcrates ∧ mcn1 = sh mcn (tp mcf x mcrates.toNat) mcrates ∧ mmoves1 = mmoves + 2 * (mcrates - 1 - tp mcf x mcrates.toNat) ∧ mcrates1 = mcrates - 1) :
    REL (n + 1) wide high border pattern door cnt fl fr ft fb gfl gfr gft gfb nt rc kc1 km1 hour grt beg mpieces mtiles mrests 0 mcrates1 mmoves1 mhour pil bar ofc knd col row siz bw bh src rw rh rmk kf1 kt1 laid dryh mpil mcf1 mcn1 mshut mpk mpf mpn mpr mleft mright mtop mbottom mat mrw mrh mrp mdry og1 ∧ og1 0 = z ∧ -1 ≤ z ∧ z ≤ 100 := by
  obtain ⟨c1, c2, c3, c4⟩ := h.hmc
  rw [c1, c2, c3, c4] at g1 g2
  have hr := tp_rng kf x kc.toNat
  have hk := h.hkc
  have hm := h.hkm
  by_cases hc : tp kf x kc.toNat < 0
  · obtain ⟨a1, rfl, rfl, rfl, rfl⟩ := h1 hc
    obtain ⟨b1, rfl, rfl, rfl, rfl⟩ := g1 hc
    exact ⟨(REL.mk h.mono.hw h.mono.hh h.mono.hb h.mono.hp h.mono.hd h.mono.hpil h.mono.hsh h.mono.hbar h.mono.hmp (⟨rfl, rfl, rfl, rfl⟩) h.mono.hmh h.mono.hpo h.mono.hso h.mono.hsd h.mono.hlaid h.mono.hdry h.mono.hmd h.mono.hld h.mono.hbeg h.mono.hbl h.mono.hhr h.mono.hkm h.mono.hkc h.mono.hkf h.mono.hkt h.mono.hg h.mono.hP h.mono.hknd h.mono.hM h.mono.hmpk h.mono.hC h.mono.hMC), by omega, by omega, by omega⟩
  · obtain ⟨a1, rfl, rfl, rfl, rfl⟩ := h2 (by omega)
    obtain ⟨b1, rfl, rfl, rfl, rfl⟩ := g2 (by omega)
    have ht := h.hkt (tp kf x kc.toNat)
    exact ⟨(REL.mk h.mono.hw h.mono.hh h.mono.hb h.mono.hp h.mono.hd h.mono.hpil h.mono.hsh h.mono.hbar h.mono.hmp (⟨rfl, rfl, rfl, rfl⟩) h.mono.hmh h.mono.hpo h.mono.hso h.mono.hsd h.mono.hlaid h.mono.hdry h.mono.hmd h.mono.hld h.mono.hbeg h.mono.hbl h.mono.hhr (⟨by show 0 ≤ km + 2 * (kc - 1 - tp kf x kc.toNat); omega, by show km + 2 * (kc - 1 - tp kf x kc.toNat) ≤ 40 * ((n + 1 : Nat) : Int); omega⟩) (⟨by show 0 ≤ kc - 1; omega, by show kc - 1 ≤ 20; omega⟩) (Rn_sh h.hkf) (Rn_sh h.hkt) h.mono.hg h.mono.hP h.mono.hknd h.mono.hM h.mono.hmpk h.mono.hC h.mono.hMC), by omega, by omega, by omega⟩
theorem REL.grout {n : Nat} {wide high border pattern door cnt fl fr ft fb gfl gfr gft gfb nt rc kc km hour grt beg mpieces mtiles mrests mthrown mcrates mmoves mhour : Int} {pil bar ofc knd col row siz bw bh src rw rh rmk kf kt laid dryh mpil mcf mcn mshut mpk mpf mpn mpr mleft mright mtop mbottom mat mrw mrh mrp mdry og : Int → Int} (h : REL n wide high border pattern door cnt fl fr ft fb gfl gfr gft gfb nt rc kc km hour grt beg mpieces mtiles mrests mthrown mcrates mmoves mhour pil bar ofc knd col row siz bw bh src rw rh rmk kf kt laid dryh mpil mcf mcn mshut mpk mpf mpn mpr mleft mright mtop mbottom mat mrw mrh mrp mdry og) {x : Int} (og1 : Int → Int) (hok : 0 ≤ x ∧ x ≤ 48) : REL (n + 1) wide high border pattern door cnt fl fr ft fb gfl gfr gft gfb nt rc kc km hour x beg mpieces mtiles mrests 0 mcrates mmoves mhour pil bar ofc knd col row siz bw bh src rw rh rmk kf kt laid dryh mpil mcf mcn mshut mpk mpf mpn mpr mleft mright mtop mbottom mat mrw mrh mrp mdry og1 := (REL.mk h.mono.hw h.mono.hh h.mono.hb h.mono.hp h.mono.hd h.mono.hpil h.mono.hsh h.mono.hbar h.mono.hmp h.mono.hmc h.mono.hmh h.mono.hpo h.mono.hso h.mono.hsd h.mono.hlaid h.mono.hdry h.mono.hmd h.mono.hld h.mono.hbeg h.mono.hbl h.mono.hhr h.mono.hkm h.mono.hkc h.mono.hkf h.mono.hkt hok h.mono.hP h.mono.hknd h.mono.hM h.mono.hmpk h.mono.hC h.mono.hMC)
theorem REL.pass {n : Nat} {wide high border pattern door cnt fl fr ft fb gfl gfr gft gfb nt rc kc km hour grt beg mpieces mtiles mrests mthrown mcrates mmoves mhour : Int} {pil bar ofc knd col row siz bw bh src rw rh rmk kf kt laid dryh mpil mcf mcn mshut mpk mpf mpn mpr mleft mright mtop mbottom mat mrw mrh mrp mdry og : Int → Int} (h : REL n wide high border pattern door cnt fl fr ft fb gfl gfr gft gfb nt rc kc km hour grt beg mpieces mtiles mrests mthrown mcrates mmoves mhour pil bar ofc knd col row siz bw bh src rw rh rmk kf kt laid dryh mpil mcf mcn mshut mpk mpf mpn mpr mleft mright mtop mbottom mat mrw mrh mrp mdry og) {x : Int} (og1 : Int → Int) (hok : 1 ≤ x ∧ x ≤ 100) : REL (n + 1) wide high border pattern door cnt fl fr ft fb gfl gfr gft gfb nt rc kc km (hour + x) grt beg mpieces mtiles mrests 0 mcrates mmoves (mhour + x) pil bar ofc knd col row siz bw bh src rw rh rmk kf kt laid dryh mpil mcf mcn mshut mpk mpf mpn mpr mleft mright mtop mbottom mat mrw mrh mrp mdry og1 :=
  (REL.mk h.mono.hw h.mono.hh h.mono.hb h.mono.hp h.mono.hd h.mono.hpil h.mono.hsh h.mono.hbar h.mono.hmp h.mono.hmc (by rw [h.hmh]) h.mono.hpo h.mono.hso h.mono.hsd h.mono.hlaid h.mono.hdry h.mono.hmd h.mono.hld h.mono.hbeg h.mono.hbl (⟨by show 0 ≤ hour + x; have := h.hhr; omega, by show hour + x ≤ 100 * ((n + 1 : Nat) : Int); have := h.hhr; omega⟩) h.mono.hkm h.mono.hkc h.mono.hkf h.mono.hkt h.mono.hg h.mono.hP h.mono.hknd h.mono.hM h.mono.hmpk h.mono.hC h.mono.hMC)
/-- whether a strip can be laid, both ways -/
theorem REL.can {n : Nat} {wide high border pattern door cnt fl fr ft fb gfl gfr gft gfb nt rc kc km hour grt beg mpieces mtiles mrests mthrown mcrates mmoves mhour : Int} {pil bar ofc knd col row siz bw bh src rw rh rmk kf kt laid dryh mpil mcf mcn mshut mpk mpf mpn mpr mleft mright mtop mbottom mat mrw mrh mrp mdry og : Int → Int} (h : REL n wide high border pattern door cnt fl fr ft fb gfl gfr gft gfb nt rc kc km hour grt beg mpieces mtiles mrests mthrown mcrates mmoves mhour pil bar ofc knd col row siz bw bh src rw rh rmk kf kt laid dryh mpil mcf mcn mshut mpk mpf mpn mpr mleft mright mtop mbottom mat mrw mrh mrp mdry og) {x : Int} (hx : 0 ≤ x ∧ x < 8) : (laid x ≠ 1 ∧ ∀ j : Int, 0 ≤ j → j < x → laid j = 1 → dryh j ≤ hour) ↔ ¬ (0 ≤ mdry x ∨ ∃ j : Int, (0 ≤ j ∧ j < x) ∧ mhour < mdry j) := by
  rw [h.hmh]
  constructor
  · rintro ⟨h1, h2⟩ (q | ⟨j, hj, q⟩)
    · exact h1 ((h.hld x hx.1 hx.2).1.mpr q)
    · have g := h.hld j hj.1 (by omega)
      have hl : laid j = 1 := g.1.mpr (by have := h.hhr; omega)
      have e := g.2 hl
      have := h2 j hj.1 hj.2 hl
      omega
  · intro q
    refine ⟨fun hl => q (Or.inl ((h.hld x hx.1 hx.2).1.mp hl)), fun j h1 h2 hl => ?_⟩
    have g := (h.hld j h1 (by omega)).2 hl
    apply Int.not_lt.mp
    intro w
    exact q (Or.inr ⟨j, ⟨h1, h2⟩, by omega⟩)
theorem REL.pcq {n : Nat} {wide high border pattern door cnt fl fr ft fb gfl gfr gft gfb nt rc kc km hour grt beg mpieces mtiles mrests mthrown mcrates mmoves mhour : Int} {pil bar ofc knd col row siz bw bh src rw rh rmk kf kt laid dryh mpil mcf mcn mshut mpk mpf mpn mpr mleft mright mtop mbottom mat mrw mrh mrp mdry og : Int → Int} (h : REL n wide high border pattern door cnt fl fr ft fb gfl gfr gft gfb nt rc kc km hour grt beg mpieces mtiles mrests mthrown mcrates mmoves mhour pil bar ofc knd col row siz bw bh src rw rh rmk kf kt laid dryh mpil mcf mcn mshut mpk mpf mpn mpr mleft mright mtop mbottom mat mrw mrh mrp mdry og) (x : Int) : pcn high border (rowOf mpf) x mpieces.toNat = pcn high border row x cnt.toNat := by
  have hE := h.eq
  rw [← hE.e1]
  exact pcn_congr _ (fun j i1 i2 => ((hE.e4 j i1 (by have := hE.e2; omega)).2.2.1).symm)
theorem REL.lay {n : Nat} {wide high border pattern door cnt fl fr ft fb gfl gfr gft gfb nt rc kc km hour grt beg mpieces mtiles mrests mthrown mcrates mmoves mhour : Int} {pil bar ofc knd col row siz bw bh src rw rh rmk kf kt laid dryh mpil mcf mcn mshut mpk mpf mpn mpr mleft mright mtop mbottom mat mrw mrh mrp mdry og : Int → Int} (h : REL n wide high border pattern door cnt fl fr ft fb gfl gfr gft gfb nt rc kc km hour grt beg mpieces mtiles mrests mthrown mcrates mmoves mhour pil bar ofc knd col row siz bw bh src rw rh rmk kf kt laid dryh mpil mcf mcn mshut mpk mpf mpn mpr mleft mright mtop mbottom mat mrw mrh mrp mdry og) (hn : n < 512) {x : Int} (og1 : Int → Int) (hok : 0 ≤ x ∧ x < nS high border) (hx : laid x ≠ 1) :
    REL (n + 1) wide high border pattern door cnt fl fr ft fb gfl gfr gft gfb nt rc kc km (hour + (pcn high border row x cnt.toNat + 4 - 1) / 4) grt 1 mpieces mtiles mrests 0 mcrates mmoves (mhour + (pcn high border (rowOf mpf) x mpieces.toNat + 3) / 4) pil bar ofc knd col row siz bw bh src rw rh rmk kf kt (uI laid x 1) (uI dryh x (hour + (pcn high border row x cnt.toNat + 4 - 1) / 4 + grt)) mpil mcf mcn mshut mpk mpf mpn mpr mleft mright mtop mbottom mat mrw mrh mrp (uI mdry x (mhour + (pcn high border (rowOf mpf) x mpieces.toNat + 3) / 4 + grt)) og1 ∧ hour + (pcn high border row x cnt.toNat + 4 - 1) / 4 = mhour + (pcn high border (rowOf mpf) x mpieces.toNat + 3) / 4 := by
  have hE := h.eq
  have hq := h.pcq x
  have hr := pcn_rng (high := high) (border := border) (s := x) (row := row) cnt.toNat
  have hc := hE.e2
  have hs := nS_rng h.hh h.hb
  have hh := h.hhr
  have hg := h.hg
  rw [hq, h.hmh, show pcn high border row x cnt.toNat + 4 - 1 = pcn high border row x cnt.toNat + 3 by omega]
  obtain ⟨t, ht⟩ : ∃ t, t = (pcn high border row x cnt.toNat + 3) / 4 := ⟨_, rfl⟩
  have ht2 : 0 ≤ t ∧ t ≤ 24 := by omega
  rw [← ht]
  refine ⟨(REL.mk h.mono.hw h.mono.hh h.mono.hb h.mono.hp h.mono.hd h.mono.hpil h.mono.hsh h.mono.hbar h.mono.hmp h.mono.hmc rfl h.mono.hpo h.mono.hso (fun q => ?_) (Rn_uI h.hlaid (by omega)) (Rn_uI h.hdry (by omega)) (Rn_uI h.hmd (by omega)) (fun j h1 h2 => ?_) (Or.inr rfl) (fun q => absurd q (show ¬ (1 : Int) = 0 by decide)) (⟨by show 0 ≤ hour + t; omega, by show hour + t ≤ 100 * ((n + 1 : Nat) : Int); omega⟩) h.mono.hkm h.mono.hkc h.mono.hkf h.mono.hkt h.mono.hg h.mono.hP h.mono.hknd h.mono.hM h.mono.hmpk h.mono.hC h.mono.hMC), rfl⟩
  · refine h.hsd ?_
    intro q2
    apply q
    show uI laid x 1 0 = 1
    by_cases c : (0 : Int) = x
    · rw [← c, uI_eq]
    · rw [uI_ne _ _ c]; exact q2
  · show (uI laid x 1 j = 1 ↔ 0 ≤ uI mdry x (hour + t + grt) j) ∧ (uI laid x 1 j = 1 → uI dryh x (hour + t + grt) j = uI mdry x (hour + t + grt) j)
    by_cases c : j = x
    · subst c
      rw [uI_eq, uI_eq, uI_eq]
      exact ⟨⟨fun _ => by omega, fun _ => rfl⟩, fun _ => rfl⟩
    · rw [uI_ne _ _ c, uI_ne _ _ c, uI_ne _ _ c]
      exact h.hld j h1 h2
end VREL

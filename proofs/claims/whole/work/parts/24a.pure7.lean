section VPURE11
theorem Rn_c {lo hi : Int} (h : lo ≤ 0 ∧ 0 ≤ hi) : Rn (fun _ => 0) lo hi := fun _ => h
theorem Rok_0 : Rok (0, fun _ => 0, fun _ => 0, fun _ => 0) 96 := ⟨by decide, Rn_c (by decide), Rn_c (by decide), Rn_c (by decide)⟩
/-- rests alike, as far as there are some -/
def Req (s t : Rs) : Prop := s.1 = t.1 ∧ ∀ j : Int, 0 ≤ j → j < s.1 → s.2.1 j = t.2.1 j ∧ s.2.2.1 j = t.2.2.1 j ∧ s.2.2.2 j = t.2.2.2 j
theorem br_congr {rw rh rw' rh' : Int → Int} {w h : Int} : ∀ n : Nat, (∀ j : Int, 0 ≤ j → j < (n : Int) → rw j = rw' j ∧ rh j = rh' j) → br rw rh w h n = br rw' rh' w h n
  | 0, _ => rfl
  | n + 1, hd => by
    have ih := br_congr (w := w) (h := h) n (fun j h1 h2 => hd j h1 (by omega))
    have h9 := hd n (by omega) (by omega)
    have hr := (br_rng rw' rh' w h n).1
    unfold br
    rw [ih, h9.1, h9.2]
    by_cases h0 : br rw' rh' w h n < 0
    · simp only [h0, true_or]
    · have h8 := hd (br rw' rh' w h n) (by omega) (by omega)
      rw [h8.1, h8.2]
theorem Req_cutI {s t : Rs} (h : Req s t) (w k : Int) : cutI s w k = cutI t w k := by
  unfold cutI
  rw [← h.1]
  by_cases h0 : 0 ≤ s.1
  · exact br_congr _ (fun j h1 h2 => ⟨(h.2 j h1 (by omega)).1, (h.2 j h1 (by omega)).2.1⟩)
  · rw [show s.1.toNat = 0 by omega]; rfl
theorem Req_add {s t : Rs} (h : Req s t) (mk a b : Int) : Req (addR s mk a b) (addR t mk a b) := by
  obtain ⟨h1, h2⟩ := h
  refine ⟨by simp only [addR]; omega, fun j g1 g2 => ?_⟩
  simp only [addR] at g2 ⊢
  rw [← h1]
  unfold uI
  by_cases hj : j = s.1
  · rw [if_pos hj, if_pos hj, if_pos hj, if_pos hj, if_pos hj, if_pos hj]; exact ⟨rfl, rfl, rfl⟩
  · rw [if_neg hj, if_neg hj, if_neg hj, if_neg hj, if_neg hj, if_neg hj]; exact h2 j g1 (by omega)
theorem Req_lv {s t : Rs} (h : Req s t) (mk W H w k : Int) : Req (lvR s mk W H w k) (lvR t mk W H w k) := by
  unfold lvR
  split
  · exact h
  · split
    · exact Req_add h _ _ _
    · exact Req_add h _ _ _
theorem Req_out {s t : Rs} (h : Req s t) (i : Int) (hi : 0 ≤ i) : Req (outR s i) (outR t i) := by
  obtain ⟨h1, h2⟩ := h
  refine ⟨by simp only [outR]; omega, fun j g1 g2 => ?_⟩
  simp only [outR] at g2 ⊢
  rw [← h1]
  unfold sh
  by_cases hj : i ≤ j ∧ j < s.1 - 1
  · rw [if_pos hj, if_pos hj, if_pos hj, if_pos hj, if_pos hj, if_pos hj]; exact h2 (j + 1) (by omega) (by omega)
  · rw [if_neg hj, if_neg hj, if_neg hj, if_neg hj, if_neg hj, if_neg hj]; exact h2 j g1 (by omega)
theorem Req_cut {s t : Rs} {n : Int} (hs : Rok s n) (h : Req s t) (W H p w k : Int) : Req (cutR W H s p w k) (cutR W H t p w k) := by
  have hI := cutI_rng (w := w) (h := k) hs
  unfold cutR
  rw [← Req_cutI h w k]
  by_cases h0 : 0 ≤ cutI s w k
  · rw [if_pos h0, if_pos h0]
    have h9 := h.2 (cutI s w k) h0 (by omega)
    rw [← h9.1, ← h9.2.1]
    exact Req_lv (Req_out h _ h0) _ _ _ _ _
  · rw [if_neg h0, if_neg h0]; exact Req_lv h _ _ _ _ _
theorem Req_ct {W H : Int} {knd bw bh : Int → Int} {s0 t0 : Rs} (h0 : Rok s0 96) (hW : W ≤ 4) (hH : H ≤ 4) : ∀ n : Nat, (n : Int) ≤ 96 → (∀ j : Int, 0 ≤ j → j < (n : Int) → knd j = 1 → (0 ≤ bw j ∧ bw j ≤ W) ∧ 0 ≤ bh j ∧ bh j ≤ H) → Req (ctR W H knd bw bh s0 n) (ctR W H knd bw bh t0 n) ∧ ctT W H knd bw bh s0 n = ctT W H knd bw bh t0 n
  | 0, _, _ => ⟨⟨rfl, fun j g1 g2 => absurd g2 (by simp only [ctR]; omega)⟩, rfl⟩
  | n + 1, hn, hd => by
    obtain ⟨i1, i2⟩ := Req_ct (t0 := t0) h0 hW hH n (by omega) (fun j h1 h2 h3 => hd j h1 (by omega) h3)
    have hk := Rok_ct (knd := knd) (bw := bw) (bh := bh) h0 hW hH n (by omega) (fun j h1 h2 h3 => hd j h1 (by omega) h3)
    unfold ctR ctT
    rw [← Req_cutI i1, i2]
    refine ⟨?_, rfl⟩
    split
    · exact Req_cut hk i1 _ _ _ _ _
    · exact i1
theorem Req_ctS {W H : Int} {knd bw bh : Int → Int} {s0 t0 : Rs} (h0 : Rok s0 96) (hW : W ≤ 4) (hH : H ≤ 4) (n : Nat) (hn : (n : Int) ≤ 96) (hd : ∀ j : Int, 0 ≤ j → j < (n : Int) → knd j = 1 → (0 ≤ bw j ∧ bw j ≤ W) ∧ 0 ≤ bh j ∧ bh j ≤ H) : ctS W H knd bw bh s0 n = ctS W H knd bw bh t0 n ∧ -1 ≤ ctS W H knd bw bh s0 n ∧ ctS W H knd bw bh s0 n ≤ 96 := by
  obtain ⟨i1, i2⟩ := Req_ct (t0 := t0) h0 hW hH n hn hd
  have hk := Rok_ct (knd := knd) (bw := bw) (bh := bh) h0 hW hH n hn hd
  have hI := cutI_rng (w := bw n) (h := bh n) hk
  unfold ctS
  rw [← Req_cutI i1]
  by_cases hc : knd n = 1 ∧ 0 ≤ cutI (ctR W H knd bw bh s0 n) (bw n) (bh n)
  · rw [if_pos hc, if_pos hc]
    have h9 := i1.2 (cutI (ctR W H knd bw bh s0 n) (bw n) (bh n)) hc.2 (by omega)
    have h8 := hk.2.2.2 (cutI (ctR W H knd bw bh s0 n) (bw n) (bh n))
    exact ⟨h9.2.2, h8⟩
  · rw [if_neg hc, if_neg hc]; exact ⟨rfl, by omega, by omega⟩
/-- the cuts, as they come out of the pieces -/
def CTd (W H cnt : Int) (knd bw bh : Int → Int) (nt rc : Int) (rw rh rmk src : Int → Int) : Prop :=
  ∃ s0 : Rs, Rok s0 96 ∧ ((rc, rw, rh, rmk) : Rs) = ctR W H knd bw bh s0 cnt.toNat ∧ nt = ctT W H knd bw bh s0 cnt.toNat ∧ ∀ j : Int, 0 ≤ j → j < cnt → src j = ctS W H knd bw bh s0 j.toNat
theorem CT_same {W H cnt nt rc mnt mrc : Int} {knd bw bh knd' bw' bh' rw rh rmk src mrw mrh mrp mpr : Int → Int} (hW : W ≤ 4) (hH : H ≤ 4) (hcnt : 0 ≤ cnt ∧ cnt ≤ 96) (h : CTd W H cnt knd bw bh nt rc rw rh rmk src) (g : CTd W H cnt knd' bw' bh' mnt mrc mrw mrh mrp mpr)
    (hd : ∀ j : Int, 0 ≤ j → j < cnt → knd j = 1 → (0 ≤ bw j ∧ bw j ≤ W) ∧ 0 ≤ bh j ∧ bh j ≤ H) (he : ∀ j : Int, 0 ≤ j → j < cnt → knd j = knd' j ∧ bw j = bw' j ∧ bh j = bh' j) :
    nt = mnt ∧ rc = mrc ∧ (0 ≤ rc ∧ rc ≤ 96) ∧ (∀ j : Int, 0 ≤ j → j < rc → rw j = mrw j ∧ rh j = mrh j) ∧ (∀ j : Int, 0 ≤ j → j < cnt → src j = mpr j ∧ -1 ≤ src j ∧ src j ≤ 96) ∧ (Rn rw 0 4 ∧ Rn rh 0 4) ∧ Rok (rc, rw, rh, rmk) 96 := by
  obtain ⟨s0, h0, h1, h2, h3⟩ := h
  obtain ⟨t0, g0, g1, g2, g3⟩ := g
  obtain ⟨c1, c2⟩ := ct_congr (W := W) (H := H) (s0 := t0) cnt.toNat (fun j i1 i2 => ⟨(he j i1 (by omega)).1, fun _ => ⟨(he j i1 (by omega)).2.1, (he j i1 (by omega)).2.2⟩⟩)
  obtain ⟨r1, r2⟩ := Req_ct (t0 := t0) h0 hW hH cnt.toNat (by omega) (fun j i1 i2 i3 => hd j i1 (by omega) i3)
  have hk := Rok_ct (knd := knd) (bw := bw) (bh := bh) h0 hW hH cnt.toNat (by omega) (fun j i1 i2 i3 => hd j i1 (by omega) i3)
  rw [← h1] at hk r1
  rw [c1, ← g1] at r1
  have hk' := Rok_le hk (show ((cnt.toNat : Nat) : Int) ≤ 96 by omega)
  refine ⟨by rw [h2, g2, r2, c2], r1.1, hk'.1, fun j i1 i2 => ⟨(r1.2 j i1 i2).1, (r1.2 j i1 i2).2.1⟩, fun j i1 i2 => ?_, ⟨hk'.2.1, hk'.2.2.1⟩, hk'⟩
  have q := Req_ctS (t0 := t0) h0 hW hH j.toNat (by omega) (fun i k1 k2 k3 => hd i k1 (by omega) k3)
  have q2 := ctS_congr (W := W) (H := H) (s0 := t0) j.toNat (fun i k1 k2 => ⟨(he i k1 (by omega)).1, fun _ => ⟨(he i k1 (by omega)).2.1, (he i k1 (by omega)).2.2⟩⟩)
  rw [h3 j i1 i2, g3 j i1 i2, q.1, q2]
  rw [q.1, q2] at q
  exact ⟨rfl, q.2⟩
end VPURE11

section VPURE3
/-! the rests -/
abbrev Rs : Type := Int × (Int → Int) × (Int → Int) × (Int → Int)
def br (rw rh : Int → Int) (w h : Int) : Nat → Int
  | 0 => -1
  | k + 1 => if (w ≤ rw k ∧ h ≤ rh k) ∧ (br rw rh w h k < 0 ∨ rw k * rh k < rw (br rw rh w h k) * rh (br rw rh w h k)) then (k : Int) else br rw rh w h k
theorem br_I {rw rh : Int → Int} {w h i : Int} (hi : 0 ≤ i) : br rw rh w h (i + 1).toNat = if (w ≤ rw i ∧ h ≤ rh i) ∧ (br rw rh w h i.toNat < 0 ∨ rw i * rh i < rw (br rw rh w h i.toNat) * rh (br rw rh w h i.toNat)) then i else br rw rh w h i.toNat := by
  obtain ⟨k, rfl⟩ : ∃ k : Nat, i = k := ⟨i.toNat, by omega⟩
  rw [show ((k : Int) + 1).toNat = k + 1 by omega, show ((k : Int)).toNat = k by omega]
  rfl
theorem br_rng (rw rh : Int → Int) (w h : Int) : ∀ n : Nat, (-1 ≤ br rw rh w h n ∧ br rw rh w h n < (n : Int)) ∧ (0 ≤ br rw rh w h n → w ≤ rw (br rw rh w h n) ∧ h ≤ rh (br rw rh w h n))
  | 0 => by unfold br; omega
  | k + 1 => by
    have := br_rng rw rh w h k
    unfold br
    split
    · rename_i hc; exact ⟨by omega, fun _ => hc.1⟩
    · exact ⟨by omega, this.2⟩
theorem mul04 {a b : Int} (ha : 0 ≤ a ∧ a ≤ 4) (hb : 0 ≤ b ∧ b ≤ 4) : 0 ≤ a * b ∧ a * b ≤ 16 := by
  have h1 : a = 0 ∨ a = 1 ∨ a = 2 ∨ a = 3 ∨ a = 4 := by omega
  rcases h1 with rfl | rfl | rfl | rfl | rfl <;> omega
theorem mul04_0 {a b : Int} (ha : 0 ≤ a ∧ a ≤ 4) (hb : 1 ≤ b ∧ b ≤ 4) (h : a * b = 0) : a = 0 := by
  have h1 : b = 1 ∨ b = 2 ∨ b = 3 ∨ b = 4 := by omega
  rcases h1 with rfl | rfl | rfl | rfl <;> omega
def addR (s : Rs) (mk a b : Int) : Rs := (s.1 + 1, uI s.2.1 s.1 a, uI s.2.2.1 s.1 b, uI s.2.2.2 s.1 mk)
def lvR (s : Rs) (mk W H w h : Int) : Rs := if (W - w) * H = 0 ∧ W * (H - h) = 0 then s else if W * (H - h) ≤ (W - w) * H then addR s mk (W - w) H else addR s mk W (H - h)
def outR (s : Rs) (i : Int) : Rs := (s.1 - 1, sh s.2.1 i s.1, sh s.2.2.1 i s.1, sh s.2.2.2 i s.1)
def cutI (s : Rs) (w h : Int) : Int := br s.2.1 s.2.2.1 w h s.1.toNat
def cutR (W H : Int) (s : Rs) (p w h : Int) : Rs := if 0 ≤ cutI s w h then lvR (outR s (cutI s w h)) p (s.2.1 (cutI s w h)) (s.2.2.1 (cutI s w h)) w h else lvR s p W H w h
def ctR (W H : Int) (knd bw bh : Int → Int) (s0 : Rs) : Nat → Rs
  | 0 => (0, s0.2)
  | n + 1 => if knd n = 1 then cutR W H (ctR W H knd bw bh s0 n) n (bw n) (bh n) else ctR W H knd bw bh s0 n
def ctT (W H : Int) (knd bw bh : Int → Int) (s0 : Rs) : Nat → Int
  | 0 => 0
  | n + 1 => ctT W H knd bw bh s0 n + (if knd n = 0 then 1 else if knd n = 1 ∧ cutI (ctR W H knd bw bh s0 n) (bw n) (bh n) < 0 then 1 else 0)
def ctS (W H : Int) (knd bw bh : Int → Int) (s0 : Rs) (n : Nat) : Int :=
  if knd n = 1 ∧ 0 ≤ cutI (ctR W H knd bw bh s0 n) (bw n) (bh n) then (ctR W H knd bw bh s0 n).2.2.2 (cutI (ctR W H knd bw bh s0 n) (bw n) (bh n)) else -1
theorem ct_I {W H : Int} {knd bw bh : Int → Int} {s0 : Rs} {i : Int} (hi : 0 ≤ i) : ctR W H knd bw bh s0 (i + 1).toNat = (if knd i = 1 then cutR W H (ctR W H knd bw bh s0 i.toNat) i (bw i) (bh i) else ctR W H knd bw bh s0 i.toNat) ∧ ctT W H knd bw bh s0 (i + 1).toNat = ctT W H knd bw bh s0 i.toNat + (if knd i = 0 then 1 else if knd i = 1 ∧ cutI (ctR W H knd bw bh s0 i.toNat) (bw i) (bh i) < 0 then 1 else 0) ∧ ctS W H knd bw bh s0 i.toNat = if knd i = 1 ∧ 0 ≤ cutI (ctR W H knd bw bh s0 i.toNat) (bw i) (bh i) then (ctR W H knd bw bh s0 i.toNat).2.2.2 (cutI (ctR W H knd bw bh s0 i.toNat) (bw i) (bh i)) else -1 := by
  obtain ⟨k, rfl⟩ : ∃ k : Nat, i = k := ⟨i.toNat, by omega⟩
  rw [show ((k : Int) + 1).toNat = k + 1 by omega, show ((k : Int)).toNat = k by omega]
  exact ⟨rfl, rfl, rfl⟩
/-- what holds of the rests: at most n of them, their sides, their makers -/
def Rok (s : Rs) (n : Int) : Prop := (0 ≤ s.1 ∧ s.1 ≤ n) ∧ Rn s.2.1 0 4 ∧ Rn s.2.2.1 0 4 ∧ Rn s.2.2.2 (-1) 96
theorem Rok_add {s : Rs} {n mk a b : Int} (h : Rok s n) (hm : -1 ≤ mk ∧ mk ≤ 96) (ha : 0 ≤ a ∧ a ≤ 4) (hb : 0 ≤ b ∧ b ≤ 4) : Rok (addR s mk a b) (n + 1) := by
  obtain ⟨h1, h2, h3, h4⟩ := h
  exact ⟨by simp only [addR]; omega, Rn_uI h2 ha, Rn_uI h3 hb, Rn_uI h4 hm⟩
theorem Rok_le {s : Rs} {n k : Int} (h : Rok s n) (hk : n ≤ k) : Rok s k := by
  obtain ⟨h1, h2⟩ := h
  exact ⟨by omega, h2⟩
theorem Rok_lv {s : Rs} {n mk W H w h : Int} (hs : Rok s n) (hm : -1 ≤ mk ∧ mk ≤ 96) (hW : W ≤ 4) (hH : H ≤ 4) (hw : 0 ≤ w ∧ w ≤ W) (hh : 0 ≤ h ∧ h ≤ H) : Rok (lvR s mk W H w h) (n + 1) := by
  unfold lvR
  split
  · exact Rok_le hs (by omega)
  · split
    · exact Rok_add hs hm (by omega) (by omega)
    · exact Rok_add hs hm (by omega) (by omega)
theorem Rok_out {s : Rs} {n i : Int} (hs : Rok s n) (hi : 0 ≤ i ∧ i < s.1) : Rok (outR s i) (n - 1) := by
  obtain ⟨h1, h2, h3, h4⟩ := hs
  exact ⟨by simp only [outR]; omega, Rn_sh h2, Rn_sh h3, Rn_sh h4⟩
theorem cutI_rng {s : Rs} {n w h : Int} (hs : Rok s n) : (-1 ≤ cutI s w h ∧ cutI s w h < s.1 ∨ cutI s w h = -1) ∧ (0 ≤ cutI s w h → w ≤ s.2.1 (cutI s w h) ∧ h ≤ s.2.2.1 (cutI s w h)) := by
  have := br_rng s.2.1 s.2.2.1 w h s.1.toNat
  have h1 := hs.1
  unfold cutI
  exact ⟨by omega, this.2⟩
theorem Rok_cut {W H : Int} {s : Rs} {n p w h : Int} (hs : Rok s n) (hp : -1 ≤ p ∧ p ≤ 96) (hW : W ≤ 4) (hH : H ≤ 4) (hw : 0 ≤ w ∧ w ≤ W) (hh : 0 ≤ h ∧ h ≤ H) : Rok (cutR W H s p w h) (n + 1) := by
  have hI := cutI_rng (w := w) (h := h) hs
  unfold cutR
  split
  · rename_i h0
    have h1 := hI.2 h0
    have h2 := hs.2.1 (cutI s w h)
    have h3 := hs.2.2.1 (cutI s w h)
    exact Rok_le (Rok_lv (Rok_out hs (by omega)) hp (by omega) (by omega) (by omega) (by omega)) (by omega)
  · exact Rok_lv hs hp hW hH hw hh
theorem Rok_ct {W H : Int} {knd bw bh : Int → Int} {s0 : Rs} (h0 : Rok s0 96) (hW : W ≤ 4) (hH : H ≤ 4) : ∀ n : Nat, (n : Int) ≤ 96 → (∀ j : Int, 0 ≤ j → j < (n : Int) → knd j = 1 → (0 ≤ bw j ∧ bw j ≤ W) ∧ 0 ≤ bh j ∧ bh j ≤ H) → Rok (ctR W H knd bw bh s0 n) n
  | 0, _, _ => ⟨by simp only [ctR]; omega, h0.2⟩
  | n + 1, hn, hd => by
    have ih := Rok_ct (knd := knd) (bw := bw) (bh := bh) h0 hW hH n (by omega) (fun j h1 h2 h3 => hd j h1 (by omega) h3)
    unfold ctR
    split
    · rename_i hk
      have := hd n (by omega) (by omega) hk
      have h9 := Rok_cut (p := (n : Int)) ih (by omega) hW hH this.1 this.2
      exact Rok_le h9 (by omega)
    · exact Rok_le ih (by omega)
theorem ct_congr {W H : Int} {knd bw bh knd' bw' bh' : Int → Int} {s0 : Rs} : ∀ n : Nat, (∀ j : Int, 0 ≤ j → j < (n : Int) → knd j = knd' j ∧ (knd j = 1 → bw j = bw' j ∧ bh j = bh' j)) → ctR W H knd bw bh s0 n = ctR W H knd' bw' bh' s0 n ∧ ctT W H knd bw bh s0 n = ctT W H knd' bw' bh' s0 n
  | 0, _ => ⟨rfl, rfl⟩
  | n + 1, hd => by
    obtain ⟨i1, i2⟩ := ct_congr (W := W) (H := H) (s0 := s0) n (fun j h1 h2 => hd j h1 (by omega))
    have h9 := hd n (by omega) (by omega)
    unfold ctR ctT
    rw [← i1, ← i2, ← h9.1]
    by_cases hk : knd n = 1
    · rw [(h9.2 hk).1, (h9.2 hk).2]; exact ⟨rfl, rfl⟩
    · simp only [hk, if_false, false_and]; exact ⟨trivial, trivial⟩
theorem ctS_congr {W H : Int} {knd bw bh knd' bw' bh' : Int → Int} {s0 : Rs} (n : Nat) (hd : ∀ j : Int, 0 ≤ j → j < (n : Int) + 1 → knd j = knd' j ∧ (knd j = 1 → bw j = bw' j ∧ bh j = bh' j)) : ctS W H knd bw bh s0 n = ctS W H knd' bw' bh' s0 n := by
  obtain ⟨i1, -⟩ := ct_congr (W := W) (H := H) (s0 := s0) n (fun j h1 h2 => hd j h1 (by omega))
  have h9 := hd n (by omega) (by omega)
  unfold ctS
  rw [← i1, ← h9.1]
  by_cases hk : knd n = 1
  · rw [(h9.2 hk).1, (h9.2 hk).2]
  · simp only [hk, false_and, if_false]
/-- a row filled up to n -/
def fil (g : Int → Int) (v n : Int) : Int → Int := fun j => if 0 ≤ j ∧ j < n then v else g j
theorem fil_0 (g : Int → Int) (v : Int) : fil g v 0 = g := by funext j; unfold fil; rw [if_neg (by omega)]
theorem fil_step (g : Int → Int) (v n : Int) (hn : 0 ≤ n) : uI (fil g v n) n v = fil g v (n + 1) := by
  funext j
  unfold uI fil
  by_cases hj : j = n
  · subst hj; rw [if_pos rfl, if_pos (by omega)]
  · rw [if_neg hj]
    by_cases h : 0 ≤ j ∧ j < n
    · rw [if_pos h, if_pos (by omega)]
    · rw [if_neg h, if_neg (by omega)]
end VPURE3

section VPURE10
/-- the door's cells in the first n columns -/
def shw (c : Int) (g : Int → Int) (n : Int) : Int → Int := fun j => if 0 ≤ j ∧ j < n then (if j = c ∨ j = c + 1 then 1 else 0) else g j
theorem shw_0 (c : Int) (g : Int → Int) : shw c g 0 = g := by funext j; unfold shw; rw [if_neg (by omega)]
theorem shw_step (c : Int) (g : Int → Int) {n v : Int} (hn : 0 ≤ n) (hv : v = if n = c ∨ n = c + 1 then 1 else 0) : uI (shw c g n) n v = shw c g (n + 1) := by
  funext j
  unfold uI shw
  by_cases hj : j = n
  · subst hj; rw [if_pos rfl, if_pos (by omega)]; exact hv
  · rw [if_neg hj]
    by_cases h : 0 ≤ j ∧ j < n
    · rw [if_pos h, if_pos (show 0 ≤ j ∧ j < n + 1 by omega)]
    · rw [if_neg h, if_neg (show ¬ (0 ≤ j ∧ j < n + 1) by omega)]
theorem Rn_shw {c : Int} {g : Int → Int} {n : Int} (h : Rn g 0 1) : Rn (shw c g n) 0 1 := by
  intro j
  unfold shw
  split
  · split <;> omega
  · exact h j
end VPURE10
section VSW
variable {p : Program} {l : Launch} {e : Env} {R : Room} {s : State} {m : MethodId} {args : Array Value} {below : List Frame} {meth : Method} {c : Code} {Q : State → Prop} {D : va_G} {A : Nat → Prop} {H0 : Heap} {nL cells slots : Nat} {ws : va_W} {lv : List (Nat × Value)} {pc : Nat} {st : List Value} {own nm : String} {cc : ByteArray} {ret : Option FieldType} {Ts : List Cond} {cs : Nat → ClassId}
theorem v_tableOut (hC : v_C p s m args meth c own nm cc nL ret Ts D cs A H0) (pc' : Nat) {dflt lo hi a : Int} {offs : Array Int} {len : Nat} (hdg : decode cc pc = .ok (.tableswitch dflt lo hi offs, len)) (h : a < lo ∨ hi < a) (hr : -2147483648 ≤ a ∧ a < 2147483648) (ht : (pc : Int) + dflt = (pc' : Int)) (kk : V p l e R s m args below meth c Q D A H0 nL cells slots ws lv pc' st) : V p l e R s m args below meth c Q D A H0 nL cells slots ws lv pc (.int (iI a) :: st) :=
  fun H locs ls hP hD hS hl => lv_tableOut hC.1 hC.2.1 hdg (by rw [iI_toInt hr]; exact h) ht (kk H locs ls hP hD hS hl)
theorem v_tableIn (hC : v_C p s m args meth c own nm cc nL ret Ts D cs A H0) (pc' : Nat) (k : Int) {off dflt lo hi a : Int} {offs : Array Int} {len : Nat} (hdg : decode cc pc = .ok (.tableswitch dflt lo hi offs, len)) (hr : -2147483648 ≤ a ∧ a < 2147483648) (ha : a = k) (h1 : ¬ k < lo) (h2 : ¬ hi < k) (ho : offs[(k - lo).toNat]? = some off) (ht : (pc : Int) + off = (pc' : Int)) (kk : V p l e R s m args below meth c Q D A H0 nL cells slots ws lv pc' st) : V p l e R s m args below meth c Q D A H0 nL cells slots ws lv pc (.int (iI a) :: st) := by
  subst ha
  exact fun H locs ls hP hD hS hl => lv_tableIn hC.1 hC.2.1 hdg (by rw [iI_toInt hr]; exact h1) (by rw [iI_toInt hr]; exact h2) (by rw [iI_toInt hr]; exact ho) ht (kk H locs ls hP hD hS hl)
end VSW

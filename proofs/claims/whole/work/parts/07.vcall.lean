section VK3
/-- a callee's start: its cells, the tables, its cells apart -/
def cPre (D : va_G) (cs : Nat → ClassId) (wc : va_W) (sz : Nat) : State → Prop := fun U => U.heap.size = sz ∧ va_P D vwCl wc U.heap ∧ va_K D vwCl (ty3 cs) U ∧ NS U ∧ va_D (fun _ => True) wc
theorem cPre_blind {D : va_G} {cs : Nat → ClassId} {wc : va_W} {sz : Nat} {As : List Value} : FrameBlind (va_Pc As (cPre D cs wc sz)) := by
  intro a U g mk q
  obtain ⟨q0, q1, qP, qK, qN, qD⟩ := q
  exact ⟨q0, q1, qP, va_K.moved (u := U) (U := U.calling g mk a) (Vm.Alike.refl U.vm) qK, NS.same rfl qN, qD⟩
def Ri {S : Type} (D : va_G) (post : Int → S → Prop) (B : S → va_W) (A : Nat → Prop) : Array Value → State → Outcome → State → Prop := va_Qi (fun r u => ∃ z : Int, r = iI z ∧ post z u) (fun u t => va_P D vwCl (B u) t.heap ∧ va_D A (B u)) A
def Rv {S : Type} (D : va_G) (post : S → Prop) (B : S → va_W) (A : Nat → Prop) : Array Value → State → Outcome → State → Prop := va_Qv post (fun u t => va_P D vwCl (B u) t.heap ∧ va_D A (B u)) A
/-- contracts: an int (or boolean) answer; none -/
def Ci (l : Launch) (D : va_G) (cs : Nat → ClassId) (y : MethodName) (w : List Cond) (rm : Room) (As : List Value) (wc : va_W) {S : Type} (post : Int → S → Prop) (B : S → va_W) (mc ms : Nat) : Prop :=
  ∀ sz : Nat, Met l y w rm (va_Pc As (cPre D cs wc sz)) (Ri D post B (va_A wc sz)) mc ms (va_A wc sz)
def Cv (l : Launch) (D : va_G) (cs : Nat → ClassId) (y : MethodName) (w : List Cond) (rm : Room) (As : List Value) (wc : va_W) {S : Type} (post : S → Prop) (B : S → va_W) (mc ms : Nat) : Prop :=
  ∀ sz : Nat, Met l y w rm (va_Pc As (cPre D cs wc sz)) (Rv D post B (va_A wc sz)) mc ms (va_A wc sz)
theorem va_P_sub {D : va_G} {cl : List vw_C} {ws wc : va_W} {H : Heap} {is : List Nat} (hP : va_P D cl ws H) (h : is.map (fun i => ws[i]?) = wc.map some) : va_P D cl wc H := by
  refine hP.sub is ?_
  have h1 : (is.map (fun i => ws[i]?)).filterMap id = (wc.map some).filterMap id := by rw [h]
  simpa [List.filterMap_map] using h1
theorem Ci_of {l : Launch} {D : va_G} {cs : Nat → ClassId} {y : MethodName} {w w' : List Cond} {rm : Room} {As : List Value} {wc : va_W} {S : Type} {post : Int → S → Prop} {B : S → va_W} {mc ms : Nat} {cc : ByteArray} {nL : Nat} {ret : Option FieldType} (own nm : String) (hy : plainName y.cls = true ∧ y.cls = own ∧ y.name = nm) (hw : w = Cond.code y cc nL ret :: w') (hsl : (lg_sl As).length ≤ nL) {lv0 : List (Nat × Value)} (hlv : lv_args 0 As = lv0)
    (body : ∀ p e s m args below meth c A Q, Q = MQ below (Ri D post B A) args s mc ms A → v_C p s m args meth c own nm cc nL ret w D cs A s.heap → V p l e rm s m args below meth c Q D A s.heap nL 0 0 wc lv0 0 []) : Ci l D cs y w rm As wc post B mc ms := by
  intro sz
  refine Met.ofW (cc := cc) (maxL := nL) (ret := ret) hy.1 hw ?_
  intro p e s m args below meth c s₁ BB hml hv
  obtain ⟨rfl, hsz, hP, hK, hN, hD0⟩ := hv
  subst hsz
  have hts := atoms_spec (ws := w) BB.pre
  have hown : s.vm.findClass own = some m.cls := by rw [← hy.2.1]; exact findClass_of_methodNamed BB.named
  have hnm : meth.name = nm := by rw [← hy.2.2]; exact (name_of_methodNamed BB.named BB.method).1
  have h := body p e s m As.toArray below meth c (va_A wc s.heap.size) _ rfl ⟨BB.exec, BB.bytes, hml, hown, hts, BB.returns, hnm, BB.notSynchronized, hK, hN, fun q h => Or.inr h⟩
  rw [lg_entry_eq]
  subst hlv
  exact h s.heap [] _ hP (hD0.self (sz := s.heap.size)) va_S.rf (lv_entry As hsl)
theorem Cv_of {l : Launch} {D : va_G} {cs : Nat → ClassId} {y : MethodName} {w w' : List Cond} {rm : Room} {As : List Value} {wc : va_W} {S : Type} {post : S → Prop} {B : S → va_W} {mc ms : Nat} {cc : ByteArray} {nL : Nat} {ret : Option FieldType} (own nm : String) (hy : plainName y.cls = true ∧ y.cls = own ∧ y.name = nm) (hw : w = Cond.code y cc nL ret :: w') (hsl : (lg_sl As).length ≤ nL) {lv0 : List (Nat × Value)} (hlv : lv_args 0 As = lv0)
    (body : ∀ p e s m args below meth c A Q, Q = MQ below (Rv D post B A) args s mc ms A → v_C p s m args meth c own nm cc nL ret w D cs A s.heap → V p l e rm s m args below meth c Q D A s.heap nL 0 0 wc lv0 0 []) : Cv l D cs y w rm As wc post B mc ms := by
  intro sz
  refine Met.ofW (cc := cc) (maxL := nL) (ret := ret) hy.1 hw ?_
  intro p e s m args below meth c s₁ BB hml hv
  obtain ⟨rfl, hsz, hP, hK, hN, hD0⟩ := hv
  subst hsz
  have hts := atoms_spec (ws := w) BB.pre
  have hown : s.vm.findClass own = some m.cls := by rw [← hy.2.1]; exact findClass_of_methodNamed BB.named
  have hnm : meth.name = nm := by rw [← hy.2.2]; exact (name_of_methodNamed BB.named BB.method).1
  have h := body p e s m As.toArray below meth c (va_A wc s.heap.size) _ rfl ⟨BB.exec, BB.bytes, hml, hown, hts, BB.returns, hnm, BB.notSynchronized, hK, hN, fun q h => Or.inr h⟩
  rw [lg_entry_eq]
  subst hlv
  exact h s.heap [] _ hP (hD0.self (sz := s.heap.size)) va_S.rf (lv_entry As hsl)
section
variable {p : Program} {l : Launch} {e : Env} {R : Room} {s : State} {m : MethodId} {args : Array Value} {below : List Frame} {meth : Method} {c : Code} {Q : State → Prop} {D : va_G} {A : Nat → Prop} {H0 : Heap} {nL cells slots : Nat} {ws : va_W} {lv : List (Nat × Value)} {pc : Nat} {st : List Value} {own nm : String} {cc : ByteArray} {ret : Option FieldType} {Ts : List Cond} {cs : Nat → ClassId}
theorem v_iret {S : Type} {post : Int → S → Prop} {B : S → va_W} {mc ms : Nat} {z : Int} (hC : v_C p s m args meth c own nm cc nL (some .int) Ts D cs A s.heap) (hQ : Q = MQ below (Ri D post B A) args s mc ms A) (u : S) (is : List Nat) (hdg : decode cc pc = .ok (.ireturn, 1)) (hB : is.map (fun i => ws[i]?) = (B u).map some) (hnd : va_nd is = true) (hcs : cells ≤ mc ∧ slots ≤ ms) (hpost : post z u) : V p l e R s m args below meth c Q D A s.heap nL cells slots ws lv pc [.int (iI z)] := by
  obtain ⟨hx, hb, hml, hown, hts, hr, hnm, hlk, hK, hN, hA⟩ := hC
  subst hQ
  refine v_widen hcs.1 hcs.2 (fun H locs ls hP hD hS hl => ?_)
  exact W.iret hx hb hr (fun t ht hW => ⟨⟨iI z, u, rfl, ⟨z, rfl, hpost⟩, by rw [ht]; exact va_P_sub hP hB, hD.sub is hnd hB⟩, hS.F ht⟩) hS.2.2 hdg
theorem v_zret {S : Type} {post : Int → S → Prop} {B : S → va_W} {mc ms : Nat} {z : Int} (hC : v_C p s m args meth c own nm cc nL (some .boolean) Ts D cs A s.heap) (hQ : Q = MQ below (Ri D post B A) args s mc ms A) (u : S) (is : List Nat) (hdg : decode cc pc = .ok (.ireturn, 1)) (h01 : z = 0 ∨ z = 1) (hB : is.map (fun i => ws[i]?) = (B u).map some) (hnd : va_nd is = true) (hcs : cells ≤ mc ∧ slots ≤ ms) (hpost : post z u) : V p l e R s m args below meth c Q D A s.heap nL cells slots ws lv pc [.int (iI z)] := by
  obtain ⟨hx, hb, hml, hown, hts, hr, hnm, hlk, hK, hN, hA⟩ := hC
  subst hQ
  refine v_widen hcs.1 hcs.2 (fun H locs ls hP hD hS hl => ?_)
  exact W.zret hx hb hr (iI_01 h01) (fun t ht hW => ⟨⟨iI z, u, rfl, ⟨z, rfl, hpost⟩, by rw [ht]; exact va_P_sub hP hB, hD.sub is hnd hB⟩, hS.F ht⟩) hS.2.2 hdg
theorem v_vret {S : Type} {post : S → Prop} {B : S → va_W} {mc ms : Nat} (hC : v_C p s m args meth c own nm cc nL none Ts D cs A s.heap) (hQ : Q = MQ below (Rv D post B A) args s mc ms A) (u : S) (is : List Nat) (hdg : decode cc pc = .ok (.return_, 1)) (hB : is.map (fun i => ws[i]?) = (B u).map some) (hnd : va_nd is = true) (hcs : cells ≤ mc ∧ slots ≤ ms) (hpost : post u) : V p l e R s m args below meth c Q D A s.heap nL cells slots ws lv pc [] := by
  obtain ⟨hx, hb, hml, hown, hts, hr, hnm, hlk, hK, hN, hA⟩ := hC
  subst hQ
  refine v_widen hcs.1 hcs.2 (fun H locs ls hP hD hS hl => ?_)
  exact W.vret hx hb hr (fun t ht hW => ⟨⟨u, rfl, hpost, by rw [ht]; exact va_P_sub hP hB, hD.sub is hnd hB⟩, hS.F ht⟩) hS.2.2 hdg
theorem v_objInit (hC : v_C p s m args meth c own nm cc nL ret Ts D cs A H0) (pc' : Nat) {a idx : Nat} (hdg : decode cc pc = .ok (.invokespecial idx, 3)) (hpc : pc + 3 = pc') (hlink : Cond.methodLink own idx Lib.objectInit ∈ Ts) (hinst : Cond.instanceMethod Lib.objectInit ∈ Ts) (hcode : Cond.code Lib.objectInit ⟨#[0xb1]⟩ 1 none ∈ Ts) (hR : 1 ≤ R.frames ∧ (st.map fun v => v.category).sum + 12 ≤ R.locals) (kk : V p l e R s m args below meth c Q D A H0 nL cells slots ws lv pc' st) : V p l e R s m args below meth c Q D A H0 nL cells slots ws lv pc (.ref a :: st) := by
  obtain ⟨hx, hb, hml, hown, hts, hr, hnm, hlk, hK, hN, hA⟩ := hC
  subst hpc; exact fun H locs ls hP hD hS hl => W.objInit hx hb hown (hts _ hlink) (hts _ hinst) (hts _ hcode) rfl (by rw [hml]; exact hl.1) rfl hdg hR.1 (by show 2 * 0 + _ + 12 ≤ _; omega) (kk H locs ls hP hD hS hl)
theorem v_new (hC : v_C p s m args meth c own nm cc nL ret Ts D cs A H0) (pc' : Nat) {C : String} {T : u_T} {N ci index cells' slots' : Nat} {fs : List Value} {ty0 : Nat → FieldType} (hdg : decode cc pc = .ok (.new index, 3)) (hpc : pc + 3 = pc') (hin : ∀ w ∈ u_ws C T N, w ∈ Ts) (hty : ∀ k, k < N → parseFieldDescriptor (T k).2.2.1 = some (ty0 k)) (hlink : Cond.classLink own index C ∈ Ts) (hinst : Cond.instantiable C N ∈ Ts) (hini : Cond.initialized C ∈ Ts) (hc : vwCl[ci]? = some (C, T, N)) (hfs : ∀ j, j < N → defaultValue (ty0 j) = vp_V fs j) (hcs : cells + 1 = cells' ∧ slots + N = slots') (hR : cells' ≤ R.cells ∧ slots' ≤ R.slots) (kk : ∀ q : Nat, V p l e R s m args below meth c Q D A H0 nL cells' slots' (ws ++ [(q, .inr (ci, fs))]) lv pc' (.ref q :: st)) : V p l e R s m args below meth c Q D A H0 nL cells slots ws lv pc st := by
  obtain ⟨hx, hb, hml, hown, hts, hr, hnm, hlk, hK, hN, hA⟩ := hC
  obtain ⟨rfl, rfl⟩ := hcs
  subst hpc; exact fun H locs ls hP hD hS hl => va_new hx hb hts hin ty0 hty hown (hts _ hlink) (hts _ hinst) (hts _ hini) hK hP hD hS hA hc hfs hR.1 hR.2 hdg (fun q H hP hD hS => kk q H locs ls hP hD hS hl)
theorem v_newai (hC : v_C p s m args meth c own nm cc nL ret Ts D cs A H0) (pc' : Nat) {n : Nat} {cells' slots' : Nat} (hdg : decode cc pc = .ok (.newarray .int, 2)) (hpc : pc + 2 = pc') (harr : Cond.arrayClass .int ∈ Ts) (hn : n < 1000) (hcs : cells + 1 = cells' ∧ slots + n = slots') (hR : cells' ≤ R.cells ∧ slots' ≤ R.slots) (kk : ∀ q : Nat, V p l e R s m args below meth c Q D A H0 nL cells' slots' (ws ++ [(q, .inl (cs 0, n, .inl (aI (fun _ => 0))))]) lv pc' (.ref q :: st)) : V p l e R s m args below meth c Q D A H0 nL cells slots ws lv pc (.int (iI n) :: st) := by
  obtain ⟨hx, hb, hml, hown, hts, hr, hnm, hlk, hK, hN, hA⟩ := hC
  obtain ⟨rfl, rfl⟩ := hcs
  subst hpc; exact fun H locs ls hP hD hS hl => va_newa (atype := .int) hx hb (hts _ harr) rfl hK hP hD hS hA (a0 := (n, .inl (aI (fun _ => 0)))) (fun cA => rfl) (by rw [iI_0, iI_lt (by omega) (by omega)]; omega) (by rw [iI_clamp (by omega)]; omega) (by show n * 4 ≤ 536870912; omega) hR.1 hR.2 hdg (fun q cA H hK1 hP hD hS => by
    have h1 := (hK1.2 3 (cA, .int) rfl).2
    have h2 := (hK.2 0 (cs 0, .int) rfl).2
    have h3 : cA = cs 0 := Option.some.inj (h1.symm.trans h2)
    subst h3
    exact kk q H locs ls hP hD hS hl)
theorem v_newaz (hC : v_C p s m args meth c own nm cc nL ret Ts D cs A H0) (pc' : Nat) {n : Nat} {cells' slots' : Nat} (hdg : decode cc pc = .ok (.newarray .boolean, 2)) (hpc : pc + 2 = pc') (harr : Cond.arrayClass .boolean ∈ Ts) (hn : n < 1000) (hcs : cells + 1 = cells' ∧ slots + n = slots') (hR : cells' ≤ R.cells ∧ slots' ≤ R.slots) (kk : ∀ q : Nat, V p l e R s m args below meth c Q D A H0 nL cells' slots' (ws ++ [(q, .inl (cs 1, n, .inl (aI (fun _ => 0))))]) lv pc' (.ref q :: st)) : V p l e R s m args below meth c Q D A H0 nL cells slots ws lv pc (.int (iI n) :: st) := by
  obtain ⟨hx, hb, hml, hown, hts, hr, hnm, hlk, hK, hN, hA⟩ := hC
  obtain ⟨rfl, rfl⟩ := hcs
  subst hpc; exact fun H locs ls hP hD hS hl => va_newa (atype := .boolean) hx hb (hts _ harr) rfl hK hP hD hS hA (a0 := (n, .inl (aI (fun _ => 0)))) (fun cA => rfl) (by rw [iI_0, iI_lt (by omega) (by omega)]; omega) (by rw [iI_clamp (by omega)]; omega) (by show n * 1 ≤ 536870912; omega) hR.1 hR.2 hdg (fun q cA H hK1 hP hD hS => by
    have h1 := (hK1.2 3 (cA, .boolean) rfl).2
    have h2 := (hK.2 1 (cs 1, .boolean) rfl).2
    have h3 : cA = cs 1 := Option.some.inj (h1.symm.trans h2)
    subst h3
    exact kk q H locs ls hP hD hS hl)
theorem v_mmax (hC : v_C p s m args meth c own nm cc nL ret Ts D cs A H0) (pc' : Nat) {a b : Int} {index : Nat} (hdg : decode cc pc = .ok (.invokestatic index, 3)) (hpc : pc + 3 = pc') (hlink : Cond.methodLink own index Lib.Math.max.name ∈ Ts) (hstat : Cond.static Lib.Math.max.name ∈ Ts) (hini : Cond.initialized "java/lang/Math" ∈ Ts) (hcode : Cond.code Lib.Math.max.name Lib.Math.max.code 2 (some .int) ∈ Ts) (hR : 1 ≤ R.frames ∧ (st.map fun v => v.category).sum + 13 ≤ R.locals ∧ cells ≤ R.cells ∧ slots ≤ R.slots) (ha : -2147483648 ≤ a ∧ a < 2147483648) (hb9 : -2147483648 ≤ b ∧ b < 2147483648) (kk : V p l e R s m args below meth c Q D A H0 nL cells slots ws lv pc' (.int (iI (max a b)) :: st)) : V p l e R s m args below meth c Q D A H0 nL cells slots ws lv pc (.int (iI b) :: .int (iI a) :: st) := by
  obtain ⟨hx, hb, hml, hown, hts, hr, hnm, hlk, hK, hN, hA⟩ := hC
  subst hpc
  intro H locs ls hP hD hS hl
  have he : (if iI a < iI b then iI b else iI a) = iI (max a b) := by
    by_cases h : a < b
    · rw [if_pos (((iI_lt ha hb9)).mpr h)]; congr 1; omega
    · rw [if_neg (fun q => h (((iI_lt ha hb9)).mp q))]; congr 1; omega
  refine va_mmax hx hb (by rw [hml]; exact hl.1.symm) hown (hts _ hlink) (hts _ hstat) (hts _ hini) (hts _ hcode) hR.1 hR.2.1 hR.2.2.1 hR.2.2.2 hdg ?_
  rw [he]
  exact kk H locs ls hP hD hS hl
theorem v_mmin (hC : v_C p s m args meth c own nm cc nL ret Ts D cs A H0) (pc' : Nat) {a b : Int} {index : Nat} (hdg : decode cc pc = .ok (.invokestatic index, 3)) (hpc : pc + 3 = pc') (hlink : Cond.methodLink own index Lib.Math.min.name ∈ Ts) (hstat : Cond.static Lib.Math.min.name ∈ Ts) (hini : Cond.initialized "java/lang/Math" ∈ Ts) (hcode : Cond.code Lib.Math.min.name Lib.Math.min.code 2 (some .int) ∈ Ts) (hR : 1 ≤ R.frames ∧ (st.map fun v => v.category).sum + 13 ≤ R.locals ∧ cells ≤ R.cells ∧ slots ≤ R.slots) (ha : -2147483648 ≤ a ∧ a < 2147483648) (hb9 : -2147483648 ≤ b ∧ b < 2147483648) (kk : V p l e R s m args below meth c Q D A H0 nL cells slots ws lv pc' (.int (iI (min a b)) :: st)) : V p l e R s m args below meth c Q D A H0 nL cells slots ws lv pc (.int (iI b) :: .int (iI a) :: st) := by
  obtain ⟨hx, hb, hml, hown, hts, hr, hnm, hlk, hK, hN, hA⟩ := hC
  subst hpc
  intro H locs ls hP hD hS hl
  have he : (if iI b < iI a then iI b else iI a) = iI (min a b) := by
    by_cases h : b < a
    · rw [if_pos (((iI_lt hb9 ha)).mpr h)]; congr 1; omega
    · rw [if_neg (fun q => h (((iI_lt hb9 ha)).mp q))]; congr 1; omega
  refine va_mmin hx hb (by rw [hml]; exact hl.1.symm) hown (hts _ hlink) (hts _ hstat) (hts _ hini) (hts _ hcode) hR.1 hR.2.1 hR.2.2.1 hR.2.2.2 hdg ?_
  rw [he]
  exact kk H locs ls hP hD hS hl
theorem cPre_in {isC : List Nat} {wc : va_W} {As : List Value} {H : Heap} (hK : va_K D vwCl (ty3 cs) s) (hN : NS s) (hP : va_P D vwCl ws H) (hD : va_D A ws) (hCm : isC.map (fun i => ws[i]?) = wc.map some) (hnC : va_nd isC = true) : ∀ U : State, U.heap = H → s.WarmedH U.vm → va_Pc As (cPre D cs wc H.size) As.toArray U :=
  fun U hU hW => ⟨rfl, by rw [hU], by rw [hU]; exact va_P_sub hP hCm, va_K.moved hW.alike hK, hN.warm hW, (hD.sub isC hnC hCm).weaken (fun _ _ _ _ => trivial)⟩
theorem v_callVi (hC : v_C p s m args meth c own nm cc nL ret Ts D cs A H0) (pc' : Nat) (n : Nat) (isC isR : List Nat) (wr : va_W) {S : Type} {post : Int → S → Prop} {B : S → va_W} {mc ms maxL index : Nat} {y : MethodName} {bytes : ByteArray} {ret' : Option FieldType} {w w' : List Cond} {rm : Room} {b : Nat} {As rest : List Value} {wc : va_W} {cells' slots' : Nat} (hM : Ci l D cs y w rm (.ref b :: As) wc post B mc ms) (hdg : decode cc pc = .ok (.invokevirtual index, 3)) (hpc : pc + 3 = pc') (hst : st = As.reverse ++ .ref b :: rest) (q0 : Nat) {C : String} {T : u_T} {N ci : Nat} {fs : List Value} (he : ws[q0]? = some (b, .inr (ci, fs))) (hc : vwCl[ci]? = some (C, T, N)) (hg : GoodIn Ts (wsV own index C y w)) (hw : w = Cond.code y bytes maxL ret' :: w') (hrc : rm.cells = mc) (hrs : rm.slots = ms) (hd : y.cls = C ∧ y.cls ≠ "java/lang/invoke/MethodHandle" ∧ y.cls ≠ "java/lang/invoke/VarHandle" ∧ (parseMethodDescriptor y.desc).map (fun d => d.parameters.length) = some n) (hR : rm.frames + 1 ≤ R.frames ∧ 8 + (maxL + 11) + rm.locals ≤ R.locals) (hCm : isC.map (fun i => ws[i]?) = wc.map some) (hRm : isR.map (fun i => ws[i]?) = wr.map some) (hnC : va_nd isC = true) (hnR : va_nd isR = true) (hdis : ∀ i ∈ isR, i ∉ isC) (hAs : As.length = n) (hcat : (rest.map fun v => v.category).sum ≤ 8) (hcs : cells + mc = cells' ∧ slots + ms = slots') (hf : cells' ≤ R.cells ∧ slots' ≤ R.slots) (kk : ∀ (z : Int) (u : S), post z u → V p l e R s m args below meth c Q D A H0 nL cells' slots' (wr ++ B u) lv pc' (.int (iI z) :: rest)) : V p l e R s m args below meth c Q D A H0 nL cells slots ws lv pc st := by
  obtain ⟨hx, hb, hml, hown, hts, hr, hnm, hlk, hK, hN, hA⟩ := hC
  obtain ⟨rfl, rfl⟩ := hcs
  subst hst
  subst hpc
  intro H locs ls hP hD hS hl
  have hFc := va_free (wc := wc) hD hS hA isC hCm
  refine va_calli (va_runV (As := As) (rest := rest) ⟨hx, hb, hml, hown, hts⟩ (hM H.size) (cwV n hts hg hw hrc hrs hd hR) ⟨cPre_blind, va_recv hK hP hc he, cPre_in hK hN hP hD hCm hnC⟩ rfl hAs hl.1 rfl (lv_room hcat) hdg hf) hS (fun q _ h => hFc q h) hFc (fun r u t H1 locs ht hvm hw9 hB hz1 hk1 hS => ?_)
  obtain ⟨z, rfl, hz⟩ := hw9
  obtain ⟨hP1, hD1⟩ := hB
  rw [ht] at hP1
  obtain ⟨hP2, hD2⟩ := va_join (wr := wr) (w1 := B u) hP hD isC isR hCm hRm hnR hdis hk1 hFc hP1 hD1
  exact kk z u hz H1 locs ls hP2 hD2 hS hl
theorem v_callVv (hC : v_C p s m args meth c own nm cc nL ret Ts D cs A H0) (pc' : Nat) (n : Nat) (isC isR : List Nat) (wr : va_W) {S : Type} {post : S → Prop} {B : S → va_W} {mc ms maxL index : Nat} {y : MethodName} {bytes : ByteArray} {ret' : Option FieldType} {w w' : List Cond} {rm : Room} {b : Nat} {As rest : List Value} {wc : va_W} {cells' slots' : Nat} (hM : Cv l D cs y w rm (.ref b :: As) wc post B mc ms) (hdg : decode cc pc = .ok (.invokevirtual index, 3)) (hpc : pc + 3 = pc') (hst : st = As.reverse ++ .ref b :: rest) (q0 : Nat) {C : String} {T : u_T} {N ci : Nat} {fs : List Value} (he : ws[q0]? = some (b, .inr (ci, fs))) (hc : vwCl[ci]? = some (C, T, N)) (hg : GoodIn Ts (wsV own index C y w)) (hw : w = Cond.code y bytes maxL ret' :: w') (hrc : rm.cells = mc) (hrs : rm.slots = ms) (hd : y.cls = C ∧ y.cls ≠ "java/lang/invoke/MethodHandle" ∧ y.cls ≠ "java/lang/invoke/VarHandle" ∧ (parseMethodDescriptor y.desc).map (fun d => d.parameters.length) = some n) (hR : rm.frames + 1 ≤ R.frames ∧ 8 + (maxL + 11) + rm.locals ≤ R.locals) (hCm : isC.map (fun i => ws[i]?) = wc.map some) (hRm : isR.map (fun i => ws[i]?) = wr.map some) (hnC : va_nd isC = true) (hnR : va_nd isR = true) (hdis : ∀ i ∈ isR, i ∉ isC) (hAs : As.length = n) (hcat : (rest.map fun v => v.category).sum ≤ 8) (hcs : cells + mc = cells' ∧ slots + ms = slots') (hf : cells' ≤ R.cells ∧ slots' ≤ R.slots) (kk : ∀ (u : S), post u → V p l e R s m args below meth c Q D A H0 nL cells' slots' (wr ++ B u) lv pc' rest) : V p l e R s m args below meth c Q D A H0 nL cells slots ws lv pc st := by
  obtain ⟨hx, hb, hml, hown, hts, hr, hnm, hlk, hK, hN, hA⟩ := hC
  obtain ⟨rfl, rfl⟩ := hcs
  subst hst
  subst hpc
  intro H locs ls hP hD hS hl
  have hFc := va_free (wc := wc) hD hS hA isC hCm
  refine va_callv (va_runV (As := As) (rest := rest) ⟨hx, hb, hml, hown, hts⟩ (hM H.size) (cwV n hts hg hw hrc hrs hd hR) ⟨cPre_blind, va_recv hK hP hc he, cPre_in hK hN hP hD hCm hnC⟩ rfl hAs hl.1 rfl (lv_room hcat) hdg hf) hS (fun q _ h => hFc q h) hFc (fun u t H1 locs ht hvm hz hB hz1 hk1 hS => ?_)
  obtain ⟨hP1, hD1⟩ := hB
  rw [ht] at hP1
  obtain ⟨hP2, hD2⟩ := va_join (wr := wr) (w1 := B u) hP hD isC isR hCm hRm hnR hdis hk1 hFc hP1 hD1
  exact kk u hz H1 locs ls hP2 hD2 hS hl
theorem v_callSi (hC : v_C p s m args meth c own nm cc nL ret Ts D cs A H0) (pc' : Nat) (n : Nat) (isC isR : List Nat) (wr : va_W) {S : Type} {post : Int → S → Prop} {B : S → va_W} {mc ms maxL index : Nat} {y : MethodName} {bytes : ByteArray} {ret' : Option FieldType} {w w' : List Cond} {rm : Room} {As rest : List Value} {wc : va_W} {cells' slots' : Nat} (hM : Ci l D cs y w rm As wc post B mc ms) (hdg : decode cc pc = .ok (.invokestatic index, 3)) (hpc : pc + 3 = pc') (hst : st = As.reverse ++ rest) (hg : GoodIn Ts (va_wsS own index y w)) (hw : w = Cond.code y bytes maxL ret' :: w') (hrc : rm.cells = mc) (hrs : rm.slots = ms) (hd : y.cls ≠ "java/lang/invoke/MethodHandle" ∧ y.cls ≠ "java/lang/invoke/VarHandle" ∧ (parseMethodDescriptor y.desc).map (fun d => d.parameters.length) = some n) (hR : rm.frames + 1 ≤ R.frames ∧ 8 + (maxL + 11) + rm.locals ≤ R.locals) (hCm : isC.map (fun i => ws[i]?) = wc.map some) (hRm : isR.map (fun i => ws[i]?) = wr.map some) (hnC : va_nd isC = true) (hnR : va_nd isR = true) (hdis : ∀ i ∈ isR, i ∉ isC) (hAs : As.length = n) (hcat : (rest.map fun v => v.category).sum ≤ 8) (hcs : cells + mc = cells' ∧ slots + ms = slots') (hf : cells' ≤ R.cells ∧ slots' ≤ R.slots) (kk : ∀ (z : Int) (u : S), post z u → V p l e R s m args below meth c Q D A H0 nL cells' slots' (wr ++ B u) lv pc' (.int (iI z) :: rest)) : V p l e R s m args below meth c Q D A H0 nL cells slots ws lv pc st := by
  obtain ⟨hx, hb, hml, hown, hts, hr, hnm, hlk, hK, hN, hA⟩ := hC
  obtain ⟨rfl, rfl⟩ := hcs
  subst hst
  subst hpc
  intro H locs ls hP hD hS hl
  have hFc := va_free (wc := wc) hD hS hA isC hCm
  refine va_calli (va_runS (As := As) (rest := rest) ⟨hx, hb, hml, hown, hts⟩ (hM H.size) (va_cwS n hts hg hw hrc hrs hd hR) ⟨cPre_blind, cPre_in hK hN hP hD hCm hnC⟩ rfl hAs hl.1 rfl (lv_room hcat) hdg hf) hS (fun q _ h => hFc q h) hFc (fun r u t H1 locs ht hvm hw9 hB hz1 hk1 hS => ?_)
  obtain ⟨z, rfl, hz⟩ := hw9
  obtain ⟨hP1, hD1⟩ := hB
  rw [ht] at hP1
  obtain ⟨hP2, hD2⟩ := va_join (wr := wr) (w1 := B u) hP hD isC isR hCm hRm hnR hdis hk1 hFc hP1 hD1
  exact kk z u hz H1 locs ls hP2 hD2 hS hl
theorem v_callSv (hC : v_C p s m args meth c own nm cc nL ret Ts D cs A H0) (pc' : Nat) (n : Nat) (isC isR : List Nat) (wr : va_W) {S : Type} {post : S → Prop} {B : S → va_W} {mc ms maxL index : Nat} {y : MethodName} {bytes : ByteArray} {ret' : Option FieldType} {w w' : List Cond} {rm : Room} {As rest : List Value} {wc : va_W} {cells' slots' : Nat} (hM : Cv l D cs y w rm As wc post B mc ms) (hdg : decode cc pc = .ok (.invokestatic index, 3)) (hpc : pc + 3 = pc') (hst : st = As.reverse ++ rest) (hg : GoodIn Ts (va_wsS own index y w)) (hw : w = Cond.code y bytes maxL ret' :: w') (hrc : rm.cells = mc) (hrs : rm.slots = ms) (hd : y.cls ≠ "java/lang/invoke/MethodHandle" ∧ y.cls ≠ "java/lang/invoke/VarHandle" ∧ (parseMethodDescriptor y.desc).map (fun d => d.parameters.length) = some n) (hR : rm.frames + 1 ≤ R.frames ∧ 8 + (maxL + 11) + rm.locals ≤ R.locals) (hCm : isC.map (fun i => ws[i]?) = wc.map some) (hRm : isR.map (fun i => ws[i]?) = wr.map some) (hnC : va_nd isC = true) (hnR : va_nd isR = true) (hdis : ∀ i ∈ isR, i ∉ isC) (hAs : As.length = n) (hcat : (rest.map fun v => v.category).sum ≤ 8) (hcs : cells + mc = cells' ∧ slots + ms = slots') (hf : cells' ≤ R.cells ∧ slots' ≤ R.slots) (kk : ∀ (u : S), post u → V p l e R s m args below meth c Q D A H0 nL cells' slots' (wr ++ B u) lv pc' rest) : V p l e R s m args below meth c Q D A H0 nL cells slots ws lv pc st := by
  obtain ⟨hx, hb, hml, hown, hts, hr, hnm, hlk, hK, hN, hA⟩ := hC
  obtain ⟨rfl, rfl⟩ := hcs
  subst hst
  subst hpc
  intro H locs ls hP hD hS hl
  have hFc := va_free (wc := wc) hD hS hA isC hCm
  refine va_callv (va_runS (As := As) (rest := rest) ⟨hx, hb, hml, hown, hts⟩ (hM H.size) (va_cwS n hts hg hw hrc hrs hd hR) ⟨cPre_blind, cPre_in hK hN hP hD hCm hnC⟩ rfl hAs hl.1 rfl (lv_room hcat) hdg hf) hS (fun q _ h => hFc q h) hFc (fun u t H1 locs ht hvm hz hB hz1 hk1 hS => ?_)
  obtain ⟨hP1, hD1⟩ := hB
  rw [ht] at hP1
  obtain ⟨hP2, hD2⟩ := va_join (wr := wr) (w1 := B u) hP hD isC isR hCm hRm hnR hdis hk1 hFc hP1 hD1
  exact kk u hz H1 locs ls hP2 hD2 hS hl
theorem v_callSNi (hC : v_C p s m args meth c own nm cc nL ret Ts D cs A H0) (pc' : Nat) (n : Nat) (isC isR : List Nat) (wr : va_W) {S : Type} {post : Int → S → Prop} {B : S → va_W} {mc ms maxL index : Nat} {y : MethodName} {bytes : ByteArray} {ret' : Option FieldType} {w w' : List Cond} {rm : Room} {As rest : List Value} {wc : va_W} {cells' slots' : Nat} (hM : Ci l D cs y w rm As wc post B mc ms) (hdg : decode cc pc = .ok (.invokestatic index, 3)) (hpc : pc + 3 = pc') (hst : st = As.reverse ++ rest) (hg : GoodIn Ts w) (hini : Cond.initialized y.cls ∈ Ts) (hstat : Cond.static y ∈ Ts) (host : String) (hnest : (own, index, y, host) ∈ nstW) (hw : w = Cond.code y bytes maxL ret' :: w') (hrc : rm.cells = mc) (hrs : rm.slots = ms) (hd : y.cls ≠ "java/lang/invoke/MethodHandle" ∧ y.cls ≠ "java/lang/invoke/VarHandle" ∧ (parseMethodDescriptor y.desc).map (fun d => d.parameters.length) = some n) (hR : rm.frames + 1 ≤ R.frames ∧ 8 + (maxL + 11) + rm.locals ≤ R.locals) (hCm : isC.map (fun i => ws[i]?) = wc.map some) (hRm : isR.map (fun i => ws[i]?) = wr.map some) (hnC : va_nd isC = true) (hnR : va_nd isR = true) (hdis : ∀ i ∈ isR, i ∉ isC) (hAs : As.length = n) (hcat : (rest.map fun v => v.category).sum ≤ 8) (hcs : cells + mc = cells' ∧ slots + ms = slots') (hf : cells' ≤ R.cells ∧ slots' ≤ R.slots) (kk : ∀ (z : Int) (u : S), post z u → V p l e R s m args below meth c Q D A H0 nL cells' slots' (wr ++ B u) lv pc' (.int (iI z) :: rest)) : V p l e R s m args below meth c Q D A H0 nL cells slots ws lv pc st := by
  obtain ⟨hx, hb, hml, hown, hts, hr, hnm, hlk, hK, hN, hA⟩ := hC
  obtain ⟨rfl, rfl⟩ := hcs
  subst hst
  subst hpc
  intro H locs ls hP hD hS hl
  have hFc := va_free (wc := wc) hD hS hA isC hCm
  refine va_calli (va_runSN (As := As) (rest := rest) ⟨hx, hb, hml, hown, hts⟩ (hM H.size) (⟨va_cnB n hts hg hw hrc hrs (hN _ hnest) (hts _ hini) hd hR, hts _ hstat, trivial⟩) ⟨cPre_blind, cPre_in hK hN hP hD hCm hnC⟩ rfl hAs hl.1 rfl (lv_room hcat) hdg hf) hS (fun q _ h => hFc q h) hFc (fun r u t H1 locs ht hvm hw9 hB hz1 hk1 hS => ?_)
  obtain ⟨z, rfl, hz⟩ := hw9
  obtain ⟨hP1, hD1⟩ := hB
  rw [ht] at hP1
  obtain ⟨hP2, hD2⟩ := va_join (wr := wr) (w1 := B u) hP hD isC isR hCm hRm hnR hdis hk1 hFc hP1 hD1
  exact kk z u hz H1 locs ls hP2 hD2 hS hl
theorem v_callIv (hC : v_C p s m args meth c own nm cc nL ret Ts D cs A H0) (pc' : Nat) (n : Nat) (isC isR : List Nat) (wr : va_W) {S : Type} {post : S → Prop} {B : S → va_W} {mc ms maxL index : Nat} {y : MethodName} {bytes : ByteArray} {ret' : Option FieldType} {w w' : List Cond} {rm : Room} {b : Nat} {As rest : List Value} {wc : va_W} {cells' slots' : Nat} (hM : Cv l D cs y w rm (.ref b :: As) wc post B mc ms) (hdg : decode cc pc = .ok (.invokespecial index, 3)) (hpc : pc + 3 = pc') (hst : st = As.reverse ++ .ref b :: rest) (hg : GoodIn Ts w) (hini : Cond.initialized y.cls ∈ Ts) (hlink : Cond.methodLink own index y ∈ Ts) (hinm : Cond.instanceMethod y ∈ Ts) (hy1 : y.name = "<init>") (hw : w = Cond.code y bytes maxL none :: w') (hrc : rm.cells = mc) (hrs : rm.slots = ms) (hd : y.cls ≠ "java/lang/invoke/MethodHandle" ∧ y.cls ≠ "java/lang/invoke/VarHandle" ∧ (parseMethodDescriptor y.desc).map (fun d => d.parameters.length) = some n) (hR : rm.frames + 1 ≤ R.frames ∧ 8 + (maxL + 11) + rm.locals ≤ R.locals) (hCm : isC.map (fun i => ws[i]?) = wc.map some) (hRm : isR.map (fun i => ws[i]?) = wr.map some) (hnC : va_nd isC = true) (hnR : va_nd isR = true) (hdis : ∀ i ∈ isR, i ∉ isC) (hAs : As.length = n) (hcat : (rest.map fun v => v.category).sum ≤ 8) (hcs : cells + mc = cells' ∧ slots + ms = slots') (hf : cells' ≤ R.cells ∧ slots' ≤ R.slots) (kk : ∀ (u : S), post u → V p l e R s m args below meth c Q D A H0 nL cells' slots' (wr ++ B u) lv pc' rest) : V p l e R s m args below meth c Q D A H0 nL cells slots ws lv pc st := by
  obtain ⟨hx, hb, hml, hown, hts, hr, hnm, hlk, hK, hN, hA⟩ := hC
  obtain ⟨rfl, rfl⟩ := hcs
  subst hst
  subst hpc
  intro H locs ls hP hD hS hl
  have hFc := va_free (wc := wc) hD hS hA isC hCm
  refine va_callv (va_runI (As := As) (rest := rest) ⟨hx, hb, hml, hown, hts⟩ (hM H.size) (cwI n hts hg hw hrc hrs (hts _ hini) (hts _ hlink) (hts _ hinm) hy1 hd hR) ⟨cPre_blind, cPre_in hK hN hP hD hCm hnC⟩ rfl hAs hl.1 rfl (lv_room hcat) hdg hf) hS (fun q _ h => hFc q h) hFc (fun u t H1 locs ht hvm hz hB hz1 hk1 hS => ?_)
  obtain ⟨hP1, hD1⟩ := hB
  rw [ht] at hP1
  obtain ⟨hP2, hD2⟩ := va_join (wr := wr) (w1 := B u) hP hD isC isR hCm hRm hnR hdis hk1 hFc hP1 hD1
  exact kk u hz H1 locs ls hP2 hD2 hS hl
theorem v_callINv (hC : v_C p s m args meth c own nm cc nL ret Ts D cs A H0) (pc' : Nat) (n : Nat) (isC isR : List Nat) (wr : va_W) {S : Type} {post : S → Prop} {B : S → va_W} {mc ms maxL index : Nat} {y : MethodName} {bytes : ByteArray} {ret' : Option FieldType} {w w' : List Cond} {rm : Room} {b : Nat} {As rest : List Value} {wc : va_W} {cells' slots' : Nat} (hM : Cv l D cs y w rm (.ref b :: As) wc post B mc ms) (hdg : decode cc pc = .ok (.invokespecial index, 3)) (hpc : pc + 3 = pc') (hst : st = As.reverse ++ .ref b :: rest) (hg : GoodIn Ts w) (hini : Cond.initialized y.cls ∈ Ts) (hinm : Cond.instanceMethod y ∈ Ts) (hy1 : y.name = "<init>") (host : String) (hnest : (own, index, y, host) ∈ nstW) (hw : w = Cond.code y bytes maxL none :: w') (hrc : rm.cells = mc) (hrs : rm.slots = ms) (hd : y.cls ≠ "java/lang/invoke/MethodHandle" ∧ y.cls ≠ "java/lang/invoke/VarHandle" ∧ (parseMethodDescriptor y.desc).map (fun d => d.parameters.length) = some n) (hR : rm.frames + 1 ≤ R.frames ∧ 8 + (maxL + 11) + rm.locals ≤ R.locals) (hCm : isC.map (fun i => ws[i]?) = wc.map some) (hRm : isR.map (fun i => ws[i]?) = wr.map some) (hnC : va_nd isC = true) (hnR : va_nd isR = true) (hdis : ∀ i ∈ isR, i ∉ isC) (hAs : As.length = n) (hcat : (rest.map fun v => v.category).sum ≤ 8) (hcs : cells + mc = cells' ∧ slots + ms = slots') (hf : cells' ≤ R.cells ∧ slots' ≤ R.slots) (kk : ∀ (u : S), post u → V p l e R s m args below meth c Q D A H0 nL cells' slots' (wr ++ B u) lv pc' rest) : V p l e R s m args below meth c Q D A H0 nL cells slots ws lv pc st := by
  obtain ⟨hx, hb, hml, hown, hts, hr, hnm, hlk, hK, hN, hA⟩ := hC
  obtain ⟨rfl, rfl⟩ := hcs
  subst hst
  subst hpc
  intro H locs ls hP hD hS hl
  have hFc := va_free (wc := wc) hD hS hA isC hCm
  refine va_callv (va_runIN (As := As) (rest := rest) ⟨hx, hb, hml, hown, hts⟩ (hM H.size) (⟨va_cnB n hts hg hw hrc hrs (hN _ hnest) (hts _ hini) hd hR, hy1, hts _ hinm⟩) ⟨cPre_blind, cPre_in hK hN hP hD hCm hnC⟩ rfl hAs hl.1 rfl (lv_room hcat) hdg hf) hS (fun q _ h => hFc q h) hFc (fun u t H1 locs ht hvm hz hB hz1 hk1 hS => ?_)
  obtain ⟨hP1, hD1⟩ := hB
  rw [ht] at hP1
  obtain ⟨hP2, hD2⟩ := va_join (wr := wr) (w1 := B u) hP hD isC isR hCm hRm hnR hdis hk1 hFc hP1 hD1
  exact kk u hz H1 locs ls hP2 hD2 hS hl
end
end VK3

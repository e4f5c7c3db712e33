section VTH
def IAE : String := "java/lang/IllegalArgumentException"
def ISE : String := "java/lang/IllegalStateException"
def IOE : String := "java/lang/IndexOutOfBoundsException"
def thrX : List String := [IAE, ISE, IOE]
def thrS : List String := ["java/lang/RuntimeException", "java/lang/Exception"]
def thrD : List MethodName := [Bundle.initS "java/lang/RuntimeException", Bundle.initS "java/lang/Exception", Bundle.initS Bundle.tN]
def thrW : List Cond := thrX.map (fun x => .castable x x) ++ thrD.map (fun x => .declares x)
def thrN : List (String × String) := [(ISE, IAE), (ISE, IOE), (IAE, IOE)]
def strW : List (String × Nat × String) := [(RX7, 106, "no such column for the door"), (RX7, 115, "no such piece"), (RX7, 117, "what is 0 to 5"), (RX7, 152, "no place below 0"), (RX7, 160, "a floor is 0 to 9"), (RX7, 162, "a crate has 1 to 100 tiles"), (RX7, 168, "there are 20 crates"), (RX7, 181, "grout dries 0 to 48 hours"), (RX7, 189, "no such strip"), (RX7, 194, "the strip is laid, or one ahead of it is not dry"), (RX7, 212, "to wait takes 1 to 100 hours"), (RX7, 67, "a tile is 1 to 4 cells wide and high"), (RX7, 72, "a border has 0 to 2 cells"), (RX7, 74, "a pattern is STRAIGHT or BOND"), (RX7, 82, "a strip is laid"), (RX7, 99, "no such cell")]
/-- what a throw rests on, beside the tables' good words -/
def TF (A : Nat → Prop) (U : State) : Prop := (vx_Zq Bundle.tN "UNASSIGNED_STACK" Bundle.steD A U U.heap ∧ vx_Zq Bundle.tN "SUPPRESSED_SENTINEL" Bundle.listD A U U.heap) ∧ (∀ q ∈ strW, ∃ sa, vk_R q.1 q.2.1 q.2.2 sa U) ∧ (∀ x ∈ thrX, va_Nw (.castable x x) U) ∧ (∀ x ∈ thrD, va_Nw (.declares x) U) ∧ ∀ x ∈ thrN, va_Nc x.1 x.2 U
theorem TF_in {A A1 : Nat → Prop} {s : State} {H : Heap} {locs : List Loc} (h : TF A s) (hS : va_S A s.heap H locs) (hA : ∀ q, A1 q → A q) : ∀ U : State, U.heap = H → s.WarmedH U.vm → TF A1 U := by
  intro U hU hW
  have hk : ∀ a : Nat, a < s.heap.size → ¬ A a → H[a]? = s.heap[a]? := fun a h1 h2 => hS.2.1 a h1 h2
  refine ⟨⟨?_, ?_⟩, fun q hq => ?_, fun x hx => (h.2.2.1 x hx).warmC hW, fun x hx => (h.2.2.2.1 x hx).warmD hW, fun x hx => (h.2.2.2.2 x hx).moved hW.alike⟩
  · rw [hU]; exact ((h.1.1.kept hk).narrow hA).moved hW.alike
  · rw [hU]; exact ((h.1.2.kept hk).narrow hA).moved hW.alike
  · obtain ⟨sa, h1⟩ := h.2.1 q hq
    exact ⟨sa, h1.warm hW⟩
theorem TF_blind {A : Nat → Prop} {U : State} {g : JFrame} {mk : MethodId} {a : Array Value} (h : TF A U) : TF A (U.calling g mk a) :=
  ⟨⟨vx_Zq.moved (u := U) (U := U.calling g mk a) (Vm.Alike.refl U.vm) h.1.1, vx_Zq.moved (u := U) (U := U.calling g mk a) (Vm.Alike.refl U.vm) h.1.2⟩,
   fun q hq => by
    obtain ⟨sa, h1⟩ := h.2.1 q hq
    exact ⟨sa, vk_R.same rfl h1⟩, fun x hx => (h.2.2.1 x hx).same rfl rfl, fun x hx => (h.2.2.2.1 x hx).same rfl rfl, fun x hx => va_Nc.moved (u := U) (U := U.calling g mk a) (Vm.Alike.refl U.vm) (h.2.2.2.2 x hx)⟩
def tPre (D : va_G) (cs : Nat → ClassId) (wc : va_W) (sz : Nat) : State → Prop := fun U => cPre D cs wc sz U ∧ TF (va_A wc sz) U
theorem tPre_blind {D : va_G} {cs : Nat → ClassId} {wc : va_W} {sz : Nat} {As : List Value} : FrameBlind (va_Pc As (tPre D cs wc sz)) := by
  intro a U g mk q
  obtain ⟨q0, q1, q2⟩ := q
  have h := cPre_blind (D := D) (cs := cs) (wc := wc) (sz := sz) (As := As) a U g mk ⟨q0, q1⟩
  exact ⟨h.1, h.2, TF_blind q2⟩
def Rx (D : va_G) (wc : va_W) (E : String) (A : Nat → Prop) : String → State → State → Prop := vx_X (fun _ : Unit => True) (fun E' _ t => E' = E ∧ va_P D vwCl wc t.heap) A
def Rn0 (A : Nat → Prop) : Array Value → State → Outcome → State → Prop := va_Qi (fun _ (_ : Unit) => False) (fun _ _ => True) A
/-- a contract of a method that throws E, and leaves its world as it was -/
def Xt (l : Launch) (D : va_G) (cs : Nat → ClassId) (y : MethodName) (w : List Cond) (rm : Room) (As : List Value) (wc : va_W) (E : String) (mc ms : Nat) : Prop :=
  ∀ sz : Nat, vx_Met l y w rm (va_Pc As (tPre D cs wc sz)) (Rn0 (va_A wc sz)) (Rx D wc E (va_A wc sz)) mc ms (va_A wc sz)
/-- a contract of a method with a table of its own, that answers an int -/
def Cw (l : Launch) (D : va_G) (cs : Nat → ClassId) (y : MethodName) (w : List Cond) (rm : Room) (As : List Value) (wc : va_W) {S : Type} (post : Int → S → Prop) (B : S → va_W) (mc ms : Nat) : Prop :=
  ∀ sz : Nat, Met l y w rm (va_Pc As (tPre D cs wc sz)) (Ri D post B (va_A wc sz)) mc ms (va_A wc sz)
theorem Xt_of {l : Launch} {D : va_G} {cs : Nat → ClassId} {y : MethodName} {w w' : List Cond} {rm : Room} {As : List Value} {wc : va_W} {E : String} {mc ms : Nat} {cc : ByteArray} {nL : Nat} {ret : Option FieldType} (own nm : String) (hy : plainName y.cls = true ∧ y.cls = own ∧ y.name = nm) (hw : w = Cond.code y cc nL ret :: w') (hsl : (lg_sl As).length ≤ nL) {lv0 : List (Nat × Value)} (hlv : lv_args 0 As = lv0)
    (body : ∀ p e s m args below meth c A Q, Q = vx_MQ below (Rn0 A) (Rx D wc E A) args s mc ms A → v_C p s m args meth c own nm cc nL ret w D cs A s.heap → TF A s → (∀ x ∈ c.exceptionTable.toList, False) → V p l e rm s m args below meth c Q D A s.heap nL 0 0 wc lv0 0 []) : Xt l D cs y w rm As wc E mc ms := by
  intro sz
  refine vx_ofW (cc := cc) (maxL := nL) (ret := ret) hy.1 hw ?_
  intro p e s m args below meth c s₁ BB hml htab hv
  obtain ⟨rfl, ⟨hsz, hP, hK, hN, hD0⟩, hT⟩ := hv
  subst hsz
  have hts := atoms_spec (ws := w) BB.pre
  have hown : s.vm.findClass own = some m.cls := by rw [← hy.2.1]; exact findClass_of_methodNamed BB.named
  have hnm : meth.name = nm := by rw [← hy.2.2]; exact (name_of_methodNamed BB.named BB.method).1
  have h := body p e s m As.toArray below meth c (va_A wc s.heap.size) _ rfl ⟨BB.exec, BB.bytes, hml, hown, hts, BB.returns, hnm, BB.notSynchronized, hK, hN, fun q h => Or.inr h⟩ hT htab
  rw [lg_entry_eq]
  subst hlv
  exact h s.heap [] _ hP (hD0.self (sz := s.heap.size)) va_S.rf (lv_entry As hsl)
theorem Cw_of {l : Launch} {D : va_G} {cs : Nat → ClassId} {y : MethodName} {w w' : List Cond} {rm : Room} {As : List Value} {wc : va_W} {S : Type} {post : Int → S → Prop} {B : S → va_W} {mc ms : Nat} {cc : ByteArray} {nL : Nat} {ret : Option FieldType} {hh : List (Nat × Nat × Nat × Nat)} (own nm : String) (hy : plainName y.cls = true ∧ y.cls = own ∧ y.name = nm) (hw : w = Cond.codeWith y cc nL ret hh :: w') (hsl : (lg_sl As).length ≤ nL) {lv0 : List (Nat × Value)} (hlv : lv_args 0 As = lv0)
    (body : ∀ p e s m args below meth c A Q, Q = MQ below (Ri D post B A) args s mc ms A → v_C p s m args meth c own nm cc nL ret w D cs A s.heap → TF A s → c.exceptionTable.toList = tableOf hh → V p l e rm s m args below meth c Q D A s.heap nL 0 0 wc lv0 0 []) : Cw l D cs y w rm As wc post B mc ms := by
  intro sz
  refine va_MetW (cc := cc) (maxL := nL) (ret := ret) hy.1 hw ?_
  intro p e s m args below meth c s₁ BB hml hv
  obtain ⟨rfl, ⟨hsz, hP, hK, hN, hD0⟩, hT⟩ := hv
  subst hsz
  have hts := atoms_spec (ws := w) BB.pre
  have hown : s.vm.findClass own = some m.cls := by rw [← hy.2.1]; exact findClass_of_methodNamed BB.named
  have hnm : meth.name = nm := by rw [← hy.2.2]; exact (name_of_methodNamed BB.named BB.method).1
  have htab := vx_table (x := y) BB (hts _ (by rw [hw]; exact List.mem_cons_self))
  have h := body p e s m As.toArray below meth c (va_A wc s.heap.size) _ rfl ⟨BB.exec, BB.bytes, hml, hown, hts, BB.returns, hnm, BB.notSynchronized, hK, hN, fun q h => Or.inr h⟩ hT htab
  rw [lg_entry_eq]
  subst hlv
  exact h s.heap [] _ hP (hD0.self (sz := s.heap.size)) va_S.rf (lv_entry As hsl)
section
variable {p : Program} {l : Launch} {e : Env} {R : Room} {s : State} {m : MethodId} {args : Array Value} {below : List Frame} {meth : Method} {c : Code} {Q : State → Prop} {D : va_G} {A : Nat → Prop} {H0 : Heap} {nL cells slots : Nat} {ws : va_W} {lv : List (Nat × Value)} {pc : Nat} {st : List Value} {own nm : String} {cc : ByteArray} {ret : Option FieldType} {Ts : List Cond} {cs : Nat → ClassId}
/-- 'throw new E("text")' -/
theorem v_throw {wc : va_W} {E text : String} {mc ms ik is ic : Nat} (hC : v_C p s m args meth c own nm cc nL ret Ts D cs A s.heap) (hfl : l.stackTraces = false) (hT : TF A s) (htab : ∀ x ∈ c.exceptionTable.toList, False) (hQ : Q = vx_MQ below (Rn0 A) (Rx D wc E A) args s mc ms A)
    (d0 : decode cc pc = .ok (.new ik, 3)) (d3 : decode cc (pc + 3) = .ok (.dup, 1)) (d4 : decode cc (pc + 4) = .ok (.ldc is, 2)) (d6 : decode cc (pc + 6) = .ok (.invokespecial ic, 3)) (d9 : decode cc (pc + 9) = .ok (.athrow, 1))
    (hE : Bundle.fit E = true ∧ ∀ n ∈ thrS, Bundle.fit n = true) (hk : Cond.classLink own ik E ∈ Ts) (hini : Cond.initialized E ∈ Ts) (hstr : (own, is, text) ∈ strW) (ha1 : ∀ w ∈ (vx_atS own ic E thrS).filter goodWord, w ∈ Ts) (ha2 : ∀ w ∈ (vx_atS own ic E thrS).filter (fun w => !goodWord w), w ∈ thrW) (hgood : ∀ w ∈ Cond.classLink own ik E :: Cond.initialized E :: vx_atS own ic E thrS, vx_ot w = true)
    (isW : List Nat) (hW : isW.map (fun i => ws[i]?) = wc.map some) (hR : 5 < R.frames ∧ (st.map fun v => v.category).sum + 82 ≤ R.locals ∧ cells + 1 ≤ R.cells ∧ slots + 6 ≤ R.slots) (hcs : cells + 1 ≤ mc ∧ slots + 6 ≤ ms) : V p l e R s m args below meth c Q D A s.heap nL cells slots ws lv pc st := by
  obtain ⟨hx, hb, hml, hown, hts, hr, hnm, hlk, hK, hN, hA⟩ := hC
  subst hQ
  intro H locs ls hP hD hS hl
  obtain ⟨sa, hsa⟩ := hT.2.1 _ hstr
  refine vx_throwS (names := thrS) hx hb hfl hown hE.1 hE.2 (hts _ hk) (hts _ hini) hsa (vx_hat (fun w hw => hts w (ha1 w hw)) ha2 (fun w hw => ?_)) hgood hT.1.1 hT.1.2 hS (by rw [hml]; exact hl.1) d0 d3 d4 d6 d9 (fun x hx => absurd (htab x hx) id) hR.1 hR.2.1 hR.2.2.1 hR.2.2.2 hlk ?_ hS.2.2 hcs.1 hcs.2
  · rcases List.mem_append.mp hw with h | h
    · obtain ⟨x, h1, rfl⟩ := List.mem_map.mp h
      exact (hT.2.2.1 x h1).use rfl
    · obtain ⟨x, h1, rfl⟩ := List.mem_map.mp h
      exact (hT.2.2.2.1 x h1).use rfl
  · intro t hvm hz hq
    refine ⟨(), trivial, ⟨rfl, ?_⟩, ?_, ?_⟩
    · exact (va_P_sub hP hW).kept (fun k q hk => hq q.1 ((va_P_sub hP hW k q hk).lt))
    · exact Nat.le_trans hS.1 hz
    · intro q h1 h2
      rw [hq q (Nat.lt_of_lt_of_le h1 hS.1)]
      exact hS.2.1 q h1 h2
/-- a call of a method that throws, caught by the row x of this method's table -/
theorem v_callVx (hC : v_C p s m args meth c own nm cc nL ret Ts D cs A s.heap) (hT : TF A s) (n : Nat) (isC isR : List Nat) (wr : va_W) {E : String} {mc ms maxL index : Nat} {y : MethodName} {bytes : ByteArray} {ret' : Option FieldType} {w w' : List Cond} {rm : Room} {b : Nat} {As rest : List Value} {wc : va_W} {cells' slots' : Nat} (hM : Xt l D cs y w rm (.ref b :: As) wc E mc ms) (hdg : decode cc pc = .ok (.invokevirtual index, 3)) (hst : st = As.reverse ++ .ref b :: rest) (q0 : Nat) {C : String} {T : u_T} {N ci : Nat} {fs : List Value} (he : ws[q0]? = some (b, .inr (ci, fs))) (hc : vwCl[ci]? = some (C, T, N)) (hg : GoodIn Ts (wsV own index C y w)) (hw : w = Cond.code y bytes maxL ret' :: w') (hrc : rm.cells = mc) (hrs : rm.slots = ms) (hd : y.cls = C ∧ y.cls ≠ "java/lang/invoke/MethodHandle" ∧ y.cls ≠ "java/lang/invoke/VarHandle" ∧ (parseMethodDescriptor y.desc).map (fun d => d.parameters.length) = some n) (hR : rm.frames + 1 ≤ R.frames ∧ 8 + (maxL + 11) + rm.locals ≤ R.locals) (hCm : isC.map (fun i => ws[i]?) = wc.map some) (hRm : isR.map (fun i => ws[i]?) = wr.map some) (hnC : va_nd isC = true) (hnR : va_nd isR = true) (hdis : ∀ i ∈ isR, i ∉ isC) (hAs : As.length = n) (hcat : (rest.map fun v => v.category).sum ≤ 8) (hcs : cells + mc = cells' ∧ slots + ms = slots') (hf : cells' ≤ R.cells ∧ slots' ≤ R.slots)
    {hh : List (Nat × Nat × Nat × Nat)} (htab : c.exceptionTable.toList = tableOf hh) (pre : List ExceptionTableEntry) (x : ExceptionTableEntry) (suf : List ExceptionTableEntry) (hsplit : tableOf hh = pre ++ x :: suf) (hpass : ∀ z ∈ pre, z.catchType ≠ 0 ∧ ∃ nm : String, Cond.classLink own z.catchType nm ∈ Ts ∧ (E, nm) ∈ thrN) (hxc : covers x pc = true) (h0 : x.catchType ≠ 0) (hlink : Cond.classLink own x.catchType E ∈ Ts) (hEx : E ∈ thrX)
    (kk : ∀ q9 : Nat, V p l e R s m args below meth c Q D A s.heap nL cells' slots' (wr ++ wc) lv x.handlerPc [.ref q9]) : V p l e R s m args below meth c Q D A s.heap nL cells slots ws lv pc st := by
  obtain ⟨hx, hb, hml, hown, hts, hr, hnm, hlk, hK, hN, hA⟩ := hC
  obtain ⟨rfl, rfl⟩ := hcs
  subst hst
  intro H locs ls hP hD hS hl
  have hFc := va_free (wc := wc) hD hS hA isC hCm
  refine vx_calli (vx_runV (As := As) (rest := rest) ⟨hx, hb, hml, hown, hts⟩ (hM H.size) (cwV n hts hg hw hrc hrs hd hR) ⟨tPre_blind, va_recv hK hP hc he, fun U hU hW => ?_⟩ rfl hAs hl.1 rfl (lv_room hcat) hdg hf) hS (fun q _ h => hFc q h) hFc (fun q _ h => hFc q h) (fun E9 ce q9 u t H1 locs1 ht hvm hpx hB hz hk hS1 hce hcv hcl => ?_) (fun r u t H1 locs1 ht hvm hpx => absurd hpx id)
  · have h := cPre_in (As := .ref b :: As) hK hN hP hD hCm hnC U hU hW
    exact ⟨h.1, h.2, TF_in hT hS hFc U hU hW⟩
  · obtain ⟨rfl, hP1⟩ := hB
    rw [ht] at hP1
    have hD1 : va_D (va_A wc H.size) wc := ((hD.sub isC hnC hCm).self (sz := H.size))
    obtain ⟨hP2, hD2⟩ := va_join (wr := wr) (w1 := wc) hP hD isC isR hCm hRm hnR hdis hk hFc hP1 hD1
    refine vx_catch hown pre x suf (htab.trans hsplit) (fun z hz => Or.inr ?_) hxc h0 (hts _ hlink) ((hT.2.2.1 _ hEx).use rfl) hce hcv hcl (kk q9 H1 locs1 ls hP2 hD2 hS1 hl)
    obtain ⟨g1, nm9, g2, g3⟩ := hpass z hz
    exact ⟨g1, nm9, hts _ g2, hT.2.2.2.2 _ g3⟩
theorem v_callSWi (hC : v_C p s m args meth c own nm cc nL ret Ts D cs A s.heap) (hT : TF A s) (pc' : Nat) (n : Nat) (isC isR : List Nat) (wr : va_W) {S : Type} {post : Int → S → Prop} {B : S → va_W} {mc ms maxL index : Nat} {y : MethodName} {bytes : ByteArray} {ret' : Option FieldType} {hh : List (Nat × Nat × Nat × Nat)} {w w' : List Cond} {rm : Room} {As rest : List Value} {wc : va_W} {cells' slots' : Nat} (hM : Cw l D cs y w rm As wc post B mc ms) (hdg : decode cc pc = .ok (.invokestatic index, 3)) (hpc : pc + 3 = pc') (hst : st = As.reverse ++ rest) (hg : GoodIn Ts (va_wsS own index y w)) (hw : w = Cond.codeWith y bytes maxL ret' hh :: w') (hrc : rm.cells = mc) (hrs : rm.slots = ms) (hd : y.cls ≠ "java/lang/invoke/MethodHandle" ∧ y.cls ≠ "java/lang/invoke/VarHandle" ∧ (parseMethodDescriptor y.desc).map (fun d => d.parameters.length) = some n) (hR : rm.frames + 1 ≤ R.frames ∧ 8 + (maxL + 11) + rm.locals ≤ R.locals) (hCm : isC.map (fun i => ws[i]?) = wc.map some) (hRm : isR.map (fun i => ws[i]?) = wr.map some) (hnC : va_nd isC = true) (hnR : va_nd isR = true) (hdis : ∀ i ∈ isR, i ∉ isC) (hAs : As.length = n) (hcat : (rest.map fun v => v.category).sum ≤ 8) (hcs : cells + mc = cells' ∧ slots + ms = slots') (hf : cells' ≤ R.cells ∧ slots' ≤ R.slots) (kk : ∀ (z : Int) (u : S), post z u → V p l e R s m args below meth c Q D A s.heap nL cells' slots' (wr ++ B u) lv pc' (.int (iI z) :: rest)) : V p l e R s m args below meth c Q D A s.heap nL cells slots ws lv pc st := by
  obtain ⟨hx, hb, hml, hown, hts, hr, hnm, hlk, hK, hN, hA⟩ := hC
  obtain ⟨rfl, rfl⟩ := hcs
  subst hst
  subst hpc
  intro H locs ls hP hD hS hl
  have hFc := va_free (wc := wc) hD hS hA isC hCm
  refine va_calli (vx_runSW (As := As) (rest := rest) ⟨hx, hb, hml, hown, hts⟩ (hM H.size) (vx_cwSW n hts hg hw hrc hrs hd hR) ⟨tPre_blind, fun U hU hW => ?_⟩ rfl hAs hl.1 rfl (lv_room hcat) hdg hf) hS (fun q _ h => hFc q h) hFc (fun r u t H1 locs ht hvm hw9 hB hz1 hk1 hS => ?_)
  · have h := cPre_in (As := As) hK hN hP hD hCm hnC U hU hW
    exact ⟨h.1, h.2, TF_in hT hS hFc U hU hW⟩
  · obtain ⟨z, rfl, hz⟩ := hw9
    obtain ⟨hP1, hD1⟩ := hB
    rw [ht] at hP1
    obtain ⟨hP2, hD2⟩ := va_join (wr := wr) (w1 := B u) hP hD isC isR hCm hRm hnR hdis hk1 hFc hP1 hD1
    exact kk z u hz H1 locs ls hP2 hD2 hS hl
end
theorem thr_fitIAE : Bundle.fit IAE = true ∧ ∀ n ∈ thrS, Bundle.fit n = true := by decide +kernel
theorem thr_fitISE : Bundle.fit ISE = true ∧ ∀ n ∈ thrS, Bundle.fit n = true := by decide +kernel
theorem thr_fitIOE : Bundle.fit IOE = true ∧ ∀ n ∈ thrS, Bundle.fit n = true := by decide +kernel
theorem thr_a69 : ∀ w ∈ (vx_atS RX7 69 IAE thrS).filter (fun w => !goodWord w), w ∈ thrW := by decide +kernel
theorem thr_g65_69 : ∀ w ∈ Cond.classLink RX7 65 IAE :: Cond.initialized IAE :: vx_atS RX7 69 IAE thrS, vx_ot w = true := by decide +kernel
theorem thr_a84 : ∀ w ∈ (vx_atS RX7 84 ISE thrS).filter (fun w => !goodWord w), w ∈ thrW := by decide +kernel
theorem thr_g80_84 : ∀ w ∈ Cond.classLink RX7 80 ISE :: Cond.initialized ISE :: vx_atS RX7 84 ISE thrS, vx_ot w = true := by decide +kernel
theorem thr_a101 : ∀ w ∈ (vx_atS RX7 101 IOE thrS).filter (fun w => !goodWord w), w ∈ thrW := by decide +kernel
theorem thr_g97_101 : ∀ w ∈ Cond.classLink RX7 97 IOE :: Cond.initialized IOE :: vx_atS RX7 101 IOE thrS, vx_ot w = true := by decide +kernel
end VTH

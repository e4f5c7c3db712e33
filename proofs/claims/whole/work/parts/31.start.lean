section VSTART
theorem arr_of {s : State} {A : Array Value} {ty : FieldType} (h : (Cond.arrayClass ty).before A s = true) : ∃ (cA : ClassId) (kA : Class) (comp : ClassId), s.vm.findClass ("[" ++ ty.toString) = some cA ∧ s.vm.classes[cA]? = some kA ∧ kA.kind = .array comp ty := by
  cases hf : s.vm.findClass ("[" ++ ty.toString) with
  | none => simp [Cond.before, Cond.holds, Cond.value, hf] at h
  | some cA =>
    cases hk : s.vm.classes[cA]? with
    | none => simp [Cond.before, Cond.holds, Cond.value, hf, hk] at h
    | some kA =>
      cases hd : kA.kind with
      | array comp t =>
        have ht : t = ty := by simpa [Cond.before, Cond.holds, Cond.value, hf, hk, hd] using h
        subst ht
        exact ⟨cA, kA, comp, rfl, hk, hd⟩
      | _ => simp [Cond.before, Cond.holds, Cond.value, hf, hk, hd] at h
theorem arr_T {s : State} {A : Array Value} {ty : FieldType} (h : (Cond.arrayClass ty).before A s = true) : ∃ cA : ClassId, ArrOfT s cA ty ∧ s.vm.findClass ("[" ++ ty.toString) = some cA := by
  obtain ⟨cA, kA, comp, h1, h2, h3⟩ := arr_of h
  exact ⟨cA, fun n z => ⟨fun k h => (by cases h), kA, h2, comp, h3⟩, h1⟩
set_option maxRecDepth 100000 in
theorem TF_0 {s : State} {b : Nat} (hts : ∀ w ∈ lw_tbl, w.before #[Value.ref b] s = true) (hgv : (Jvm.Cond.and given_1 narrow_1).before #[Value.ref b] s = true) : TF (fun q : Nat => s.heap.size ≤ q) s := by
  have hn := flat_of_before _ hgv
  have hA : ∀ a : Nat, a < s.heap.size → ¬ s.heap.size ≤ a := fun a h => Nat.not_le.mpr h
  refine ⟨⟨?_, ?_⟩, ?_, ?_, ?_, ?_⟩
  · exact vx_Zqof (hts _ (by decide +kernel)) (hts _ (by decide +kernel)) (hn _ (by decide +kernel)) hA
  · exact vx_Zqof (hts _ (by decide +kernel)) (hts _ (by decide +kernel)) (hn _ (by decide +kernel)) hA
  · have h1 : ∀ q ∈ strW, Cond.stringRef q.1 q.2.1 q.2.2 ∈ lw_tbl := by decide +kernel
    have h2 : ∀ q ∈ strW, Cond.exactly (Term.string q.1 q.2.1) "java/lang/String" ∈ flatC (Jvm.Cond.and given_1 narrow_1) := by decide +kernel
    intro q hq
    obtain ⟨a, c, cA, kA, q1, -⟩ := Cond.exactly_spec (args := #[Value.ref b]) (first := s) (o := none) (s := s) (idx := []) (t := Term.string q.1 q.2.1) (cls := "java/lang/String") (hn _ (h2 q hq))
    exact ⟨a, vk_R.of (hts _ (h1 q hq)) q1⟩
  · have h1 : ∀ x ∈ thrX, Cond.castable x x ∈ lw_tbl := by decide +kernel
    exact fun x hx => va_Nw.of rfl (hts _ (h1 x hx))
  · have h1 : ∀ x ∈ thrD, Cond.declares x ∈ lw_tbl := by decide +kernel
    exact fun x hx => va_Nw.of rfl (hts _ (h1 x hx))
  · have h1 : ∀ x ∈ thrN, Cond.not (.castable x.1 x.2) ∈ flatC (Jvm.Cond.and given_1 narrow_1) := by decide +kernel
    exact fun x hx => va_Nc.of (hn _ (h1 x hx))
set_option maxRecDepth 100000 in
theorem NS_0 {s : State} {b : Nat} (hts : ∀ w ∈ lw_tbl, w.before #[Value.ref b] s = true) : NS s := by
  have h1 : ∀ q ∈ nstW, Cond.methodLinkNest q.1 q.2.1 q.2.2.1 q.2.2.2 ∈ lw_tbl := by decide +kernel
  exact fun q hq => va_Nw.of rfl (hts _ (h1 q hq))
set_option maxHeartbeats 4000000 in
set_option maxRecDepth 100000 in
theorem K_0 {s : State} {A : Array Value} (hts : ∀ w ∈ lw_tbl, w.before A s = true) : ∃ (D : va_G) (cs : Nat → ClassId), va_K D vwCl (ty3 cs) s := by
  obtain ⟨a0, t0, f0⟩ := arr_T (hts (.arrayClass .int) (by decide +kernel))
  obtain ⟨a1, t1, f1⟩ := arr_T (hts (.arrayClass .boolean) (by decide +kernel))
  obtain ⟨a2, t2, f2⟩ := arr_T (hts (.arrayClass .long) (by decide +kernel))
  obtain ⟨c0, i0, k0⟩ := u_known (C := RX0) (T := TX0) (N := 3) (n := 3) hts (fun w h => rw_law w (inlX0 w h)) (hts (.instantiable RX0 3) (by decide +kernel))
  obtain ⟨c1, i1, k1⟩ := u_known (C := RX1) (T := TX1) (N := 6) (n := 6) hts (fun w h => rw_law w (inlX1 w h)) (hts (.instantiable RX1 6) (by decide +kernel))
  obtain ⟨c2, i2, k2⟩ := u_known (C := RX2) (T := TX2) (N := 4) (n := 4) hts (fun w h => rw_law w (inlX2 w h)) (hts (.instantiable RX2 4) (by decide +kernel))
  obtain ⟨c3, i3, k3⟩ := u_known (C := RX3) (T := TX3) (N := 4) (n := 4) hts (fun w h => rw_law w (inlX3 w h)) (hts (.instantiable RX3 4) (by decide +kernel))
  obtain ⟨c4, i4, k4⟩ := u_known (C := RX4) (T := TX4) (N := 9) (n := 9) hts (fun w h => rw_law w (inlX4 w h)) (hts (.instantiable RX4 9) (by decide +kernel))
  obtain ⟨c5, i5, k5⟩ := u_known (C := RX5) (T := TX5) (N := 4) (n := 4) hts (fun w h => rw_law w (inlX5 w h)) (hts (.instantiable RX5 4) (by decide +kernel))
  obtain ⟨c6, i6, k6⟩ := u_known (C := RX6) (T := TX6) (N := 5) (n := 5) hts (fun w h => rw_law w (inlX6 w h)) (hts (.instantiable RX6 5) (by decide +kernel))
  obtain ⟨c7, i7, k7⟩ := u_known (C := RX7) (T := TX7) (N := 7) (n := 7) hts (fun w h => rw_law w (inlX7 w h)) (hts (.instantiable RX7 7) (by decide +kernel))
  obtain ⟨c8, i8, k8⟩ := u_known (C := RX8) (T := TX8) (N := 31) (n := 31) hts (fun w h => rw_law w (inlX8 w h)) (hts (.instantiable RX8 31) (by decide +kernel))
  refine ⟨(fun k => match k with | 0 => c0 | 1 => c1 | 2 => c2 | 3 => c3 | 4 => c4 | 5 => c5 | 6 => c6 | 7 => c7 | _ => c8, fun k => match k with | 0 => i0 | 1 => i1 | 2 => i2 | 3 => i3 | 4 => i4 | 5 => i5 | 6 => i6 | 7 => i7 | _ => i8), fun k => match k with | 0 => a0 | 1 => a1 | _ => a2, ?_, ?_⟩
  · intro k q hq
    match k, hq with
    | 0, hq => cases hq; exact k0
    | 1, hq => cases hq; exact k1
    | 2, hq => cases hq; exact k2
    | 3, hq => cases hq; exact k3
    | 4, hq => cases hq; exact k4
    | 5, hq => cases hq; exact k5
    | 6, hq => cases hq; exact k6
    | 7, hq => cases hq; exact k7
    | 8, hq => cases hq; exact k8
    | k + 9, hq => simp [vwCl] at hq
  · intro k q hq
    match k, hq with
    | 0, hq => cases hq; exact ⟨t0, f0⟩
    | 1, hq => cases hq; exact ⟨t1, f1⟩
    | 2, hq => cases hq; exact ⟨t2, f2⟩
    | k + 3, hq => simp [ty3] at hq
end VSTART
/-! THE CLAIM OUT OF ONE WALK OF THE LAW'S BODY. Your part is whole_start (and what it stands on); all else here is the same for every law, but numbers. -/
def R_law : String := "GroutlineLaw"
def lw_P (b : Addr) (xs : List Int32) (args : Array Value) (s : State) : Prop := args = #[.ref b] ∧ s.IntsAt b xs ∧ xs.length ≤ 2560 ∧ (Jvm.Cond.and given_1 narrow_1).before args s = true
def lw_Q (_ : Array Value) (s : State) (o : Outcome) (t : State) : Prop := o = .returned (some (.int 1)) ∧ Framed s o t [] 1089 11014
def lw_Z (below : List Frame) (a : Array Value) (s : State) : State → Prop := fun t => ∃ o, t.status = .running ∧ Ended t below o ∧ lw_Q a s o t
/-- the law's own end, with 1 on the stack, nothing written that was there before, its room as the claim has it -/
theorem lw_ret {p : Program} {l : Launch} {e : Env} {s : State} {m : MethodId} {below : List Frame} {meth : Method} {c : Code} {b : Nat} (hx : p.tables.exec = Jvm.exec) (hb : c.code = code) (hr : meth.sig.returnType = ret) (hlocks : meth.locks = false) {pc : Nat} {H : Heap} {ls : Array Slot} (hdg : decode code pc = .ok (.ireturn, 1)) : W p l e room_1 s m #[Value.ref b] below meth c H [] 1089 11014 (lw_Z below #[Value.ref b] s) (F0 m pc ls [.int 1]) := by
  intro T hT X
  obtain ⟨fs, hret, hrun, hended, hW, hframe⟩ := X.leave (v := some (.int 1)) (hlocks := hlocks) (fun h => by rw [hr] at h; cases h)
  have hmeth' : T.vm.method? m = some meth := X.method'
  refine ⟨T.setFrames fs, ?_, .returned (some (.int 1)), hrun, hended, rfl, ⟨_, rfl⟩, hW, hframe⟩
  jvm_step X.here [X.here.top, hx, hb, hdg, hmeth', hr, ret, narrow_b1]
  (try refine ⟨rfl, ?_⟩); (try refine ⟨rfl, ?_⟩)
  first | (intro acts; rw [hret _ acts rfl rfl rfl]) | rw [hret _ _ rfl rfl rfl]
  exact Steps.refl _
/-- what holds at the law's entry: the machine, the code, the tables' words (any of lw_tbl by 'hts w (by decide +kernel)'), the script of L ints xs at the cell b, what the Statement gives of the start (any of its parts by flat_of_before) -/
def lw_At (p : Program) (s : State) (m : MethodId) (meth : Method) (c : Code) (b L : Nat) (xs : Nat → Int32) : Prop :=
  p.tables.exec = Jvm.exec ∧ c.code = code ∧ meth.sig.returnType = ret ∧ c.maxLocals = 7 ∧ s.vm.findClass R_law = some m.cls ∧ (∀ w ∈ lw_tbl, w.before #[Value.ref b] s = true) ∧ va_X b L xs s s.heap ∧ b < s.heap.size ∧ meth.locks = false ∧ (Jvm.Cond.and given_1 narrow_1).before #[Value.ref b] s = true
theorem whole_start {p : Program} {e : Env} {s : State} {m : MethodId} {below : List Frame} {meth : Method} {c : Code} (l : Launch) (hflags : l.flags = flags0) {b L : Nat} {xs : Nat → Int32} (hL : L ≤ 2560) (C0 : lw_At p s m meth c b L xs) : W p l e room_1 s m #[Value.ref b] below meth c s.heap [] 0 0 (lw_Z below #[Value.ref b] s) (entryFrame m ([Value.ref b] : List Value).toArray 7) := by
  obtain ⟨hx, hb, hr, hml, hown, hts, hX, hbl, hlocks, hgv⟩ := id C0
  have hA : ∀ q : Nat, s.heap.size ≤ q → (fun q : Nat => s.heap.size ≤ q) q := fun _ h => h
  have hbA : ¬ (fun q : Nat => s.heap.size ≤ q) b := Nat.not_le.mpr hbl
  have hfl : l.stackTraces = false := by unfold Launch.stackTraces; rw [hflags]; decide
  obtain ⟨D, cs, hK⟩ := K_0 hts
  have hC : v_C p s m #[Value.ref b] meth c RL meth.name cL_law 7 (some .boolean) wsL_law D cs (fun q : Nat => s.heap.size ≤ q) s.heap := ⟨hx, hb, hml, hown, fun w h => hts w (rw_law w h), hr, rfl, hlocks, hK, NS_0 hts, hA⟩
  have hT := TF_0 hts hgv
  have hend : ∀ (nc ns : Nat) (H : Heap) (locs : List Loc) (ls : Array Slot), nc ≤ 1089 → ns ≤ 11014 → va_S (fun q : Nat => s.heap.size ≤ q) s.heap H locs → W p l e room_1 s m #[Value.ref b] below meth c H locs nc ns (lw_Z below #[Value.ref b] s) (F0 m 966 ls [.int 1]) := fun nc ns H locs ls h1 h2 hS => va_forget hS.2.2 (W.widen h1 h2 (lw_ret hx hb hr hlocks dL_law_966))
  have hV := lw_entry hfl hC hT hX hbl hbA hL (e9 := e) (be9 := below) (Q9 := lw_Z below #[Value.ref b] s) (@fun ag al af ao ab ap ac ak aw am wide high border pattern door cnt fl fr ft fb gfl gfr gft gfb nt rc kc km hour grt beg mpieces mtiles mrests mthrown mcrates mmoves mhour pil bar ofc knd col row siz bw bh src rw rh rmk kf kt laid dryh mpil mcf mcn mshut mpk mpf mpn mpr mleft mright mtop mbottom mat mrw mrh mrp mdry og hR => by
    refine lw_loop hfl hC hT hX hbl hbA hL 45 2702 (by decide) (by decide) (fun nc ns i wide high border pattern door cnt fl fr ft fb gfl gfr gft gfb nt rc kc km hour grt beg mpieces mtiles mrests mthrown mcrates mmoves mhour pil bar ofc knd col row siz bw bh src rw rh rmk kf kt laid dryh mpil mcf mcn mshut mpk mpf mpn mpr mleft mright mtop mbottom mat mrw mrh mrp mdry og h1 h2 => ?_) 513 0 0 rfl (by omega) (by omega) hR
    refine v_iconst hC 966 dL_law_965 rfl ?_
    exact fun H locs ls hP hD hS hl => hend nc ns H locs ls h1 h2 hS)
  have hP : va_P D vwCl [] s.heap := fun k q h => by simp at h
  have hD : va_D (fun q : Nat => s.heap.size ≤ q) [] := ⟨fun i j p q h => by simp at h, fun k q h => by simp at h⟩
  rw [lg_entry_eq]
  exact hV s.heap [] _ hP hD va_S.rf (lv_entry ([.ref b]) (n := 7) (Nat.le_of_ble_eq_true rfl))

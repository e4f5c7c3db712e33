-- ===== PART A: goes FIRST, ahead of the names: the tables' words, and 'selects' of the private methods out of them =====
/-- a private method of a class that the tables say can be made, by its rows of tables_1 -/
def lw_okq (q : MethodName × Nat) : Prop := (q.1.cls ≠ "java/lang/invoke/MethodHandle" ∧ q.1.cls ≠ "java/lang/invoke/VarHandle") ∧ Cond.instantiable q.1.cls q.2 ∈ tables_1 ∧ Cond.privateMethod q.1 ∈ tables_1 ∧ Cond.instanceMethod q.1 ∈ tables_1
theorem lw_p0 : lw_okq (⟨"Groutline", "renew", "()V"⟩, 7) := ⟨⟨by decide +kernel, by decide +kernel⟩, List.mem_of_getElem? (i := 19) (by decide +kernel), List.mem_of_getElem? (i := 213) (by decide +kernel), List.mem_of_getElem? (i := 214) (by decide +kernel)⟩
theorem lw_p1 : lw_okq (⟨"Groutline$Bars", "renewRow", "(I)V"⟩, 3) := ⟨⟨by decide +kernel, by decide +kernel⟩, List.mem_of_getElem? (i := 50) (by decide +kernel), List.mem_of_getElem? (i := 244) (by decide +kernel), List.mem_of_getElem? (i := 245) (by decide +kernel)⟩
theorem lw_p2 : lw_okq (⟨"Groutline$Bars", "isDoor", "(II)Z"⟩, 3) := ⟨⟨by decide +kernel, by decide +kernel⟩, List.mem_of_getElem? (i := 50) (by decide +kernel), List.mem_of_getElem? (i := 254) (by decide +kernel), List.mem_of_getElem? (i := 255) (by decide +kernel)⟩
theorem lw_p3 : lw_okq (⟨"Groutline$Pieces", "add", "(LGroutline$Layout;LGroutline$Bars;II)V"⟩, 9) := ⟨⟨by decide +kernel, by decide +kernel⟩, List.mem_of_getElem? (i := 68) (by decide +kernel), List.mem_of_getElem? (i := 270) (by decide +kernel), List.mem_of_getElem? (i := 271) (by decide +kernel)⟩
theorem lw_p4 : lw_okq (⟨"Groutline$Pieces", "measure", "(LGroutline$Bars;I)V"⟩, 9) := ⟨⟨by decide +kernel, by decide +kernel⟩, List.mem_of_getElem? (i := 68) (by decide +kernel), List.mem_of_getElem? (i := 300) (by decide +kernel), List.mem_of_getElem? (i := 301) (by decide +kernel)⟩
theorem lw_p5 : lw_okq (⟨"Groutline$Cuts", "cut", "(LGroutline$Layout;III)V"⟩, 6) := ⟨⟨by decide +kernel, by decide +kernel⟩, List.mem_of_getElem? (i := 138) (by decide +kernel), List.mem_of_getElem? (i := 314) (by decide +kernel), List.mem_of_getElem? (i := 315) (by decide +kernel)⟩
theorem lw_p6 : lw_okq (⟨"Groutline$Cuts", "bestRestFor", "(II)I"⟩, 6) := ⟨⟨by decide +kernel, by decide +kernel⟩, List.mem_of_getElem? (i := 138) (by decide +kernel), List.mem_of_getElem? (i := 318) (by decide +kernel), List.mem_of_getElem? (i := 319) (by decide +kernel)⟩
theorem lw_p7 : lw_okq (⟨"Groutline$Cuts", "hasRest", "(I)Z"⟩, 6) := ⟨⟨by decide +kernel, by decide +kernel⟩, List.mem_of_getElem? (i := 138) (by decide +kernel), List.mem_of_getElem? (i := 322) (by decide +kernel), List.mem_of_getElem? (i := 323) (by decide +kernel)⟩
theorem lw_p8 : lw_okq (⟨"Groutline$Cuts", "leave", "(IIIII)V"⟩, 6) := ⟨⟨by decide +kernel, by decide +kernel⟩, List.mem_of_getElem? (i := 138) (by decide +kernel), List.mem_of_getElem? (i := 326) (by decide +kernel), List.mem_of_getElem? (i := 327) (by decide +kernel)⟩
theorem lw_p9 : lw_okq (⟨"Groutline$Cuts", "addRest", "(III)V"⟩, 6) := ⟨⟨by decide +kernel, by decide +kernel⟩, List.mem_of_getElem? (i := 138) (by decide +kernel), List.mem_of_getElem? (i := 330) (by decide +kernel), List.mem_of_getElem? (i := 331) (by decide +kernel)⟩
theorem lw_p10 : lw_okq (⟨"Groutline$Cuts", "removeRest", "(I)V"⟩, 6) := ⟨⟨by decide +kernel, by decide +kernel⟩, List.mem_of_getElem? (i := 138) (by decide +kernel), List.mem_of_getElem? (i := 334) (by decide +kernel), List.mem_of_getElem? (i := 335) (by decide +kernel)⟩
theorem lw_p11 : lw_okq (⟨"Groutline", "isFirstOfItsPiece", "(II)Z"⟩, 7) := ⟨⟨by decide +kernel, by decide +kernel⟩, List.mem_of_getElem? (i := 19) (by decide +kernel), List.mem_of_getElem? (i := 364) (by decide +kernel), List.mem_of_getElem? (i := 365) (by decide +kernel)⟩
theorem lw_p12 : lw_okq (⟨"java/lang/Throwable", "fillInStackTrace", "(I)Ljava/lang/Throwable;"⟩, 6) := ⟨⟨by decide +kernel, by decide +kernel⟩, List.mem_of_getElem? (i := 436) (by decide +kernel), List.mem_of_getElem? (i := 434) (by decide +kernel), List.mem_of_getElem? (i := 435) (by decide +kernel)⟩
theorem lw_p13 : lw_okq (⟨"Groutline$Stack", "has", "(I)Z"⟩, 4) := ⟨⟨by decide +kernel, by decide +kernel⟩, List.mem_of_getElem? (i := 165) (by decide +kernel), List.mem_of_getElem? (i := 588) (by decide +kernel), List.mem_of_getElem? (i := 589) (by decide +kernel)⟩
theorem lw_p14 : lw_okq (⟨"Groutline$Stack", "remove", "(I)V"⟩, 4) := ⟨⟨by decide +kernel, by decide +kernel⟩, List.mem_of_getElem? (i := 165) (by decide +kernel), List.mem_of_getElem? (i := 592) (by decide +kernel), List.mem_of_getElem? (i := 593) (by decide +kernel)⟩
theorem lw_p15 : lw_okq (⟨"Groutline", "piecesOfStrip", "(I)I"⟩, 7) := ⟨⟨by decide +kernel, by decide +kernel⟩, List.mem_of_getElem? (i := 19) (by decide +kernel), List.mem_of_getElem? (i := 623) (by decide +kernel), List.mem_of_getElem? (i := 624) (by decide +kernel)⟩
def lw_privs_1 : List (MethodName × Nat) := [(⟨"Groutline", "renew", "()V"⟩, 7), (⟨"Groutline$Bars", "renewRow", "(I)V"⟩, 3), (⟨"Groutline$Bars", "isDoor", "(II)Z"⟩, 3), (⟨"Groutline$Pieces", "add", "(LGroutline$Layout;LGroutline$Bars;II)V"⟩, 9), (⟨"Groutline$Pieces", "measure", "(LGroutline$Bars;I)V"⟩, 9), (⟨"Groutline$Cuts", "cut", "(LGroutline$Layout;III)V"⟩, 6), (⟨"Groutline$Cuts", "bestRestFor", "(II)I"⟩, 6), (⟨"Groutline$Cuts", "hasRest", "(I)Z"⟩, 6), (⟨"Groutline$Cuts", "leave", "(IIIII)V"⟩, 6), (⟨"Groutline$Cuts", "addRest", "(III)V"⟩, 6), (⟨"Groutline$Cuts", "removeRest", "(I)V"⟩, 6), (⟨"Groutline", "isFirstOfItsPiece", "(II)Z"⟩, 7), (⟨"java/lang/Throwable", "fillInStackTrace", "(I)Ljava/lang/Throwable;"⟩, 6), (⟨"Groutline$Stack", "has", "(I)Z"⟩, 4), (⟨"Groutline$Stack", "remove", "(I)V"⟩, 4), (⟨"Groutline", "piecesOfStrip", "(I)I"⟩, 7)]
theorem lw_r1 : ∀ q ∈ lw_privs_1, lw_okq q := List.forall_mem_cons.mpr ⟨lw_p0, List.forall_mem_cons.mpr ⟨lw_p1, List.forall_mem_cons.mpr ⟨lw_p2, List.forall_mem_cons.mpr ⟨lw_p3, List.forall_mem_cons.mpr ⟨lw_p4, List.forall_mem_cons.mpr ⟨lw_p5, List.forall_mem_cons.mpr ⟨lw_p6, List.forall_mem_cons.mpr ⟨lw_p7, List.forall_mem_cons.mpr ⟨lw_p8, List.forall_mem_cons.mpr ⟨lw_p9, List.forall_mem_cons.mpr ⟨lw_p10, List.forall_mem_cons.mpr ⟨lw_p11, List.forall_mem_cons.mpr ⟨lw_p12, List.forall_mem_cons.mpr ⟨lw_p13, List.forall_mem_cons.mpr ⟨lw_p14, List.forall_mem_cons.mpr ⟨lw_p15, fun _ h => absurd h List.not_mem_nil⟩⟩⟩⟩⟩⟩⟩⟩⟩⟩⟩⟩⟩⟩⟩⟩
theorem lw_p16 : lw_okq (⟨"GroutlineModel", "unlay", "()V"⟩, 31) := ⟨⟨by decide +kernel, by decide +kernel⟩, List.mem_of_getElem? (i := 651) (by decide +kernel), List.mem_of_getElem? (i := 657) (by decide +kernel), List.mem_of_getElem? (i := 658) (by decide +kernel)⟩
theorem lw_p17 : lw_okq (⟨"GroutlineModel", "plans", "()V"⟩, 31) := ⟨⟨by decide +kernel, by decide +kernel⟩, List.mem_of_getElem? (i := 651) (by decide +kernel), List.mem_of_getElem? (i := 661) (by decide +kernel), List.mem_of_getElem? (i := 662) (by decide +kernel)⟩
theorem lw_p18 : lw_okq (⟨"GroutlineModel", "isBarred", "(I)Z"⟩, 31) := ⟨⟨by decide +kernel, by decide +kernel⟩, List.mem_of_getElem? (i := 651) (by decide +kernel), List.mem_of_getElem? (i := 665) (by decide +kernel), List.mem_of_getElem? (i := 666) (by decide +kernel)⟩
theorem lw_p19 : lw_okq (⟨"GroutlineModel", "isSame", "(II)Z"⟩, 31) := ⟨⟨by decide +kernel, by decide +kernel⟩, List.mem_of_getElem? (i := 651) (by decide +kernel), List.mem_of_getElem? (i := 669) (by decide +kernel), List.mem_of_getElem? (i := 670) (by decide +kernel)⟩
theorem lw_p20 : lw_okq (⟨"GroutlineModel", "isEdge", "(I)Z"⟩, 31) := ⟨⟨by decide +kernel, by decide +kernel⟩, List.mem_of_getElem? (i := 651) (by decide +kernel), List.mem_of_getElem? (i := 673) (by decide +kernel), List.mem_of_getElem? (i := 674) (by decide +kernel)⟩
theorem lw_p21 : lw_okq (⟨"GroutlineModel", "tileOf", "(I)I"⟩, 31) := ⟨⟨by decide +kernel, by decide +kernel⟩, List.mem_of_getElem? (i := 651) (by decide +kernel), List.mem_of_getElem? (i := 677) (by decide +kernel), List.mem_of_getElem? (i := 678) (by decide +kernel)⟩
theorem lw_p22 : lw_okq (⟨"GroutlineModel", "cuts", "()V"⟩, 31) := ⟨⟨by decide +kernel, by decide +kernel⟩, List.mem_of_getElem? (i := 651) (by decide +kernel), List.mem_of_getElem? (i := 681) (by decide +kernel), List.mem_of_getElem? (i := 682) (by decide +kernel)⟩
theorem lw_p23 : lw_okq (⟨"GroutlineModel", "bestRest", "(II)I"⟩, 31) := ⟨⟨by decide +kernel, by decide +kernel⟩, List.mem_of_getElem? (i := 651) (by decide +kernel), List.mem_of_getElem? (i := 685) (by decide +kernel), List.mem_of_getElem? (i := 686) (by decide +kernel)⟩
theorem lw_p24 : lw_okq (⟨"GroutlineModel", "takeOut", "(I)V"⟩, 31) := ⟨⟨by decide +kernel, by decide +kernel⟩, List.mem_of_getElem? (i := 651) (by decide +kernel), List.mem_of_getElem? (i := 689) (by decide +kernel), List.mem_of_getElem? (i := 690) (by decide +kernel)⟩
theorem lw_p25 : lw_okq (⟨"GroutlineModel", "in", "(III)Z"⟩, 31) := ⟨⟨by decide +kernel, by decide +kernel⟩, List.mem_of_getElem? (i := 651) (by decide +kernel), List.mem_of_getElem? (i := 795) (by decide +kernel), List.mem_of_getElem? (i := 796) (by decide +kernel)⟩
theorem lw_p26 : lw_okq (⟨"GroutlineModel", "holds", "(I)Z"⟩, 31) := ⟨⟨by decide +kernel, by decide +kernel⟩, List.mem_of_getElem? (i := 651) (by decide +kernel), List.mem_of_getElem? (i := 799) (by decide +kernel), List.mem_of_getElem? (i := 800) (by decide +kernel)⟩
theorem lw_p27 : lw_okq (⟨"GroutlineModel", "stripOfRow", "(I)I"⟩, 31) := ⟨⟨by decide +kernel, by decide +kernel⟩, List.mem_of_getElem? (i := 651) (by decide +kernel), List.mem_of_getElem? (i := 815) (by decide +kernel), List.mem_of_getElem? (i := 816) (by decide +kernel)⟩
theorem lw_p28 : lw_okq (⟨"GroutlineModel", "courses", "()I"⟩, 31) := ⟨⟨by decide +kernel, by decide +kernel⟩, List.mem_of_getElem? (i := 651) (by decide +kernel), List.mem_of_getElem? (i := 819) (by decide +kernel), List.mem_of_getElem? (i := 820) (by decide +kernel)⟩
theorem lw_p29 : lw_okq (⟨"GroutlineModel", "isStrip", "(I)Z"⟩, 31) := ⟨⟨by decide +kernel, by decide +kernel⟩, List.mem_of_getElem? (i := 651) (by decide +kernel), List.mem_of_getElem? (i := 859) (by decide +kernel), List.mem_of_getElem? (i := 860) (by decide +kernel)⟩
theorem lw_p30 : lw_okq (⟨"GroutlineModel", "stripCount", "()I"⟩, 31) := ⟨⟨by decide +kernel, by decide +kernel⟩, List.mem_of_getElem? (i := 651) (by decide +kernel), List.mem_of_getElem? (i := 863) (by decide +kernel), List.mem_of_getElem? (i := 864) (by decide +kernel)⟩
theorem lw_p31 : lw_okq (⟨"GroutlineModel", "isWet", "(I)Z"⟩, 31) := ⟨⟨by decide +kernel, by decide +kernel⟩, List.mem_of_getElem? (i := 651) (by decide +kernel), List.mem_of_getElem? (i := 867) (by decide +kernel), List.mem_of_getElem? (i := 868) (by decide +kernel)⟩
def lw_privs_2 : List (MethodName × Nat) := [(⟨"GroutlineModel", "unlay", "()V"⟩, 31), (⟨"GroutlineModel", "plans", "()V"⟩, 31), (⟨"GroutlineModel", "isBarred", "(I)Z"⟩, 31), (⟨"GroutlineModel", "isSame", "(II)Z"⟩, 31), (⟨"GroutlineModel", "isEdge", "(I)Z"⟩, 31), (⟨"GroutlineModel", "tileOf", "(I)I"⟩, 31), (⟨"GroutlineModel", "cuts", "()V"⟩, 31), (⟨"GroutlineModel", "bestRest", "(II)I"⟩, 31), (⟨"GroutlineModel", "takeOut", "(I)V"⟩, 31), (⟨"GroutlineModel", "in", "(III)Z"⟩, 31), (⟨"GroutlineModel", "holds", "(I)Z"⟩, 31), (⟨"GroutlineModel", "stripOfRow", "(I)I"⟩, 31), (⟨"GroutlineModel", "courses", "()I"⟩, 31), (⟨"GroutlineModel", "isStrip", "(I)Z"⟩, 31), (⟨"GroutlineModel", "stripCount", "()I"⟩, 31), (⟨"GroutlineModel", "isWet", "(I)Z"⟩, 31)]
theorem lw_r2 : ∀ q ∈ lw_privs_2, lw_okq q := List.forall_mem_cons.mpr ⟨lw_p16, List.forall_mem_cons.mpr ⟨lw_p17, List.forall_mem_cons.mpr ⟨lw_p18, List.forall_mem_cons.mpr ⟨lw_p19, List.forall_mem_cons.mpr ⟨lw_p20, List.forall_mem_cons.mpr ⟨lw_p21, List.forall_mem_cons.mpr ⟨lw_p22, List.forall_mem_cons.mpr ⟨lw_p23, List.forall_mem_cons.mpr ⟨lw_p24, List.forall_mem_cons.mpr ⟨lw_p25, List.forall_mem_cons.mpr ⟨lw_p26, List.forall_mem_cons.mpr ⟨lw_p27, List.forall_mem_cons.mpr ⟨lw_p28, List.forall_mem_cons.mpr ⟨lw_p29, List.forall_mem_cons.mpr ⟨lw_p30, List.forall_mem_cons.mpr ⟨lw_p31, fun _ h => absurd h List.not_mem_nil⟩⟩⟩⟩⟩⟩⟩⟩⟩⟩⟩⟩⟩⟩⟩⟩
theorem lw_p32 : lw_okq (⟨"GroutlineModel", "piecesOf", "(I)I"⟩, 31) := ⟨⟨by decide +kernel, by decide +kernel⟩, List.mem_of_getElem? (i := 651) (by decide +kernel), List.mem_of_getElem? (i := 871) (by decide +kernel), List.mem_of_getElem? (i := 872) (by decide +kernel)⟩
def lw_privs_3 : List (MethodName × Nat) := [(⟨"GroutlineModel", "piecesOf", "(I)I"⟩, 31)]
theorem lw_r3 : ∀ q ∈ lw_privs_3, lw_okq q := List.forall_mem_cons.mpr ⟨lw_p32, fun _ h => absurd h List.not_mem_nil⟩
def lw_privs : List (MethodName × Nat) := lw_privs_1 ++ (lw_privs_2 ++ (lw_privs_3))
def lw_tbl : List Cond := k2_sels lw_privs ++ tables_1
theorem lw_privs_ok : ∀ q ∈ lw_privs, lw_okq q := by
  show ∀ q ∈ lw_privs_1 ++ (lw_privs_2 ++ (lw_privs_3)), lw_okq q
  exact List.forall_mem_append.mpr ⟨lw_r1, List.forall_mem_append.mpr ⟨lw_r2, lw_r3⟩⟩
/-! ===== BEGIN words of one list among another's, by their places ===== -/
theorem goodIn_r {big : List Cond} (ws : List Cond) (ps : List Nat) (hp : ws = ps.filterMap (fun i => big[i]?)) (h : ws.all goodWord = true) : GoodIn big ws := by
  intro w hw
  have h1 := List.all_eq_true.mp h w hw
  rw [hp] at hw
  obtain ⟨i, -, hi⟩ := List.mem_filterMap.mp hw
  have hm : w ∈ big := by first | exact List.mem_of_getElem? hi | exact List.getElem?_mem hi
  exact ⟨hm, good_of_word h1⟩
theorem goodIn_app {big a b : List Cond} (ha : GoodIn big a) (hb : GoodIn big b) : GoodIn big (a ++ b) := fun w h => (List.mem_append.mp h).elim (ha w) (hb w)
theorem goodIn_ca {big a b : List Cond} {c : Cond} (ha : GoodIn big (c :: a)) (hb : GoodIn big b) : GoodIn big (c :: (a ++ b)) := fun w h => (List.mem_cons.mp h).elim (fun e => ha w (List.mem_cons.mpr (Or.inl e))) (fun h => (List.mem_append.mp h).elim (fun h => ha w (List.mem_cons.mpr (Or.inr h))) (hb w))
theorem goodIn_sub {big ws : List Cond} (hm : ∀ w ∈ ws, w ∈ big) (h : ws.all goodWord = true) : GoodIn big ws := fun w hw => ⟨hm w hw, good_of_word (List.all_eq_true.mp h w hw)⟩
/-! ===== END ===== -/

/-! ===== BEGIN exceptions that leave a method, and their catching by the caller (launches without stack traces) ===== -/
section VXA
/-! The laws vx_back, vx_callV, vx_callS, vx_callSW, vx_throw0, vx_throwS follow proofs of the library, with one case more: JvmDerived/Free/Laws.lean (Back.of_free), Shelf42/LK1.lean (callV, callS), Shelf/KitTraced.lean (throwNew0V, throwNewS). -/
/-- where a method has thrown q: the class by its name, the cell, what was written, the world -/
def vx_T (XC : String → State → State → Prop) (st : State) (q : Addr) (t : State) (mc ms : Nat) (free : Addr → Prop) : Prop :=
  ∃ (E : String) (ce : Cell) (L : List Loc), XC E st t ∧ t.heap[q]? = some ce ∧ ce.vm = .none ∧ st.vm.findClass E = some ce.cls ∧ st.WarmedH t.vm ∧ st.sameButNew ({ t with vm := st.vm } : State) L mc ms ∧ ∀ z ∈ L, free z.base
def vx_Q (Qc : Array Value → State → Outcome → State → Prop) (XC : String → State → State → Prop) (mc ms : Nat) (free : Addr → Prop) : Array Value → State → Outcome → State → Prop := fun a st o t =>
  (Qc a st o t ∧ ∃ L, FrameEnd st o t L mc ms ∧ ∀ q ∈ L, free q.base) ∨ ∃ q, o = .threw q ∧ vx_T XC st q t mc ms free
/-- a callee that returns or throws -/
def vx_Met (l : Launch) (y : MethodName) (ws : List Cond) (rm : Room) (Pc : Array Value → State → Prop) (Qc : Array Value → State → Outcome → State → Prop) (XC : String → State → State → Prop) (mc ms : Nat) (free : Addr → Prop) : Prop :=
  MetFree l y (headSpec ws rm) Pc (fun _ _ _ _ _ => True) (vx_Q Qc XC mc ms free)
def vx_Post (XC : String → State → State → Prop) (mc ms : Nat) (free : Addr → Prop) : Pt → Array Value → Addr → Pt → Prop := fun A a q B =>
  ∃ (g : JFrame) (mk : MethodId) (t : State) (L : List Loc) (E : String) (ce : Cell), B.U.heap = t.heap ∧ B.U.vm = t.vm ∧ XC E (A.U.calling g mk a) t ∧ t.heap[q]? = some ce ∧ ce.vm = .none ∧ A.U.vm.findClass E = some ce.cls ∧ B.locs = A.locs ++ L ∧ (∀ z ∈ L, free z.base) ∧ B.cells = A.cells + mc ∧ B.slots = A.slots + ms
def vx_Back (l : Launch) (R : Room) (p : Program) (e : Env) (below : List Frame) (s : State) (sargs : Array Value) (y : MethodName) (len W9 : Nat)
    (Pre : Pt → Array Value → Prop) (Post : Pt → Array Value → Option Value → Pt → Prop) (PostX : Pt → Array Value → Addr → Pt → Prop) : Prop :=
  ∀ (m : MethodId) (meth : Method) (c : Code) (A : Pt) (g : JFrame) (ig : Instr) (mk : MethodId) (a : Array Value),
    Stand p l e R s m sargs below meth c A.U A.locs A.cells A.slots → g.method = m → g.locals.size = c.maxLocals → decode c.code g.pc = .ok (ig, len) →
    2 * g.monitorRoom + (g.stack.map fun v => v.category).sum ≤ W9 → A.U.methodNamed? y = some mk → Pre A a →
    (∃ (v : Option Value) (B : Pt), Stand p l e R s m sargs below meth c B.U B.locs B.cells B.slots ∧ Post A a v B ∧
      Steps p.tables e below (doInvoke e (A.U.setTop g) [] mk a).1 (B.U.setTop { g with pc := g.pc + len, stack := v.toList ++ g.stack })) ∨
    (∃ (q : Addr) (B : Pt), Stand p l e R s m sargs below meth c B.U B.locs B.cells B.slots ∧ PostX A a q B ∧
      Steps p.tables e below (doInvoke e (A.U.setTop g) [] mk a).1 ((B.U.setTop g).pushFrame (.throwing q)))
section Payer
variable {l : Launch} {R : Room} {p : Program} {e : Env} {below : List Frame} {s : State} {sargs : Array Value} {y : MethodName} {len W9 : Nat}
theorem vx_back {ws : List Cond} {rm : Room} {Pc : Array Value → State → Prop} {Qc : Array Value → State → Outcome → State → Prop} {XC : String → State → State → Prop} {mc ms : Nat} {free : Addr → Prop} {bytes : ByteArray} {maxL : Nat} {ret : Option FieldType}
    (hM : vx_Met l y ws rm Pc Qc XC mc ms free) (hblind : FrameBlind Pc) (hrc : rm.cells = mc) (hrs : rm.slots = ms)
    (hframes : rm.frames + 1 ≤ R.frames) (hlocals : W9 + (maxL + 11) + rm.locals ≤ R.locals)
    (hws : ∀ w ∈ ws, ∀ a' U, s.WarmedH U.vm → w.before a' U = true) (hcode : Cond.code y bytes maxL ret ∈ ws) (hinit : ∀ a' U, s.WarmedH U.vm → (Cond.initialized y.cls).before a' U = true) :
    vx_Back l R p e below s sargs y len W9 (PreOf R mc ms Pc) (PostOf Qc mc ms free) (vx_Post XC mc ms free) := by
  intro m meth c A g ig mk a X hg hsize hdg hW hn hp
  have h1 : (headSpec ws rm).pre.before a A.U = true := atoms_intro fun w hw => hws w hw _ _ X.warmed
  have h2 : (Cond.code y bytes maxL ret).before a A.U = true := hws _ hcode _ _ X.warmed
  have h3 : (Cond.initialized y.cls).before a A.U = true := hinit _ _ X.warmed
  have h4 : A.cells + (headSpec ws rm).room.cells ≤ R.cells := by rw [show (headSpec ws rm).room.cells = mc from hrc]; exact hp.1
  have h5 : A.slots + (headSpec ws rm).room.slots ≤ R.slots := by rw [show (headSpec ws rm).room.slots = ms from hrs]; exact hp.2.1
  have hPc : Pc a (A.U.calling g mk a) := hblind _ _ _ _ hp.2.2
  obtain ⟨U, Ls, c0, s0⟩ := A
  dsimp only [Pt.U, Pt.locs, Pt.cells, Pt.slots] at h1 h2 h3 h4 h5 X hn hPc ⊢
  obtain ⟨methY, cY, hmY, hcY, -, hlY, -, -, -, -⟩ := Cond.code_spec hn h2
  obtain ⟨kY, hkY, -⟩ := className_of_methodNamed hn
  have hinitY : kY.init = .initialized := Cond.initialized_spec (findClass_of_methodNamed hn) hkY h3
  have h : At U g.method c below := by rw [hg]; exact X.here
  have hlocals9 : W9 + (maxL + 11) + (headSpec ws rm).room.locals ≤ R.locals := hlocals
  have happ : (headSpec ws rm).appliesLoose y e.platform (U.calling g mk a) = true :=
    Spec.appliesLoose_calling (g := g) h hdg hn hkY hinitY
      (X.room_calling (g := g) (R' := (headSpec ws rm).room) hsize hmY hcY hframes (by rw [hlY]; omega) h4 h5) h1
  obtain ⟨mid, hmid⟩ := h.above
  have hfr : (U.setTop g).frames = (.java g :: mid) ++ below := by rw [State.frames_setTop' g h.top, hmid]; rfl
  obtain ⟨o, s₂, hsteps, -, hend, hq⟩ := Steps.callFree hM p X.admits X.cas X.clock (acts := []) hfr happ hPc trivial
  have hq' : vx_Q Qc XC mc ms free a (U.calling g mk a) o s₂ := hq
  rw [State.frames_setTop' g h.top] at hend
  obtain ⟨g₀, hg0⟩ := Option.isSome_iff_exists.mp h.top
  obtain ⟨r, hr⟩ := State.topJava?_eq_some.mp hg0
  have hr' : (({ U with heap := s₂.heap, slotsUsed := s₂.slotsUsed } : State).setVm s₂.vm).frames = .java g₀ :: r := hr
  rcases hq' with ⟨hqc, L, hfe, hL⟩ | ⟨q, rfl, E, ce, L, hx, hce, hcv, hcl, hW₂, hsm, hL⟩
  · obtain ⟨⟨v, rfl⟩, hW₂, e2, q2, q3, q4, q5, q6⟩ := id hfe
    have e3 : s₂ = ({ (U.calling g mk a).setFrames s₂.frames with heap := s₂.heap, slotsUsed := s₂.slotsUsed } : State).setVm s₂.vm := by
      have : s₂ = ({ s₂ with vm := (U.calling g mk a).vm } : State).setVm s₂.vm := rfl
      rw [e2] at this
      exact this
    obtain ⟨c₂, i₂, len₂, hc₂, hd₂, hf₂⟩ := hend
    have hW' : U.WarmedH s₂.vm := hW₂
    have hcc : c₂ = c := by
      have h1 : s₂.code? g.method = U.code? g.method := by
        rw [State.code?_eq, State.code?_eq, hW'.alike.method?]
      exact Option.some.inj (hc₂.symm.trans (h1.trans h.code))
    subst hcc
    have hlen : len₂ = len := by rw [hdg] at hd₂; cases hd₂; rfl
    subst hlen
    have hs₂ : s₂ = (({ U with heap := s₂.heap, slotsUsed := s₂.slotsUsed } : State).setVm s₂.vm).setTop { g with pc := g.pc + len₂, stack := v.toList ++ g.stack } := by
      refine e3.trans ?_
      rw [hf₂, State.calling_eq h.top, State.setFrames_setFrames, State.setTop_of_frames _ hr', hr]
      rfl
    have hsame : U.sameButNew ({ U with heap := s₂.heap, slotsUsed := s₂.slotsUsed } : State) L mc ms := by
      refine ⟨?_, q2, q3, q4, q5, q6⟩
      obtain ⟨t, ht, -⟩ := State.frames_cons hr
      show ({ U with heap := s₂.heap, slotsUsed := s₂.slotsUsed } : State) = { U.setFrames U.frames with heap := s₂.heap, slotsUsed := s₂.slotsUsed }
      rw [State.setFrames_self ht]
    subst hg
    refine Or.inl ⟨v, ⟨(({ U with heap := s₂.heap, slotsUsed := s₂.slotsUsed } : State).setVm s₂.vm), Ls ++ L, c0 + mc, s0 + ms⟩,
      ⟨X.admits, X.cas, X.clock, X.frames, X.room, X.hears, X.method, X.code, (X.here.setHeapUsed s₂.heap s₂.slotsUsed).setVm hW'.alike, X.tail, State.WarmedH.trans X.warmed hW', X.limits, X.bytes, X.same.trans (hsame.setVm s.vm)⟩,
      ⟨g, mk, s₂, L, rfl, rfl, hqc, rfl, hL, rfl, rfl⟩, ?_⟩
    show Steps p.tables e below _ ((({ U with heap := s₂.heap, slotsUsed := s₂.slotsUsed } : State).setVm s₂.vm).setTop { g with pc := g.pc + len₂, stack := v.toList ++ g.stack })
    rw [← hs₂]
    exact hsteps
  · obtain ⟨e2, q2, q3, q4, q5, q6⟩ := id hsm
    have e3 : s₂ = ({ (U.calling g mk a).setFrames s₂.frames with heap := s₂.heap, slotsUsed := s₂.slotsUsed } : State).setVm s₂.vm := by
      have : s₂ = ({ s₂ with vm := (U.calling g mk a).vm } : State).setVm s₂.vm := rfl
      rw [e2] at this
      exact this
    have hf₂ : s₂.frames = .throwing q :: .java g :: U.frames.tail := hend
    have hW' : U.WarmedH s₂.vm := hW₂
    have hs₂ : s₂ = ((({ U with heap := s₂.heap, slotsUsed := s₂.slotsUsed } : State).setVm s₂.vm).setTop g).pushFrame (.throwing q) := by
      refine e3.trans ?_
      rw [hf₂, State.calling_eq h.top, State.setFrames_setFrames, State.pushFrame, State.frames_setTop _ hr', State.setTop_of_frames _ hr', State.setFrames_setFrames, hr]
      rfl
    have hsame : U.sameButNew ({ U with heap := s₂.heap, slotsUsed := s₂.slotsUsed } : State) L mc ms := by
      refine ⟨?_, q2, q3, q4, q5, q6⟩
      obtain ⟨t, ht, -⟩ := State.frames_cons hr
      show ({ U with heap := s₂.heap, slotsUsed := s₂.slotsUsed } : State) = { U.setFrames U.frames with heap := s₂.heap, slotsUsed := s₂.slotsUsed }
      rw [State.setFrames_self ht]
    subst hg
    refine Or.inr ⟨q, ⟨(({ U with heap := s₂.heap, slotsUsed := s₂.slotsUsed } : State).setVm s₂.vm), Ls ++ L, c0 + mc, s0 + ms⟩,
      ⟨X.admits, X.cas, X.clock, X.frames, X.room, X.hears, X.method, X.code, (X.here.setHeapUsed s₂.heap s₂.slotsUsed).setVm hW'.alike, X.tail, State.WarmedH.trans X.warmed hW', X.limits, X.bytes, X.same.trans (hsame.setVm s.vm)⟩,
      ⟨g, mk, s₂, L, E, ce, rfl, rfl, hx, hce, hcv, hcl, rfl, hL, rfl, rfl⟩, ?_⟩
    show Steps p.tables e below _ (((({ U with heap := s₂.heap, slotsUsed := s₂.slotsUsed } : State).setVm s₂.vm).setTop g).pushFrame (.throwing q))
    rw [← hs₂]
    exact hsteps
end Payer
section Calls
variable {p : Program} {l : Launch} {e : Env} {R : Room} {s : State} {m : MethodId} {args : Array Value} {below : List Frame} {meth : Method} {c : Code} {T : State} {locs : List Loc} {cells slots : Nat}
theorem vx_callV (X : Stand p l e R s m args below meth c T locs cells slots) (hexec : p.tables.exec = Jvm.exec) {own C : String} {index : Nat} {y : MethodName} {bytes : ByteArray} {maxL : Nat} {ret : Option FieldType}
    (hown : s.vm.findClass own = some m.cls) (hlink : (Cond.methodLink own index y).before args s = true) (hinst : (Cond.instanceMethod y).before args s = true) (hsel : (Cond.selects C y y).before args s = true)
    (hcode : (Cond.code y bytes maxL ret).before args s = true) (hy : y.cls ≠ "java/lang/invoke/MethodHandle" ∧ y.cls ≠ "java/lang/invoke/VarHandle")
    {W9 : Nat} {Pre : Pt → Array Value → Prop} {Post : Pt → Array Value → Option Value → Pt → Prop} {PostX : Pt → Array Value → Addr → Pt → Prop} (hK : vx_Back l R p e below s args y 3 W9 Pre Post PostX)
    {b : Addr} {cellB : Cell} (hcell : T.heap[b]? = some cellB) (hobj : cellB.vm.isStatics = false) (hcls : s.vm.findClass C = some cellB.cls)
    {g : JFrame} (hg : g.method = m) (hsize : g.locals.size = c.maxLocals) {argsL rest : List Value} (hlen : ∀ sig, parseMethodDescriptor y.desc = some sig → argsL.length = sig.parameters.length)
    (hstack : g.stack = argsL.reverse ++ .ref b :: rest) (hW : 2 * g.monitorRoom + (rest.map fun v => v.category).sum ≤ W9) (hdg : decode c.code g.pc = .ok (.invokevirtual index, 3))
    (hpre : ∀ vm₁, s.WarmedH vm₁ → Pre ⟨T.setVm vm₁, locs, cells, slots⟩ (Value.ref b :: argsL).toArray) :
    (∃ (v : Option Value) (vm₁ : Vm) (B : Pt), s.WarmedH vm₁ ∧ Stand p l e R s m args below meth c B.U B.locs B.cells B.slots ∧ Post ⟨T.setVm vm₁, locs, cells, slots⟩ (Value.ref b :: argsL).toArray v B ∧
      ∀ target, Steps p.tables e below (B.U.setTop { g with pc := g.pc + 3, stack := v.toList ++ rest }) target → Steps p.tables e below (T.setTop g) target) ∨
    (∃ (q : Addr) (vm₁ : Vm) (B : Pt), s.WarmedH vm₁ ∧ Stand p l e R s m args below meth c B.U B.locs B.cells B.slots ∧ PostX ⟨T.setVm vm₁, locs, cells, slots⟩ (Value.ref b :: argsL).toArray q B ∧
      Steps p.tables e below (T.setTop g) ((B.U.setTop { g with stack := rest }).pushFrame (.throwing q))) := by
  obtain ⟨mk, methM, hnamed, hmethM, hstM, habM⟩ := Cond.instanceMethod_spec hinst
  obtain ⟨methM', cM, hmethM', -, -, -, -, -, -, hsigM⟩ := Cond.code_spec hnamed hcode
  cases hmethM.symm.trans hmethM'
  obtain ⟨c2, r2, m2, q1, q2, q3, q4, kP, hkP, hkPi⟩ := Cond.selects_spec hsel
  cases hcls.symm.trans q1
  cases (State.methodFound?_of_named hnamed hy).symm.trans q2
  cases hnamed.symm.trans q3
  have hselP : selectMethod e.platform s.vm cellB.cls mk = .method mk := by rw [Launch.admits_selectMethod X.admits]; exact q4
  obtain ⟨vm₁, X₁, hstep₁⟩ := X.invokevirtual hexec hown hlink hnamed hmethM hstM hkP hkPi hy (a := b) (cell := cellB) hcell
    (fun z h => by rw [h] at hobj; cases hobj) hselP hmethM habM hkP hkPi (g := g) hg (argsL := argsL) (rest := rest) (hlen _ hsigM) hstack hdg
  rcases hK m meth c ⟨T.setVm vm₁, locs, cells, slots⟩ { g with stack := rest } (.invokevirtual index) mk (Value.ref b :: argsL).toArray X₁ hg hsize hdg hW (X₁.named hnamed) (hpre vm₁ X₁.warmed) with ⟨v, B, X', hpost, hsteps⟩ | ⟨q, B, X', hpost, hsteps⟩
  · exact Or.inl ⟨v, vm₁, B, X₁.warmed, X', hpost, fun target h => hstep₁ _ fun acts => by rw [doInvoke_state]; exact hsteps.trans h⟩
  · exact Or.inr ⟨q, vm₁, B, X₁.warmed, X', hpost, hstep₁ _ fun acts => by rw [doInvoke_state]; exact hsteps⟩
theorem vx_callS (X : Stand p l e R s m args below meth c T locs cells slots) (hexec : p.tables.exec = Jvm.exec) {own : String} {index : Nat} {y : MethodName} {bytes : ByteArray} {maxL : Nat} {ret : Option FieldType}
    (hown : s.vm.findClass own = some m.cls) (hlink : (Cond.methodLink own index y).before args s = true) (hstat : (Cond.static y).before args s = true) (hinit : (Cond.initialized y.cls).before args s = true)
    (hcode : (Cond.code y bytes maxL ret).before args s = true) (hy : y.cls ≠ "java/lang/invoke/MethodHandle" ∧ y.cls ≠ "java/lang/invoke/VarHandle")
    {W9 : Nat} {Pre : Pt → Array Value → Prop} {Post : Pt → Array Value → Option Value → Pt → Prop} {PostX : Pt → Array Value → Addr → Pt → Prop} (hK : vx_Back l R p e below s args y 3 W9 Pre Post PostX)
    {g : JFrame} (hg : g.method = m) (hsize : g.locals.size = c.maxLocals) {argsL rest : List Value} (hlen : ∀ sig, parseMethodDescriptor y.desc = some sig → argsL.length = sig.parameters.length)
    (hstack : g.stack = argsL.reverse ++ rest) (hW : 2 * g.monitorRoom + (rest.map fun v => v.category).sum ≤ W9) (hdg : decode c.code g.pc = .ok (.invokestatic index, 3))
    (hpre : ∀ vm₁, s.WarmedH vm₁ → Pre ⟨T.setVm vm₁, locs, cells, slots⟩ argsL.toArray) :
    (∃ (v : Option Value) (vm₁ : Vm) (B : Pt), s.WarmedH vm₁ ∧ Stand p l e R s m args below meth c B.U B.locs B.cells B.slots ∧ Post ⟨T.setVm vm₁, locs, cells, slots⟩ argsL.toArray v B ∧
      ∀ target, Steps p.tables e below (B.U.setTop { g with pc := g.pc + 3, stack := v.toList ++ rest }) target → Steps p.tables e below (T.setTop g) target) ∨
    (∃ (q : Addr) (vm₁ : Vm) (B : Pt), s.WarmedH vm₁ ∧ Stand p l e R s m args below meth c B.U B.locs B.cells B.slots ∧ PostX ⟨T.setVm vm₁, locs, cells, slots⟩ argsL.toArray q B ∧
      Steps p.tables e below (T.setTop g) ((B.U.setTop { g with stack := rest }).pushFrame (.throwing q))) := by
  obtain ⟨mk, hnamed⟩ := Cond.code_named hcode
  obtain ⟨methM, cM, hmethM, -, -, -, -, -, -, hsigM⟩ := Cond.code_spec hnamed hcode
  have hstatic : methM.isStatic = true := Cond.static_spec hnamed hmethM hstat
  obtain ⟨kP, hkP, -⟩ := className_of_methodNamed hnamed
  have hinitP : kP.init = .initialized := Cond.initialized_spec (findClass_of_methodNamed hnamed) hkP hinit
  obtain ⟨vm₁, X₁, hstep₁⟩ := X.invokestatic hexec hown hlink hnamed hmethM hstatic hkP hinitP hy (g := g) hg (argsL := argsL) (rest := rest) (hlen _ hsigM) hstack hdg
  rcases hK m meth c ⟨T.setVm vm₁, locs, cells, slots⟩ { g with stack := rest } (.invokestatic index) mk argsL.toArray X₁ hg hsize hdg hW (X₁.named hnamed) (hpre vm₁ X₁.warmed) with ⟨v, B, X', hpost, hsteps⟩ | ⟨q, B, X', hpost, hsteps⟩
  · exact Or.inl ⟨v, vm₁, B, X₁.warmed, X', hpost, fun target h => hstep₁ _ fun acts => by rw [doInvoke_state]; exact hsteps.trans h⟩
  · exact Or.inr ⟨q, vm₁, B, X₁.warmed, X', hpost, hstep₁ _ fun acts => by rw [doInvoke_state]; exact hsteps⟩
end Calls
theorem vx_cls {s : State} {T : State} {vm₁ : Vm} {E : String} {k : ClassId} (hW : s.WarmedH vm₁) (h : (T.setVm vm₁).vm.findClass E = some k) : s.vm.findClass E = some k := by
  have h1 : vm₁.findClass E = some k := h
  rw [hW.alike.findClass] at h1
  exact h1
/-- the method's frame g, with q thrown over it -/
def vx_W (p : Program) (l : Launch) (e : Env) (R : Room) (s : State) (m : MethodId) (args : Array Value) (below : List Frame) (meth : Method) (c : Code) (H : Heap) (locs : List Loc) (cells slots : Nat) (Q : State → Prop) (g : JFrame) (q : Addr) : Prop :=
  ∀ T : State, T.heap = H → Stand p l e R s m args below meth c T locs cells slots → ∃ t, Steps p.tables e below ((T.setTop g).pushFrame (.throwing q)) t ∧ Q t
def vx_Run (p : Program) (l : Launch) (e : Env) (R : Room) (s : State) (m : MethodId) (args : Array Value) (below : List Frame) (meth : Method) (c : Code) (H : Heap) (locs : List Loc) (cells slots mc ms : Nat) (g : JFrame) (rest : List Value) (Qa : State → Outcome → State → Prop) (XC : String → State → State → Prop) (free : Addr → Prop) : Prop :=
  ∀ T : State, T.heap = H → Stand p l e R s m args below meth c T locs cells slots →
    (∃ (v : Option Value) (st₀ t T' : State) (L : List Loc), st₀.heap = H ∧ Stand p l e R s m args below meth c T' (locs ++ L) (cells + mc) (slots + ms) ∧ (∀ q ∈ L, free q.base) ∧ T'.heap = t.heap ∧ T'.vm = t.vm ∧ Qa st₀ (.returned v) t ∧
      Goes p e below T g T' { g with pc := g.pc + 3, stack := v.toList ++ rest }) ∨
    (∃ (q : Addr) (st₀ t T' : State) (L : List Loc) (E : String) (ce : Cell), st₀.heap = H ∧ Stand p l e R s m args below meth c T' (locs ++ L) (cells + mc) (slots + ms) ∧ (∀ z ∈ L, free z.base) ∧ T'.heap = t.heap ∧ T'.vm = t.vm ∧ XC E st₀ t ∧ t.heap[q]? = some ce ∧ ce.vm = .none ∧ s.vm.findClass E = some ce.cls ∧
      Steps p.tables e below (T.setTop g) ((T'.setTop { g with stack := rest }).pushFrame (.throwing q)))
def vx_X {S : Type} (px : S → Prop) (B : String → S → State → Prop) (A : Nat → Prop) : String → State → State → Prop := fun E st t => ∃ u : S, px u ∧ B E u t ∧ va_F A st t
section Runs
variable {p : Program} {l : Launch} {e : Env} {R : Room} {s : State} {m : MethodId} {args : Array Value} {below : List Frame} {meth : Method} {c : Code} {H : Heap} {locs : List Loc} {cells slots : Nat}
variable {y : MethodName} {bytes cc : ByteArray} {maxL nL mc ms n index : Nat} {ret : Option FieldType} {ws : List Cond} {rm : Room} {Pc : Array Value → State → Prop} {Qc : Array Value → State → Outcome → State → Prop} {XC : String → State → State → Prop} {free : Addr → Prop} {Ts : List Cond} {own C : String} {b : Addr} {As rest : List Value} {g : JFrame}
theorem vx_callBack (cb : CallB R s args own index y bytes maxL ret ws rm mc ms n) (hM : vx_Met l y ws rm Pc Qc XC mc ms free) (hbl : FrameBlind Pc) : vx_Back l R p e below s args y 3 8 (PreOf R mc ms Pc) (PostOf Qc mc ms free) (vx_Post XC mc ms free) := by
  obtain ⟨hrc, hrs, hfr, hlo, hws, hcw, -, hini, -⟩ := cb
  exact vx_back (bytes := bytes) (maxL := maxL) (ret := ret) hM hbl hrc hrs hfr hlo hws hcw (fun a' U hW => word_at hW (Or.inl (by first | rfl | simp [Cond.onTables, Cond.keeps, Cond.steady])) hini)
theorem vx_runV (S : CallFix p m c cc nL s args Ts own) (hM : vx_Met l y ws rm Pc Qc XC mc ms free) (cw : CallW R s args own C index y bytes maxL ret ws rm mc ms n) (hp : PreV s H C b Pc As)
    (hg : g.method = m) (hn : As.length = n) (hsize : g.locals.size = nL) (hstack : g.stack = As.reverse ++ .ref b :: rest) (hW : 2 * g.monitorRoom + (rest.map fun v => v.category).sum ≤ 8) (hdg : decode cc g.pc = .ok (.invokevirtual index, 3)) (hf : cells + mc ≤ R.cells ∧ slots + ms ≤ R.slots) :
    vx_Run p l e R s m args below meth c H locs cells slots mc ms g rest (Qc (Value.ref b :: As).toArray) XC free := by
  have hK : vx_Back l R p e below s args y 3 8 (PreOf R mc ms Pc) (PostOf Qc mc ms free) (vx_Post XC mc ms free) := vx_callBack cw.1 hM hp.1
  obtain ⟨⟨-, -, -, -, -, -, hcode, -, hy, hlen, hl⟩, hin, hse⟩ := cw
  obtain ⟨hx, hb, hml, ho, -⟩ := S
  obtain ⟨-, ⟨cellB, hcB, hoB, hclB⟩, hPc⟩ := hp
  intro T hT X
  rcases vx_callV X hx (C := C) (bytes := bytes) (maxL := maxL) (ret := ret) ho hl hin hse hcode hy hK (by rw [hT]; exact hcB) hoB hclB hg (hsize.trans hml.symm) (argsL := As) (rest := rest) (fun sig h => hn.trans (hlen sig h)) hstack hW (by rw [hb]; exact hdg)
    (fun vm₁ hW₁ => ⟨hf.1, hf.2, hPc (T.setVm vm₁) hT hW₁⟩) with ⟨v, vm₁, ⟨U', l2, c2, s2⟩, hW₁, X', ⟨g', mk, t, L, e1, e2, hq, h1, hL, h2, h3⟩, st⟩ | ⟨q, vm₁, ⟨U', l2, c2, s2⟩, hW₁, X', ⟨g', mk, t, L, E, ce, e1, e2, hq, hce, hcv, hcl, h1, hL, h2, h3⟩, st⟩
  · dsimp only [Pt.U, Pt.locs, Pt.cells, Pt.slots] at X' e1 e2 h1 h2 h3 st
    subst h1; subst h2; subst h3
    exact Or.inl ⟨v, (T.setVm vm₁).calling g' mk (Value.ref b :: As).toArray, t, U', L, hT, X', hL, e1, e2, hq, st⟩
  · dsimp only [Pt.U, Pt.locs, Pt.cells, Pt.slots] at X' e1 e2 h1 h2 h3 st hcl
    subst h1; subst h2; subst h3
    exact Or.inr ⟨q, (T.setVm vm₁).calling g' mk (Value.ref b :: As).toArray, t, U', L, E, ce, hT, X', hL, e1, e2, hq, hce, hcv, vx_cls hW₁ hcl, st⟩
theorem vx_runS (S : CallFix p m c cc nL s args Ts own) (hM : vx_Met l y ws rm Pc Qc XC mc ms free) (cw : CallB R s args own index y bytes maxL ret ws rm mc ms n ∧ (Cond.static y).before args s = true) (hp : PreS s H Pc As)
    (hg : g.method = m) (hn : As.length = n) (hsize : g.locals.size = nL) (hstack : g.stack = As.reverse ++ rest) (hW : 2 * g.monitorRoom + (rest.map fun v => v.category).sum ≤ 8) (hdg : decode cc g.pc = .ok (.invokestatic index, 3)) (hf : cells + mc ≤ R.cells ∧ slots + ms ≤ R.slots) :
    vx_Run p l e R s m args below meth c H locs cells slots mc ms g rest (Qc As.toArray) XC free := by
  have hK : vx_Back l R p e below s args y 3 8 (PreOf R mc ms Pc) (PostOf Qc mc ms free) (vx_Post XC mc ms free) := vx_callBack cw.1 hM hp.1
  obtain ⟨⟨-, -, -, -, -, -, hcode, hini, hy, hlen, hl⟩, hstt⟩ := cw
  obtain ⟨hx, hb, hml, ho, -⟩ := S
  intro T hT X
  rcases vx_callS X hx (bytes := bytes) (maxL := maxL) (ret := ret) ho hl hstt hini hcode hy hK hg (hsize.trans hml.symm) (argsL := As) (rest := rest) (fun sig h => hn.trans (hlen sig h)) hstack hW (by rw [hb]; exact hdg)
    (fun vm₁ hW₁ => ⟨hf.1, hf.2, hp.2 (T.setVm vm₁) hT hW₁⟩) with ⟨v, vm₁, ⟨U', l2, c2, s2⟩, hW₁, X', ⟨g', mk, t, L, e1, e2, hq, h1, hL, h2, h3⟩, st⟩ | ⟨q, vm₁, ⟨U', l2, c2, s2⟩, hW₁, X', ⟨g', mk, t, L, E, ce, e1, e2, hq, hce, hcv, hcl, h1, hL, h2, h3⟩, st⟩
  · dsimp only [Pt.U, Pt.locs, Pt.cells, Pt.slots] at X' e1 e2 h1 h2 h3 st
    subst h1; subst h2; subst h3
    exact Or.inl ⟨v, (T.setVm vm₁).calling g' mk As.toArray, t, U', L, hT, X', hL, e1, e2, hq, st⟩
  · dsimp only [Pt.U, Pt.locs, Pt.cells, Pt.slots] at X' e1 e2 h1 h2 h3 st hcl
    subst h1; subst h2; subst h3
    exact Or.inr ⟨q, (T.setVm vm₁).calling g' mk As.toArray, t, U', L, E, ce, hT, X', hL, e1, e2, hq, hce, hcv, vx_cls hW₁ hcl, st⟩
end Runs
section Rows
variable {p : Program} {l : Launch} {e : Env} {R : Room} {s : State} {m : MethodId} {args : Array Value} {below : List Frame} {meth : Method} {c : Code} {H : Heap} {locs : List Loc} {cells slots : Nat} {Q : State → Prop}
variable {mc ms : Nat} {free : Addr → Prop} {A0 A1 : Nat → Prop} {H0 : Heap} {a : Array Value} {pc : Nat} {ls : Array Slot} {st0 rest : List Value}
theorem vx_keep {st₀ t T' : State} {L : List Loc} (h0 : st₀.heap = H) (e1 : T'.heap = t.heap) (hS : va_S A0 H0 H locs) (hA : ∀ q, q < H.size → A1 q → A0 q) (hf : ∀ q, free q → A0 q) (hL : ∀ q ∈ L, free q.base) (hF : va_F A1 st₀ t) :
    H.size ≤ T'.heap.size ∧ (∀ q : Nat, q < H.size → ¬ A1 q → T'.heap[q]? = H[q]?) ∧ va_S A0 H0 T'.heap (locs ++ L) := by
  obtain ⟨hz, hk⟩ := hF
  rw [h0] at hz hk
  exact ⟨by rw [e1]; exact hz, fun q h1 h2 => by rw [e1]; exact hk q h1 h2,
    ⟨Nat.le_trans hS.1 (by rw [e1]; exact hz), fun q h1 h2 => by rw [e1, hk q (Nat.lt_of_lt_of_le h1 hS.1) (fun z => h2 (hA q (Nat.lt_of_lt_of_le h1 hS.1) z))]; exact hS.2.1 q h1 h2, fun q hq => by
      rcases List.mem_append.mp hq with h | h
      · exact hS.2.2 q h
      · exact hf _ (hL q h)⟩⟩
theorem vx_calli {S SX : Type} {post : Int32 → S → Prop} {px : SX → Prop} {B : S → State → Prop} {BX : String → SX → State → Prop} {AX : Nat → Prop} (hr : vx_Run p l e R s m args below meth c H locs cells slots mc ms (F0 m pc ls st0) rest (va_Qi post B A1 a) (vx_X px BX AX) free) (hS : va_S A0 H0 H locs) (hA : ∀ q, q < H.size → A1 q → A0 q) (hf : ∀ q, free q → A0 q) (hAX : ∀ q, q < H.size → AX q → A0 q)
    (kx : ∀ (E : String) (ce : Cell) (q9 : Addr) (u : SX) (t : State) (H1 : Heap) (locs1 : List Loc), t.heap = H1 → s.vm.Alike t.vm → px u → BX E u t → H.size ≤ H1.size → (∀ q : Nat, q < H.size → ¬ AX q → H1[q]? = H[q]?) → va_S A0 H0 H1 locs1 → H1[q9]? = some ce → ce.vm = .none → s.vm.findClass E = some ce.cls → vx_W p l e R s m args below meth c H1 locs1 (cells + mc) (slots + ms) Q (F0 m pc ls rest) q9)
    (kk : ∀ (r : Int32) (u : S) (t : State) (H1 : Heap) (locs1 : List Loc), t.heap = H1 → s.vm.Alike t.vm → post r u → B u t → H.size ≤ H1.size → (∀ q : Nat, q < H.size → ¬ A1 q → H1[q]? = H[q]?) → va_S A0 H0 H1 locs1 → W p l e R s m args below meth c H1 locs1 (cells + mc) (slots + ms) Q (F0 m (pc + 3) ls (.int r :: rest))) : W p l e R s m args below meth c H locs cells slots Q (F0 m pc ls st0) := by
  intro T hT X
  rcases hr T hT X with ⟨v, st₀, t, T', L, h0, X', hL, e1, e2, ⟨⟨r, u, hv, hp, hb⟩, hF⟩, st⟩ | ⟨q, st₀, t, T', L, E, ce, h0, X', hL, e1, e2, ⟨u, hp, hb, hF⟩, hce, hcv, hcl, st⟩
  · cases hv
    obtain ⟨k1, k2, k3⟩ := vx_keep h0 e1 hS hA hf hL hF
    obtain ⟨t2, a1, b1⟩ := kk r u t T'.heap (locs ++ L) e1.symm (by rw [← e2]; exact X'.warmed.alike) hp hb k1 k2 k3 T' rfl X'
    exact ⟨t2, st t2 a1, b1⟩
  · obtain ⟨k1, k2, k3⟩ := vx_keep h0 e1 hS hAX hf hL hF
    obtain ⟨t2, a1, b1⟩ := kx E ce q u t T'.heap (locs ++ L) e1.symm (by rw [← e2]; exact X'.warmed.alike) hp hb k1 k2 k3 (by rw [e1]; exact hce) hcv hcl T' rfl X'
    exact ⟨t2, st.trans a1, b1⟩
theorem vx_calll {S SX : Type} {post : Int64 → S → Prop} {px : SX → Prop} {B : S → State → Prop} {BX : String → SX → State → Prop} {AX : Nat → Prop} (hr : vx_Run p l e R s m args below meth c H locs cells slots mc ms (F0 m pc ls st0) rest (va_Ql post B A1 a) (vx_X px BX AX) free) (hS : va_S A0 H0 H locs) (hA : ∀ q, q < H.size → A1 q → A0 q) (hf : ∀ q, free q → A0 q) (hAX : ∀ q, q < H.size → AX q → A0 q)
    (kx : ∀ (E : String) (ce : Cell) (q9 : Addr) (u : SX) (t : State) (H1 : Heap) (locs1 : List Loc), t.heap = H1 → s.vm.Alike t.vm → px u → BX E u t → H.size ≤ H1.size → (∀ q : Nat, q < H.size → ¬ AX q → H1[q]? = H[q]?) → va_S A0 H0 H1 locs1 → H1[q9]? = some ce → ce.vm = .none → s.vm.findClass E = some ce.cls → vx_W p l e R s m args below meth c H1 locs1 (cells + mc) (slots + ms) Q (F0 m pc ls rest) q9)
    (kk : ∀ (r : Int64) (u : S) (t : State) (H1 : Heap) (locs1 : List Loc), t.heap = H1 → s.vm.Alike t.vm → post r u → B u t → H.size ≤ H1.size → (∀ q : Nat, q < H.size → ¬ A1 q → H1[q]? = H[q]?) → va_S A0 H0 H1 locs1 → W p l e R s m args below meth c H1 locs1 (cells + mc) (slots + ms) Q (F0 m (pc + 3) ls (.long r :: rest))) : W p l e R s m args below meth c H locs cells slots Q (F0 m pc ls st0) := by
  intro T hT X
  rcases hr T hT X with ⟨v, st₀, t, T', L, h0, X', hL, e1, e2, ⟨⟨r, u, hv, hp, hb⟩, hF⟩, st⟩ | ⟨q, st₀, t, T', L, E, ce, h0, X', hL, e1, e2, ⟨u, hp, hb, hF⟩, hce, hcv, hcl, st⟩
  · cases hv
    obtain ⟨k1, k2, k3⟩ := vx_keep h0 e1 hS hA hf hL hF
    obtain ⟨t2, a1, b1⟩ := kk r u t T'.heap (locs ++ L) e1.symm (by rw [← e2]; exact X'.warmed.alike) hp hb k1 k2 k3 T' rfl X'
    exact ⟨t2, st t2 a1, b1⟩
  · obtain ⟨k1, k2, k3⟩ := vx_keep h0 e1 hS hAX hf hL hF
    obtain ⟨t2, a1, b1⟩ := kx E ce q u t T'.heap (locs ++ L) e1.symm (by rw [← e2]; exact X'.warmed.alike) hp hb k1 k2 k3 (by rw [e1]; exact hce) hcv hcl T' rfl X'
    exact ⟨t2, st.trans a1, b1⟩
theorem vx_callf {S SX : Type} {post : UInt32 → S → Prop} {px : SX → Prop} {B : S → State → Prop} {BX : String → SX → State → Prop} {AX : Nat → Prop} (hr : vx_Run p l e R s m args below meth c H locs cells slots mc ms (F0 m pc ls st0) rest (va_Qf post B A1 a) (vx_X px BX AX) free) (hS : va_S A0 H0 H locs) (hA : ∀ q, q < H.size → A1 q → A0 q) (hf : ∀ q, free q → A0 q) (hAX : ∀ q, q < H.size → AX q → A0 q)
    (kx : ∀ (E : String) (ce : Cell) (q9 : Addr) (u : SX) (t : State) (H1 : Heap) (locs1 : List Loc), t.heap = H1 → s.vm.Alike t.vm → px u → BX E u t → H.size ≤ H1.size → (∀ q : Nat, q < H.size → ¬ AX q → H1[q]? = H[q]?) → va_S A0 H0 H1 locs1 → H1[q9]? = some ce → ce.vm = .none → s.vm.findClass E = some ce.cls → vx_W p l e R s m args below meth c H1 locs1 (cells + mc) (slots + ms) Q (F0 m pc ls rest) q9)
    (kk : ∀ (r : UInt32) (u : S) (t : State) (H1 : Heap) (locs1 : List Loc), t.heap = H1 → s.vm.Alike t.vm → post r u → B u t → H.size ≤ H1.size → (∀ q : Nat, q < H.size → ¬ A1 q → H1[q]? = H[q]?) → va_S A0 H0 H1 locs1 → W p l e R s m args below meth c H1 locs1 (cells + mc) (slots + ms) Q (F0 m (pc + 3) ls (.float r :: rest))) : W p l e R s m args below meth c H locs cells slots Q (F0 m pc ls st0) := by
  intro T hT X
  rcases hr T hT X with ⟨v, st₀, t, T', L, h0, X', hL, e1, e2, ⟨⟨r, u, hv, hp, hb⟩, hF⟩, st⟩ | ⟨q, st₀, t, T', L, E, ce, h0, X', hL, e1, e2, ⟨u, hp, hb, hF⟩, hce, hcv, hcl, st⟩
  · cases hv
    obtain ⟨k1, k2, k3⟩ := vx_keep h0 e1 hS hA hf hL hF
    obtain ⟨t2, a1, b1⟩ := kk r u t T'.heap (locs ++ L) e1.symm (by rw [← e2]; exact X'.warmed.alike) hp hb k1 k2 k3 T' rfl X'
    exact ⟨t2, st t2 a1, b1⟩
  · obtain ⟨k1, k2, k3⟩ := vx_keep h0 e1 hS hAX hf hL hF
    obtain ⟨t2, a1, b1⟩ := kx E ce q u t T'.heap (locs ++ L) e1.symm (by rw [← e2]; exact X'.warmed.alike) hp hb k1 k2 k3 (by rw [e1]; exact hce) hcv hcl T' rfl X'
    exact ⟨t2, st.trans a1, b1⟩
theorem vx_calld {S SX : Type} {post : UInt64 → S → Prop} {px : SX → Prop} {B : S → State → Prop} {BX : String → SX → State → Prop} {AX : Nat → Prop} (hr : vx_Run p l e R s m args below meth c H locs cells slots mc ms (F0 m pc ls st0) rest (va_Qd post B A1 a) (vx_X px BX AX) free) (hS : va_S A0 H0 H locs) (hA : ∀ q, q < H.size → A1 q → A0 q) (hf : ∀ q, free q → A0 q) (hAX : ∀ q, q < H.size → AX q → A0 q)
    (kx : ∀ (E : String) (ce : Cell) (q9 : Addr) (u : SX) (t : State) (H1 : Heap) (locs1 : List Loc), t.heap = H1 → s.vm.Alike t.vm → px u → BX E u t → H.size ≤ H1.size → (∀ q : Nat, q < H.size → ¬ AX q → H1[q]? = H[q]?) → va_S A0 H0 H1 locs1 → H1[q9]? = some ce → ce.vm = .none → s.vm.findClass E = some ce.cls → vx_W p l e R s m args below meth c H1 locs1 (cells + mc) (slots + ms) Q (F0 m pc ls rest) q9)
    (kk : ∀ (r : UInt64) (u : S) (t : State) (H1 : Heap) (locs1 : List Loc), t.heap = H1 → s.vm.Alike t.vm → post r u → B u t → H.size ≤ H1.size → (∀ q : Nat, q < H.size → ¬ A1 q → H1[q]? = H[q]?) → va_S A0 H0 H1 locs1 → W p l e R s m args below meth c H1 locs1 (cells + mc) (slots + ms) Q (F0 m (pc + 3) ls (.double r :: rest))) : W p l e R s m args below meth c H locs cells slots Q (F0 m pc ls st0) := by
  intro T hT X
  rcases hr T hT X with ⟨v, st₀, t, T', L, h0, X', hL, e1, e2, ⟨⟨r, u, hv, hp, hb⟩, hF⟩, st⟩ | ⟨q, st₀, t, T', L, E, ce, h0, X', hL, e1, e2, ⟨u, hp, hb, hF⟩, hce, hcv, hcl, st⟩
  · cases hv
    obtain ⟨k1, k2, k3⟩ := vx_keep h0 e1 hS hA hf hL hF
    obtain ⟨t2, a1, b1⟩ := kk r u t T'.heap (locs ++ L) e1.symm (by rw [← e2]; exact X'.warmed.alike) hp hb k1 k2 k3 T' rfl X'
    exact ⟨t2, st t2 a1, b1⟩
  · obtain ⟨k1, k2, k3⟩ := vx_keep h0 e1 hS hAX hf hL hF
    obtain ⟨t2, a1, b1⟩ := kx E ce q u t T'.heap (locs ++ L) e1.symm (by rw [← e2]; exact X'.warmed.alike) hp hb k1 k2 k3 (by rw [e1]; exact hce) hcv hcl T' rfl X'
    exact ⟨t2, st.trans a1, b1⟩
theorem vx_callv {S SX : Type} {post : S → Prop} {px : SX → Prop} {B : S → State → Prop} {BX : String → SX → State → Prop} {AX : Nat → Prop} (hr : vx_Run p l e R s m args below meth c H locs cells slots mc ms (F0 m pc ls st0) rest (va_Qv post B A1 a) (vx_X px BX AX) free) (hS : va_S A0 H0 H locs) (hA : ∀ q, q < H.size → A1 q → A0 q) (hf : ∀ q, free q → A0 q) (hAX : ∀ q, q < H.size → AX q → A0 q)
    (kx : ∀ (E : String) (ce : Cell) (q9 : Addr) (u : SX) (t : State) (H1 : Heap) (locs1 : List Loc), t.heap = H1 → s.vm.Alike t.vm → px u → BX E u t → H.size ≤ H1.size → (∀ q : Nat, q < H.size → ¬ AX q → H1[q]? = H[q]?) → va_S A0 H0 H1 locs1 → H1[q9]? = some ce → ce.vm = .none → s.vm.findClass E = some ce.cls → vx_W p l e R s m args below meth c H1 locs1 (cells + mc) (slots + ms) Q (F0 m pc ls rest) q9)
    (kk : ∀ (u : S) (t : State) (H1 : Heap) (locs1 : List Loc), t.heap = H1 → s.vm.Alike t.vm → post u → B u t → H.size ≤ H1.size → (∀ q : Nat, q < H.size → ¬ A1 q → H1[q]? = H[q]?) → va_S A0 H0 H1 locs1 → W p l e R s m args below meth c H1 locs1 (cells + mc) (slots + ms) Q (F0 m (pc + 3) ls (rest))) : W p l e R s m args below meth c H locs cells slots Q (F0 m pc ls st0) := by
  intro T hT X
  rcases hr T hT X with ⟨v, st₀, t, T', L, h0, X', hL, e1, e2, ⟨⟨u, hv, hp, hb⟩, hF⟩, st⟩ | ⟨q, st₀, t, T', L, E, ce, h0, X', hL, e1, e2, ⟨u, hp, hb, hF⟩, hce, hcv, hcl, st⟩
  · cases hv
    obtain ⟨k1, k2, k3⟩ := vx_keep h0 e1 hS hA hf hL hF
    obtain ⟨t2, a1, b1⟩ := kk u t T'.heap (locs ++ L) e1.symm (by rw [← e2]; exact X'.warmed.alike) hp hb k1 k2 k3 T' rfl X'
    exact ⟨t2, st t2 a1, b1⟩
  · obtain ⟨k1, k2, k3⟩ := vx_keep h0 e1 hS hAX hf hL hF
    obtain ⟨t2, a1, b1⟩ := kx E ce q u t T'.heap (locs ++ L) e1.symm (by rw [← e2]; exact X'.warmed.alike) hp hb k1 k2 k3 (by rw [e1]; exact hce) hcv hcl T' rfl X'
    exact ⟨t2, st.trans a1, b1⟩
/-- caught by the row x of this method's table; the rows ahead don't take it -/
theorem vx_catch {own name : String} {E : String} {ce : Cell} {q : Addr} (hown : s.vm.findClass own = some m.cls) (pre : List ExceptionTableEntry) (x : ExceptionTableEntry) (suf : List ExceptionTableEntry) (hsplit : c.exceptionTable.toList = pre ++ x :: suf)
    (hpass : ∀ z ∈ pre, covers z pc = false ∨ (z.catchType ≠ 0 ∧ ∃ nm : String, (Cond.classLink own z.catchType nm).before args s = true ∧ va_Nc E nm s)) (hx : covers x pc = true) (h0 : x.catchType ≠ 0)
    (hlink : (Cond.classLink own x.catchType name).before args s = true) (hcast : (Cond.castable E name).before args s = true) (hcell : H[q]? = some ce) (hv : ce.vm = .none) (hcl : s.vm.findClass E = some ce.cls)
    (kk : W p l e R s m args below meth c H locs cells slots Q (F0 m x.handlerPc ls [.ref q])) : vx_W p l e R s m args below meth c H locs cells slots Q (F0 m pc ls rest) q := by
  intro T hT X
  have hpl : e.platform.magicAccessors = ({} : Platform).magicAccessors := by rw [X.admits.platform]
  obtain ⟨c3, c4, hc3, hc4, hasg⟩ := Cond.castable_spec hcast
  cases Option.some.inj (hc3.symm.trans hcl)
  obtain ⟨c5, hc5, hcl5⟩ := Cond.classLink_spec hown hlink e.platform hpl
  cases Option.some.inj (hc4.symm.trans hc5)
  obtain ⟨vm', X', st⟩ := X.thenCaughtThrough q (g := F0 m pc ls rest) rfl (Steps.refl _) (by rw [hT]; exact hcell) (by rw [hv]; rfl) (by obtain ⟨k9, h9, -⟩ := Vm.findClass_spec hcl; exact ⟨k9, h9⟩) pre x suf hsplit
    (fun z hz => by
      rcases hpass z hz with h | ⟨hz0, nm, hl1, hn1⟩
      · exact Or.inl h
      · obtain ⟨c6, hc6, hcl6⟩ := Cond.classLink_spec hown hl1 e.platform hpl
        obtain ⟨a8, b8, h1, h2, h3⟩ := hn1
        cases Option.some.inj (h1.symm.trans hcl)
        cases Option.some.inj (h2.symm.trans hc6)
        exact Or.inr ⟨hz0, _, hcl6, h3⟩) hx (Or.inr ⟨h0, c4, hcl5, hasg⟩)
  obtain ⟨t, a1, b1⟩ := kk (T.setVm vm') hT X'
  exact ⟨t, st.trans a1, b1⟩
end Rows
section Ends
variable {p : Program} {l : Launch} {e : Env} {R : Room} {s : State} {m : MethodId} {args : Array Value} {below : List Frame} {meth : Method} {c : Code} {H : Heap} {locs : List Loc} {cells slots : Nat} {Q : State → Prop}
variable {mc ms : Nat} {free : Addr → Prop} {A0 A1 : Nat → Prop} {H0 : Heap} {a : Array Value} {ls : Array Slot} {st0 rest : List Value}
variable {Qc : Array Value → State → Outcome → State → Prop} {XC : String → State → State → Prop}
/-- what a body that may throw owes at its end -/
def vx_MQ (below : List Frame) (Qc : Array Value → State → Outcome → State → Prop) (XC : String → State → State → Prop) (a : Array Value) (s : State) (mc ms : Nat) (free : Addr → Prop) : State → Prop := fun t =>
  ∃ o, t.status = .running ∧ Ended t below o ∧ vx_Q Qc XC mc ms free a s o t
theorem vx_ret {g : JFrame} {mc ms : Nat} (k : W p l e R s m args below meth c H locs cells slots (MQ below Qc args s mc ms free) g) : W p l e R s m args below meth c H locs cells slots (vx_MQ below Qc XC args s mc ms free) g := by
  intro T hT X
  obtain ⟨t, a1, o, b1, b2, b3, b4⟩ := k T hT X
  exact ⟨t, a1, o, b1, b2, Or.inl ⟨b3, b4⟩⟩
/-- not caught here: it goes on to the caller -/
theorem vx_widen {g : JFrame} {q : Addr} {k n : Nat} (h1 : cells ≤ k) (h2 : slots ≤ n) (kk : vx_W p l e R s m args below meth c H locs k n Q g q) : vx_W p l e R s m args below meth c H locs cells slots Q g q := fun T hT X => kk T hT (stand_widen X h1 h2)
theorem vx_out {pc : Nat} {E : String} {ce : Cell} {q : Addr} {mc ms : Nat} (hout : ∀ x ∈ c.exceptionTable.toList, covers x pc = false) (hlocks : meth.locks = false) (hcell : H[q]? = some ce) (hv : ce.vm = .none) (hcl : s.vm.findClass E = some ce.cls)
    (hx : ∀ t : State, t.heap = H → s.vm.Alike t.vm → XC E s t) (hf : ∀ z ∈ locs, free z.base) (hc : cells ≤ mc) (hs : slots ≤ ms) :
    vx_W p l e R s m args below meth c H locs cells slots (vx_MQ below Qc XC args s mc ms free) (F0 m pc ls rest) q := by
  intro T hT X
  obtain ⟨st1, hrun, hend, hW, hsm⟩ := X.leaveThrown q (g := F0 m pc ls rest) rfl rfl rfl hout hlocks
  have hcell9 : (T.setFrames (.throwing q :: below)).heap[q]? = some ce := by
    show T.heap[q]? = some ce
    rw [hT]; exact hcell
  exact ⟨_, st1, .threw q, hrun, hend, Or.inr ⟨q, rfl, E, ce, locs, hx _ hT hW.alike, hcell9, hv, hcl, hW, hsm.mono hc hs, hf⟩⟩
theorem vx_frame {U : State} {k n : Nat} (h : s.sameButNew ({ U with vm := s.vm } : State) locs k n) : s.heap.size ≤ U.heap.size ∧ ∀ q : Nat, q < s.heap.size → (∀ z ∈ locs, z.base ≠ q) → U.heap[q]? = s.heap[q]? := by
  obtain ⟨-, h2, -, -, -, h6⟩ := h
  refine ⟨h2, fun q hq hz => ?_⟩
  obtain ⟨c9, e1, e2, e3, e4⟩ := h6 q _ (Array.getElem?_eq_getElem hq)
  have hs : c9.slots = (s.heap[q]).slots := Array.ext_getElem? fun i => e4 i fun hm => hz _ hm rfl
  have h9 : c9 = s.heap[q] := by
    rw [hs] at e2
    exact e2
  have e5 : U.heap[q]? = some c9 := e1
  rw [e5, h9, Array.getElem?_eq_getElem hq]
/-- the words of a throw but the four that speak of the heap -/
def vx_no (w : Cond) : Bool := decide (w ≠ .isRef (.static Bundle.tN "UNASSIGNED_STACK" Bundle.steD)) && decide (w ≠ .isRef (.static Bundle.tN "SUPPRESSED_SENTINEL" Bundle.listD)) && decide (w ≠ .laysStatic Bundle.tN "UNASSIGNED_STACK" Bundle.steD) && decide (w ≠ .laysStatic Bundle.tN "SUPPRESSED_SENTINEL" Bundle.listD)
def vx_at0 (own : String) (ic : Nat) (X : String) (names : List String) : List Cond := (Bundle.ownAtoms0 own ic X names).filter vx_no
def vx_atS (own : String) (ic : Nat) (X : String) (names : List String) : List Cond := (Bundle.ownAtoms own ic X names).filter vx_no
/-- a word that the tables alone decide, or a good one -/
def vx_ot (w : Cond) : Bool := w.onTables || goodWord w
theorem vx_ot_at {args a' : Array Value} {s U : State} {w : Cond} (hW : s.WarmedH U.vm) (hvm : s.vm = U.vm) (hg : vx_ot w = true) (h : w.before args s = true) : w.before a' U = true := by
  simp only [vx_ot, Bool.or_eq_true] at hg
  rcases hg with hg | hg
  · exact va_tabs hg hvm h
  · exact word_at hW (good_of_word hg) h
/-- a list's words: the good ones out of the method's own list, the others by premises of their own -/
theorem vx_hat {args : Array Value} {s : State} {L B : List Cond} (h1 : ∀ w ∈ L.filter goodWord, w.before args s = true) (h2 : ∀ w ∈ L.filter (fun w => !goodWord w), w ∈ B) (h3 : ∀ w ∈ B, w.before args s = true) : ∀ w ∈ L, w.before args s = true := by
  intro w hw
  by_cases g : goodWord w = true
  · exact h1 w (List.mem_filter.mpr ⟨hw, g⟩)
  · refine h3 w (h2 w (List.mem_filter.mpr ⟨hw, ?_⟩))
    show (!goodWord w) = true
    cases hgw : goodWord w
    · rfl
    · exact absurd hgw g
theorem vx_c {args : Array Value} {s : State} {w : Cond} {B : List Cond} (h : w.before args s = true) (t : ∀ w ∈ B, w.before args s = true) : ∀ w' ∈ w :: B, w'.before args s = true := fun w' h' => (List.mem_cons.mp h').elim (fun e => by rw [e]; exact h) (t w')
theorem vx_n {args : Array Value} {s : State} : ∀ w ∈ ([] : List Cond), w.before args s = true := fun _ h => nomatch h
theorem vx_own {args : Array Value} {s : State} {L : List Cond} (h1 : ∀ w ∈ L.filter vx_no, w.before args s = true)
    (hU : (Cond.isRef (.static Bundle.tN "UNASSIGNED_STACK" Bundle.steD)).before args s = true) (hN : (Cond.isRef (.static Bundle.tN "SUPPRESSED_SENTINEL" Bundle.listD)).before args s = true)
    (lU : (Cond.laysStatic Bundle.tN "UNASSIGNED_STACK" Bundle.steD).before args s = true) (lN : (Cond.laysStatic Bundle.tN "SUPPRESSED_SENTINEL" Bundle.listD).before args s = true) : ∀ w ∈ L, w.before args s = true := by
  intro w hw
  by_cases e1 : w = .isRef (.static Bundle.tN "UNASSIGNED_STACK" Bundle.steD)
  · rw [e1]; exact hU
  · by_cases e2 : w = .isRef (.static Bundle.tN "SUPPRESSED_SENTINEL" Bundle.listD)
    · rw [e2]; exact hN
    · by_cases e3 : w = .laysStatic Bundle.tN "UNASSIGNED_STACK" Bundle.steD
      · rw [e3]; exact lU
      · by_cases e4 : w = .laysStatic Bundle.tN "SUPPRESSED_SENTINEL" Bundle.listD
        · rw [e4]; exact lN
        · exact h1 w (List.mem_filter.mpr ⟨hw, by unfold vx_no; rw [decide_eq_true e1, decide_eq_true e2, decide_eq_true e3, decide_eq_true e4]; rfl⟩)
/-- where a static field lies, its class's statics cell in H -/
def vx_L (C n d : String) (A : Nat → Prop) (U : State) (H : Heap) : Prop := ∃ (c : ClassId) (k : Class) (i : Nat) (f : Field) (a : Nat) (cell : Cell), U.vm.findClass C = some c ∧ U.fieldFound? C n d = some (c, k, i, f) ∧ f.isStatic = true ∧ k.statics = some a ∧ H[a]? = some cell ∧ cell.vm.isStatics = true ∧ cell.cls = c ∧ f.slot < cell.slots.size ∧ k.staticTypes[f.slot]? = some f.type ∧ ¬ A a
theorem vx_L.moved {C n d : String} {A : Nat → Prop} {u U : State} {H : Heap} (hvm : u.vm.Alike U.vm) (h : vx_L C n d A u H) : vx_L C n d A U H := by
  obtain ⟨c, k, i, f, a, cell, h1, h2, h3, h4, h5, h6, h7, h8, h9, h10⟩ := h
  obtain ⟨k', hi', he⟩ := State.fieldFound?_setVm hvm h2
  exact ⟨c, k', i, f, a, cell, by rw [hvm.findClass]; exact h1, hi', h3, by rw [he]; exact h4, h5, h6, h7, h8, by rw [he]; exact h9, h10⟩
theorem vx_L.kept {C n d : String} {A : Nat → Prop} {U : State} {H H1 : Heap} (h : vx_L C n d A U H) (hq : ∀ a : Nat, a < H.size → ¬ A a → H1[a]? = H[a]?) : vx_L C n d A U H1 := by
  obtain ⟨c, k, i, f, a, cell, h1, h2, h3, h4, h5, h6, h7, h8, h9, h10⟩ := h
  exact ⟨c, k, i, f, a, cell, h1, h2, h3, h4, by rw [hq a (Array.getElem?_eq_some_iff.mp h5).1 h10]; exact h5, h6, h7, h8, h9, h10⟩
theorem vx_L.narrow {C n d : String} {A B : Nat → Prop} {U : State} {H : Heap} (h : vx_L C n d A U H) (hAB : ∀ q, B q → A q) : vx_L C n d B U H := by
  obtain ⟨c, k, i, f, a, cell, h1, h2, h3, h4, h5, h6, h7, h8, h9, h10⟩ := h
  exact ⟨c, k, i, f, a, cell, h1, h2, h3, h4, h5, h6, h7, h8, h9, fun z => h10 (hAB _ z)⟩
theorem vx_L.word {C n d : String} {A : Nat → Prop} {s : State} {args : Array Value} (h : vx_L C n d A s s.heap) : (Cond.laysStatic C n d).before args s = true := by
  obtain ⟨c, k, i, f, a, cell, h1, h2, h3, h4, h5, h6, h7, h8, h9, -⟩ := h
  show (Cond.laysStatic C n d).holds args s none s [] = true
  exact Cond.laysStatic_of h1 h2 h3 h4 h5 h6 h7 h8 h9
/-- .. and what it holds: null or some reference -/
def vx_Zq (C n d : String) (A : Nat → Prop) (U : State) (H : Heap) : Prop := va_Zq C n d A U H ∧ vx_L C n d A U H
theorem vx_Zq.moved {C n d : String} {A : Nat → Prop} {u U : State} {H : Heap} (hvm : u.vm.Alike U.vm) (h : vx_Zq C n d A u H) : vx_Zq C n d A U H := ⟨va_Zq.moved hvm h.1, vx_L.moved hvm h.2⟩
theorem vx_Zq.kept {C n d : String} {A : Nat → Prop} {U : State} {H H1 : Heap} (h : vx_Zq C n d A U H) (hq : ∀ a : Nat, a < H.size → ¬ A a → H1[a]? = H[a]?) : vx_Zq C n d A U H1 := ⟨va_Zq.kept h.1 hq, vx_L.kept h.2 hq⟩
theorem vx_Zq.narrow {C n d : String} {A B : Nat → Prop} {U : State} {H : Heap} (h : vx_Zq C n d A U H) (hAB : ∀ q, B q → A q) : vx_Zq C n d B U H := ⟨va_Zq.narrow h.1 hAB, vx_L.narrow h.2 hAB⟩
theorem vx_Zqof {args : Array Value} {s : State} {C n d : String} {A : Nat → Prop} (hl : (Cond.laysStatic C n d).before args s = true) (hini : (Cond.initialized C).before args s = true) (h : (Cond.isRef (.static C n d)).before args s = true) (hA : ∀ a : Nat, a < s.heap.size → ¬ A a) : vx_Zq C n d A s s.heap := by
  refine ⟨va_Zqof hl hini h hA, ?_⟩
  obtain ⟨c, k, i, f, a, cell, h1, h2, h3, h4, h5, h6, h7, h8, h9⟩ := Cond.laysStatic_spec hl
  exact ⟨c, k, i, f, a, cell, h1, h2, h3, h4, h5, h6, h7, h8, h9, hA a (Array.getElem?_eq_some_iff.mp h5).1⟩
theorem vx_isRef {C n d : String} {v : Value} {A : Nat → Prop} {s : State} {args : Array Value} (h : va_Z C n d v A s s.heap) (hv : v.isRef = true) : (Cond.isRef (.static C n d)).before args s = true := by
  obtain ⟨cf, kf, fi, f, a, cell, h1, h2, h3, h4, h5, h6, h7, -⟩ := h
  have he : (Term.static C n d).eval args s none [] s = some v := by
    simp [Term.eval, State.fieldNamed?, h1, h2, h4, h5, h6, h7]
  simp only [Cond.before, Cond.holds, Cond.value, he]
  cases v <;> simp_all [Value.isRef]
theorem vx_isRefq {C n d : String} {A : Nat → Prop} {s : State} {args : Array Value} (h : va_Zq C n d A s s.heap) : (Cond.isRef (.static C n d)).before args s = true := by
  rcases h with h | ⟨t, h⟩
  · exact vx_isRef h rfl
  · exact vx_isRef h rfl
/-- the same frame, seen from here: as if the method were called anew in this heap -/
theorem vx_rebase {T : State} (X : Stand p l e R s m args below meth c T locs cells slots) {R' : Room} (hf : R'.frames ≤ R.frames) (hl : R'.locals ≤ R.locals) (hc : cells + R'.cells ≤ R.cells) (hs : slots + R'.slots ≤ R.slots) :
    Stand p l e R' ((T.setVm s.vm).setFrames (.invoking m args :: below)) m args below meth c T [] 0 0 := by
  have htop : (T.setVm s.vm).topJava?.isSome := X.here.top
  have hF : ((T.setVm s.vm).setFrames (.invoking m args :: below)).frames = .invoking m args :: below := State.frames_setFrames _ (State.cur_lt_of_top htop)
  obtain ⟨g₀, hg0⟩ := Option.isSome_iff_exists.mp htop
  obtain ⟨r, hr⟩ := State.topJava?_eq_some.mp hg0
  have hl9 : e.platform.stackLimits (T.setVm s.vm).me = e.platform.stackLimits s.me := X.limits
  have hb9 : (T.setVm s.vm).me.stackBytes = s.me.stackBytes := X.bytes
  refine ⟨X.admits, X.cas, X.clock, hF, ?_, X.hears, X.method, X.code, X.here, X.tail, X.warmed, ?_, ?_, ?_⟩
  · have h := X.room
    have hU : ((T.setVm s.vm).setFrames (.invoking m args :: below)).localsInUse = s.localsInUse := by
      rw [State.localsInUse_invoking hF (meth := meth) (c := c) X.method X.code, State.localsInUse_invoking X.frames X.method X.code]
    simp only [State.hasRoom, Bool.and_eq_true, decide_eq_true_eq] at h ⊢
    obtain ⟨⟨⟨⟨h1, h2, h3, h4, h5, h6⟩, h7⟩, h8⟩, h9⟩ := h
    rw [X.frames, List.length_cons] at h2 h3
    have q1 := X.heapSize
    have q2 := X.used
    simp only [hF, hU, List.length_cons, State.stackLimits_setFrames, State.stackBytes_setFrames, hl9, hb9]
    refine ⟨⟨⟨⟨by omega, by omega, by omega, by omega, by omega, h6⟩, ?_⟩, ?_⟩, X.book⟩
    · show T.heap.size + R'.cells ≤ e.platform.maxCells
      omega
    · show T.slotsUsed + R'.slots ≤ e.platform.maxSlots
      omega
  · rw [State.stackLimits_setFrames]; rfl
  · rw [State.stackBytes_setFrames]; rfl
  · refine ⟨?_, Nat.le_refl _, Nat.le_refl _, ?_, ?_, fun a c9 h9 => ⟨c9, h9, rfl, rfl, fun _ _ => rfl⟩⟩
    · obtain ⟨t, ht, -⟩ := State.frames_cons hr
      show T.setVm s.vm = { ((T.setVm s.vm).setFrames (.invoking m args :: below)).setFrames (T.setVm s.vm).frames with heap := T.heap, slotsUsed := T.slotsUsed }
      rw [State.setFrames_setFrames, State.setFrames_self ht]
      rfl
    · show T.slotsUsed = T.slotsUsed + ((T.heap.toList.drop T.heap.size).map (·.slots.size)).sum
      rw [List.drop_eq_nil_of_le (Nat.le_of_eq Array.length_toList)]
      rfl
    · show ((T.heap.toList.drop T.heap.size).map (·.slots.size)).sum ≤ 0
      rw [List.drop_eq_nil_of_le (Nat.le_of_eq Array.length_toList)]
      exact Nat.le_refl _
/-- 'throw new E()': new; dup; invokespecial; athrow -/
theorem vx_throw0 {cc : ByteArray} {pc : Nat} (hexec : p.tables.exec = Jvm.exec) (hb : c.code = cc) (hl : l.stackTraces = false) {own cls : String} {names : List String} {ik ic mc ms : Nat} {A : Nat → Prop}
    (hown : s.vm.findClass own = some m.cls) (hcls : Bundle.fit cls = true) (hnames : ∀ n ∈ names, Bundle.fit n = true)
    (hk : (Cond.classLink own ik cls).before args s = true) (hini : (Cond.initialized cls).before args s = true) (hat : ∀ w ∈ vx_at0 own ic cls names, w.before args s = true)
    (hgood : ∀ w ∈ Cond.classLink own ik cls :: Cond.initialized cls :: vx_at0 own ic cls names, vx_ot w = true)
    (hU : vx_Zq Bundle.tN "UNASSIGNED_STACK" Bundle.steD A s s.heap) (hN : vx_Zq Bundle.tN "SUPPRESSED_SENTINEL" Bundle.listD A s s.heap) (hS : va_S A s.heap H locs) (hsize : ls.size = c.maxLocals)
    (d0 : decode cc pc = .ok (.new ik, 3)) (d3 : decode cc (pc + 3) = .ok (.dup, 1)) (d4 : decode cc (pc + 4) = .ok (.invokespecial ic, 3)) (d7 : decode cc (pc + 7) = .ok (.athrow, 1))
    (hout : ∀ x ∈ c.exceptionTable.toList, covers x (pc + 7) = false)
    (hRframes : names.length + 3 < R.frames) (hRlocals : (rest.map fun v => v.category).sum + (13 * (names.length + 1) + 42) ≤ R.locals) (hRcells : cells + 1 ≤ R.cells) (hRslots : slots + 6 ≤ R.slots) (hlocks : meth.locks = false)
    (hx : ∀ t : State, s.vm.Alike t.vm → H.size ≤ t.heap.size → (∀ q : Nat, q < H.size → t.heap[q]? = H[q]?) → XC cls s t)
    (hf : ∀ z ∈ locs, free z.base) (hc : cells + 1 ≤ mc) (hs : slots + 6 ≤ ms) :
    W p l e R s m args below meth c H locs cells slots (vx_MQ below Qc XC args s mc ms free) (F0 m pc ls rest) := by
  intro T hT X
  have htr : e.platform.stackTraces = false := (show e.platform.stackTraces = l.stackTraces by rw [X.admits.platform]).trans hl
  have Y := vx_rebase X (R' := { frames := R.frames, locals := R.locals, cells := 1, slots := 6 }) (Nat.le_refl _) (Nat.le_refl _) hRcells hRslots
  obtain ⟨s', hA⟩ : ∃ z, z = (T.setVm s.vm).setFrames (.invoking m args :: below) := ⟨_, rfl⟩
  rw [← hA] at Y
  have hvm : s'.vm = s.vm := by rw [hA]; rfl
  have hhp : s'.heap = H := by rw [hA]; exact hT
  have hW0 : s.WarmedH s'.vm := by rw [hvm]; exact State.WarmedH.refl s
  have hat' : ∀ w ∈ vx_at0 own ic cls names, w.before args s' = true := fun w hw => vx_ot_at hW0 hvm.symm (hgood w (List.mem_cons_of_mem _ (List.mem_cons_of_mem _ hw))) (hat w hw)
  have hk' : (Cond.classLink own ik cls).before args s' = true := vx_ot_at hW0 hvm.symm (hgood _ List.mem_cons_self) hk
  have hini' : (Cond.initialized cls).before args s' = true := vx_ot_at hW0 hvm.symm (hgood _ (List.mem_cons_of_mem _ List.mem_cons_self)) hini
  have hU' : vx_Zq Bundle.tN "UNASSIGNED_STACK" Bundle.steD A s' s'.heap := by rw [hhp]; exact vx_Zq.moved hW0.alike (hU.kept hS.2.1)
  have hN' : vx_Zq Bundle.tN "SUPPRESSED_SENTINEL" Bundle.listD A s' s'.heap := by rw [hhp]; exact vx_Zq.moved hW0.alike (hN.kept hS.2.1)
  have h : ∀ w ∈ Bundle.ownAtoms0 own ic cls names, w.before args s' = true := vx_own hat' (vx_isRefq hU'.1) (vx_isRefq hN'.1) hU'.2.word hN'.2.word
  have hown' : s'.vm.findClass own = some m.cls := by rw [hvm]; exact hown
  have hins : (Cond.instantiable cls 6).before args s' = true := h _ (by simp [Bundle.ownAtoms0])
  obtain ⟨vm₁, cX, kX, hfX, hkX, -, -, X₁, st1⟩ := Y.newCold hexec (own := own) (C := cls) (index := ik) (n := 6) hown' hk' hins hini'
    (g := F0 m pc ls rest) rfl (by rw [hb]; exact d0) (Nat.le_refl _) (Nat.le_refl _)
  generalize hT1 : (T.setVm vm₁).pushCell { cls := cX, slots := kX.instanceTypes.map defaultValue, vm := .none } = T1 at X₁ st1
  have hcat : (Value.ref T.heap.size).category = 1 := rfl
  have hcellA : T1.heap[T.heap.size]? = some (freshCell cX kX) := by rw [← hT1]; exact State.heap_pushCell_size _ _
  have d3' : decode c.code (pc + 3) = .ok (.dup, 1) := by rw [hb]; exact d3
  obtain ⟨U, hsteps, hrun, hend, hW, hsame, ce, hce, hO⟩ := X₁.ctorThrow0 hexec htr (own := own) (cls := cls) (names := names) (ic := ic) hown' hcls hnames h (fun x hx => nomatch hx) hfX hkX hcellA (by rw [hhp, hT]; exact Nat.le_refl _)
    (g := { method := m, pc := pc + 4, locals := ls, stack := .ref T.heap.size :: .ref T.heap.size :: rest, locked := none }) rfl hsize rfl rfl (rest := rest) rfl
    (by rw [hb]; exact d4) (by rw [hb]; exact d7) hout hRframes (by simp only [List.map_cons, List.sum_cons, hcat]; omega) hlocks
  obtain ⟨f1, f2⟩ := vx_frame hsame
  rw [hhp] at f1 f2
  have hWs : s.WarmedH U.vm := State.WarmedH.trans hW0 hW
  have hcl : s.vm.findClass cls = some ce.cls := by
    have h9 := hO.cls
    rw [hvm] at h9
    exact h9
  have hall : s.sameButNew ({ U with vm := s.vm } : State) locs mc ms := by
    subst hA
    obtain ⟨e1, e2⟩ := hsame
    rw [State.setFrames_setFrames] at e1
    have h2 : (T.setVm s.vm).sameButNew ({ U with vm := s.vm } : State) [] (0 + 1) (0 + 6) := ⟨e1, e2⟩
    have h3 := X.same.trans h2
    rw [List.append_nil] at h3
    exact h3.mono hc hs
  refine ⟨U, ?_, .threw T.heap.size, hrun, hend, Or.inr ⟨T.heap.size, rfl, cls, ce, locs, hx U hWs.alike f1 (fun q hq => f2 q hq (fun z hz => nomatch hz)), hce, hO.vm, hcl, hWs, hall, hf⟩⟩
  refine st1 _ ?_
  show Steps p.tables e below (T1.setTop { method := m, pc := pc + 3, locals := ls, stack := .ref T.heap.size :: rest, locked := none }) _
  jvm_step X₁.here [X₁.here.top, hexec, d3', Value.category]
  exact hsteps
/-- 'throw new E("text")': new; dup; ldc; invokespecial; athrow -/
theorem vx_throwS {cc : ByteArray} {pc : Nat} (hexec : p.tables.exec = Jvm.exec) (hb : c.code = cc) (hl : l.stackTraces = false) {own cls text : String} {names : List String} {ik is ic mc ms sa : Nat} {A : Nat → Prop}
    (hown : s.vm.findClass own = some m.cls) (hcls : Bundle.fit cls = true) (hnames : ∀ n ∈ names, Bundle.fit n = true)
    (hk : (Cond.classLink own ik cls).before args s = true) (hini : (Cond.initialized cls).before args s = true) (hstr : vk_R own is text sa s) (hat : ∀ w ∈ vx_atS own ic cls names, w.before args s = true)
    (hgood : ∀ w ∈ Cond.classLink own ik cls :: Cond.initialized cls :: vx_atS own ic cls names, vx_ot w = true)
    (hU : vx_Zq Bundle.tN "UNASSIGNED_STACK" Bundle.steD A s s.heap) (hN : vx_Zq Bundle.tN "SUPPRESSED_SENTINEL" Bundle.listD A s s.heap) (hS : va_S A s.heap H locs) (hsize : ls.size = c.maxLocals)
    (d0 : decode cc pc = .ok (.new ik, 3)) (d3 : decode cc (pc + 3) = .ok (.dup, 1)) (d4 : decode cc (pc + 4) = .ok (.ldc is, 2)) (d6 : decode cc (pc + 6) = .ok (.invokespecial ic, 3)) (d9 : decode cc (pc + 9) = .ok (.athrow, 1))
    (hout : ∀ x ∈ c.exceptionTable.toList, covers x (pc + 9) = false)
    (hRframes : names.length + 3 < R.frames) (hRlocals : (rest.map fun v => v.category).sum + (13 * (names.length + 1) + 43) ≤ R.locals) (hRcells : cells + 1 ≤ R.cells) (hRslots : slots + 6 ≤ R.slots) (hlocks : meth.locks = false)
    (hx : ∀ t : State, s.vm.Alike t.vm → H.size ≤ t.heap.size → (∀ q : Nat, q < H.size → t.heap[q]? = H[q]?) → XC cls s t)
    (hf : ∀ z ∈ locs, free z.base) (hc : cells + 1 ≤ mc) (hs : slots + 6 ≤ ms) :
    W p l e R s m args below meth c H locs cells slots (vx_MQ below Qc XC args s mc ms free) (F0 m pc ls rest) := by
  intro T hT X
  have htr : e.platform.stackTraces = false := (show e.platform.stackTraces = l.stackTraces by rw [X.admits.platform]).trans hl
  have Y := vx_rebase X (R' := { frames := R.frames, locals := R.locals, cells := 1, slots := 6 }) (Nat.le_refl _) (Nat.le_refl _) hRcells hRslots
  obtain ⟨s', hA⟩ : ∃ z, z = (T.setVm s.vm).setFrames (.invoking m args :: below) := ⟨_, rfl⟩
  rw [← hA] at Y
  have hvm : s'.vm = s.vm := by rw [hA]; rfl
  have hhp : s'.heap = H := by rw [hA]; exact hT
  have hW0 : s.WarmedH s'.vm := by rw [hvm]; exact State.WarmedH.refl s
  have hat' : ∀ w ∈ vx_atS own ic cls names, w.before args s' = true := fun w hw => vx_ot_at hW0 hvm.symm (hgood w (List.mem_cons_of_mem _ (List.mem_cons_of_mem _ hw))) (hat w hw)
  have hk' : (Cond.classLink own ik cls).before args s' = true := vx_ot_at hW0 hvm.symm (hgood _ List.mem_cons_self) hk
  have hini' : (Cond.initialized cls).before args s' = true := vx_ot_at hW0 hvm.symm (hgood _ (List.mem_cons_of_mem _ List.mem_cons_self)) hini
  have hU' : vx_Zq Bundle.tN "UNASSIGNED_STACK" Bundle.steD A s' s'.heap := by rw [hhp]; exact vx_Zq.moved hW0.alike (hU.kept hS.2.1)
  have hN' : vx_Zq Bundle.tN "SUPPRESSED_SENTINEL" Bundle.listD A s' s'.heap := by rw [hhp]; exact vx_Zq.moved hW0.alike (hN.kept hS.2.1)
  have h : ∀ w ∈ Bundle.ownAtoms own ic cls names, w.before args s' = true := vx_own hat' (vx_isRefq hU'.1) (vx_isRefq hN'.1) hU'.2.word hN'.2.word
  have hown' : s'.vm.findClass own = some m.cls := by rw [hvm]; exact hown
  have hins : (Cond.instantiable cls 6).before args s' = true := h _ (by simp [Bundle.ownAtoms])
  obtain ⟨vm₁, cX, kX, hfX, hkX, -, -, X₁, st1⟩ := Y.newCold hexec (own := own) (C := cls) (index := ik) (n := 6) hown' hk' hins hini'
    (g := F0 m pc ls rest) rfl (by rw [hb]; exact d0) (Nat.le_refl _) (Nat.le_refl _)
  generalize hT1 : (T.setVm vm₁).pushCell { cls := cX, slots := kX.instanceTypes.map defaultValue, vm := .none } = T1 at X₁ st1
  have hcat : (Value.ref T.heap.size).category = 1 := rfl
  have hcellA : T1.heap[T.heap.size]? = some (freshCell cX kX) := by rw [← hT1]; exact State.heap_pushCell_size _ _
  have d3' : decode c.code (pc + 3) = .ok (.dup, 1) := by rw [hb]; exact d3
  have d4' : decode c.code (pc + 4) = .ok (.ldc is, 2) := by rw [hb]; exact d4
  have hstr' : vk_R own is text sa s' := vk_R.warm hW0 hstr
  obtain ⟨U, hsteps, hrun, hend, hW, hsame, ce, hce, hO⟩ := X₁.ctorThrowS hexec htr (own := own) (cls := cls) (names := names) (ic := ic) hown' hcls hnames h (fun x hx => nomatch hx) hfX hkX hcellA (by rw [hhp, hT]; exact Nat.le_refl _) (msg := .ref sa) rfl
    (g := { method := m, pc := pc + 6, locals := ls, stack := .ref sa :: .ref T.heap.size :: .ref T.heap.size :: rest, locked := none }) rfl hsize rfl rfl (rest := rest) rfl
    (by rw [hb]; exact d6) (by rw [hb]; exact d9) hout hRframes (by simp only [List.map_cons, List.sum_cons, hcat]; omega) hlocks
  obtain ⟨f1, f2⟩ := vx_frame hsame
  rw [hhp] at f1 f2
  have hWs : s.WarmedH U.vm := State.WarmedH.trans hW0 hW
  have hcl : s.vm.findClass cls = some ce.cls := by
    have h9 := hO.cls
    rw [hvm] at h9
    exact h9
  have hall : s.sameButNew ({ U with vm := s.vm } : State) locs mc ms := by
    subst hA
    obtain ⟨e1, e2⟩ := hsame
    rw [State.setFrames_setFrames] at e1
    have h2 : (T.setVm s.vm).sameButNew ({ U with vm := s.vm } : State) [] (0 + 1) (0 + 6) := ⟨e1, e2⟩
    have h3 := X.same.trans h2
    rw [List.append_nil] at h3
    exact h3.mono hc hs
  refine ⟨U, ?_, .threw T.heap.size, hrun, hend, Or.inr ⟨T.heap.size, rfl, cls, ce, locs, hx U hWs.alike f1 (fun q hq => f2 q hq (fun z hz => nomatch hz)), hce, hO.vm, hcl, hWs, hall, hf⟩⟩
  refine st1 _ ?_
  show Steps p.tables e below (T1.setTop { method := m, pc := pc + 3, locals := ls, stack := .ref T.heap.size :: rest, locked := none }) _
  jvm_step X₁.here [X₁.here.top, hexec, d3', Value.category]
  exact X₁.ldcString hexec (own := own) (text := text) (index := is) (a := sa) hown' hstr'.1 hstr'.2
    (g := { method := m, pc := pc + 4, locals := ls, stack := .ref T.heap.size :: .ref T.heap.size :: rest, locked := none }) rfl d4' _ hsteps
/-- 'throw new E("text")', the text by a wide index -/
theorem vx_throwSW {cc : ByteArray} {pc : Nat} (hexec : p.tables.exec = Jvm.exec) (hb : c.code = cc) (hl : l.stackTraces = false) {own cls text : String} {names : List String} {ik is ic mc ms sa : Nat} {A : Nat → Prop}
    (hown : s.vm.findClass own = some m.cls) (hcls : Bundle.fit cls = true) (hnames : ∀ n ∈ names, Bundle.fit n = true)
    (hk : (Cond.classLink own ik cls).before args s = true) (hini : (Cond.initialized cls).before args s = true) (hstr : vk_R own is text sa s) (hat : ∀ w ∈ vx_atS own ic cls names, w.before args s = true)
    (hgood : ∀ w ∈ Cond.classLink own ik cls :: Cond.initialized cls :: vx_atS own ic cls names, vx_ot w = true)
    (hU : vx_Zq Bundle.tN "UNASSIGNED_STACK" Bundle.steD A s s.heap) (hN : vx_Zq Bundle.tN "SUPPRESSED_SENTINEL" Bundle.listD A s s.heap) (hS : va_S A s.heap H locs) (hsize : ls.size = c.maxLocals)
    (d0 : decode cc pc = .ok (.new ik, 3)) (d3 : decode cc (pc + 3) = .ok (.dup, 1)) (d4 : decode cc (pc + 4) = .ok (.ldc_w is, 3)) (d7 : decode cc (pc + 7) = .ok (.invokespecial ic, 3)) (d10 : decode cc (pc + 10) = .ok (.athrow, 1))
    (hout : ∀ x ∈ c.exceptionTable.toList, covers x (pc + 10) = false)
    (hRframes : names.length + 3 < R.frames) (hRlocals : (rest.map fun v => v.category).sum + (13 * (names.length + 1) + 43) ≤ R.locals) (hRcells : cells + 1 ≤ R.cells) (hRslots : slots + 6 ≤ R.slots) (hlocks : meth.locks = false)
    (hx : ∀ t : State, s.vm.Alike t.vm → H.size ≤ t.heap.size → (∀ q : Nat, q < H.size → t.heap[q]? = H[q]?) → XC cls s t)
    (hf : ∀ z ∈ locs, free z.base) (hc : cells + 1 ≤ mc) (hs : slots + 6 ≤ ms) :
    W p l e R s m args below meth c H locs cells slots (vx_MQ below Qc XC args s mc ms free) (F0 m pc ls rest) := by
  intro T hT X
  have htr : e.platform.stackTraces = false := (show e.platform.stackTraces = l.stackTraces by rw [X.admits.platform]).trans hl
  have Y := vx_rebase X (R' := { frames := R.frames, locals := R.locals, cells := 1, slots := 6 }) (Nat.le_refl _) (Nat.le_refl _) hRcells hRslots
  obtain ⟨s', hA⟩ : ∃ z, z = (T.setVm s.vm).setFrames (.invoking m args :: below) := ⟨_, rfl⟩
  rw [← hA] at Y
  have hvm : s'.vm = s.vm := by rw [hA]; rfl
  have hhp : s'.heap = H := by rw [hA]; exact hT
  have hW0 : s.WarmedH s'.vm := by rw [hvm]; exact State.WarmedH.refl s
  have hat' : ∀ w ∈ vx_atS own ic cls names, w.before args s' = true := fun w hw => vx_ot_at hW0 hvm.symm (hgood w (List.mem_cons_of_mem _ (List.mem_cons_of_mem _ hw))) (hat w hw)
  have hk' : (Cond.classLink own ik cls).before args s' = true := vx_ot_at hW0 hvm.symm (hgood _ List.mem_cons_self) hk
  have hini' : (Cond.initialized cls).before args s' = true := vx_ot_at hW0 hvm.symm (hgood _ (List.mem_cons_of_mem _ List.mem_cons_self)) hini
  have hU' : vx_Zq Bundle.tN "UNASSIGNED_STACK" Bundle.steD A s' s'.heap := by rw [hhp]; exact vx_Zq.moved hW0.alike (hU.kept hS.2.1)
  have hN' : vx_Zq Bundle.tN "SUPPRESSED_SENTINEL" Bundle.listD A s' s'.heap := by rw [hhp]; exact vx_Zq.moved hW0.alike (hN.kept hS.2.1)
  have h : ∀ w ∈ Bundle.ownAtoms own ic cls names, w.before args s' = true := vx_own hat' (vx_isRefq hU'.1) (vx_isRefq hN'.1) hU'.2.word hN'.2.word
  have hown' : s'.vm.findClass own = some m.cls := by rw [hvm]; exact hown
  have hins : (Cond.instantiable cls 6).before args s' = true := h _ (by simp [Bundle.ownAtoms])
  obtain ⟨vm₁, cX, kX, hfX, hkX, -, -, X₁, st1⟩ := Y.newCold hexec (own := own) (C := cls) (index := ik) (n := 6) hown' hk' hins hini'
    (g := F0 m pc ls rest) rfl (by rw [hb]; exact d0) (Nat.le_refl _) (Nat.le_refl _)
  generalize hT1 : (T.setVm vm₁).pushCell { cls := cX, slots := kX.instanceTypes.map defaultValue, vm := .none } = T1 at X₁ st1
  have hcat : (Value.ref T.heap.size).category = 1 := rfl
  have hcellA : T1.heap[T.heap.size]? = some (freshCell cX kX) := by rw [← hT1]; exact State.heap_pushCell_size _ _
  have d3' : decode c.code (pc + 3) = .ok (.dup, 1) := by rw [hb]; exact d3
  have d4' : decode c.code (pc + 4) = .ok (.ldc_w is, 3) := by rw [hb]; exact d4
  have hstr' : vk_R own is text sa s' := vk_R.warm hW0 hstr
  obtain ⟨U, hsteps, hrun, hend, hW, hsame, ce, hce, hO⟩ := X₁.ctorThrowS hexec htr (own := own) (cls := cls) (names := names) (ic := ic) hown' hcls hnames h (fun x hx => nomatch hx) hfX hkX hcellA (by rw [hhp, hT]; exact Nat.le_refl _) (msg := .ref sa) rfl
    (g := { method := m, pc := pc + 7, locals := ls, stack := .ref sa :: .ref T.heap.size :: .ref T.heap.size :: rest, locked := none }) rfl hsize rfl rfl (rest := rest) rfl
    (by rw [hb]; exact d7) (by rw [hb]; exact d10) hout hRframes (by simp only [List.map_cons, List.sum_cons, hcat]; omega) hlocks
  obtain ⟨f1, f2⟩ := vx_frame hsame
  rw [hhp] at f1 f2
  have hWs : s.WarmedH U.vm := State.WarmedH.trans hW0 hW
  have hcl : s.vm.findClass cls = some ce.cls := by
    have h9 := hO.cls
    rw [hvm] at h9
    exact h9
  have hall : s.sameButNew ({ U with vm := s.vm } : State) locs mc ms := by
    subst hA
    obtain ⟨e1, e2⟩ := hsame
    rw [State.setFrames_setFrames] at e1
    have h2 : (T.setVm s.vm).sameButNew ({ U with vm := s.vm } : State) [] (0 + 1) (0 + 6) := ⟨e1, e2⟩
    have h3 := X.same.trans h2
    rw [List.append_nil] at h3
    exact h3.mono hc hs
  refine ⟨U, ?_, .threw T.heap.size, hrun, hend, Or.inr ⟨T.heap.size, rfl, cls, ce, locs, hx U hWs.alike f1 (fun q hq => f2 q hq (fun z hz => nomatch hz)), hce, hO.vm, hcl, hWs, hall, hf⟩⟩
  refine st1 _ ?_
  show Steps p.tables e below (T1.setTop { method := m, pc := pc + 3, locals := ls, stack := .ref T.heap.size :: rest, locked := none }) _
  jvm_step X₁.here [X₁.here.top, hexec, d3', Value.category]
  exact X₁.ldcStringW hexec (own := own) (text := text) (index := is) (a := sa) hown' hstr'.1 hstr'.2
    (g := { method := m, pc := pc + 4, locals := ls, stack := .ref T.heap.size :: .ref T.heap.size :: rest, locked := none }) rfl d4' _ hsteps
end Ends
section Bodies
variable {l : Launch}
theorem vx_ofW {y : MethodName} {ws ws' : List Cond} {rm : Room} {Pc : Array Value → State → Prop} {Qc : Array Value → State → Outcome → State → Prop} {XC : String → State → State → Prop} {mc ms : Nat} {free : Addr → Prop} {cc : ByteArray} {maxL : Nat} {ret : Option FieldType}
    (hy : plainName y.cls = true) (hw : ws = Cond.code y cc maxL ret :: ws')
    (body : ∀ p e s m args below meth c s₁, BodyLoose p l y (headSpec ws rm) cc maxL ret e s m args below meth c s₁ → c.maxLocals = maxL → (∀ x ∈ c.exceptionTable.toList, False) → Pc args s →
      W p l e (headSpec ws rm).room s m args below meth c s.heap [] 0 0 (vx_MQ below Qc XC args s mc ms free) (entryFrame m args maxL)) : vx_Met l y ws rm Pc Qc XC mc ms free := by
  refine MetFree.of_bodyS (code := cc) (maxLocals := maxL) (ret := ret) hy ?_ ?_
  · intro args s m h hn
    obtain ⟨meth, c, h1, h2, h3, h4, h5, h6, -, -⟩ := Cond.code_spec hn (atoms_spec (ws := ws) h _ (by rw [hw]; exact List.mem_cons_self))
    exact ⟨meth, c, h1, h2, h3, h4, h5, h6⟩
  · intro p e s m args below meth c s₁ B hml hP _
    have hh0 : s₁.heap = s.heap := by rw [B.state]; rfl
    have ht : ∀ x ∈ c.exceptionTable.toList, False := by
      obtain ⟨meth9, c9, h1, h2, -, -, -, -, h7, -⟩ := Cond.code_spec B.named (atoms_spec (ws := ws) B.pre _ (by rw [hw]; exact List.mem_cons_self))
      cases Option.some.inj (h1.symm.trans B.method)
      cases Option.some.inj (h2.symm.trans (Stand.of_body B).code)
      intro x hx
      rw [Array.isEmpty_iff.mp h7] at hx
      cases hx
    obtain ⟨t, a1, o, b1, b2, b3⟩ := body p e s m args below meth c s₁ B hml ht hP s₁ hh0 (Stand.of_body B)
    exact ⟨t, o, a1, b1, b2, b3⟩
/-- the table of a body with handlers -/
theorem vx_table {p : Program} {x y : MethodName} {S : Spec} {cc bytes : ByteArray} {maxL maxL' : Nat} {ret ret' : Option FieldType} {e : Env} {s s₁ : State} {m : MethodId} {args : Array Value} {below : List Frame} {meth : Method} {c : Code} {hh : List (Nat × Nat × Nat × Nat)}
    (B : BodyLoose p l y S cc maxL ret e s m args below meth c s₁) (h : (Cond.codeWith y bytes maxL' ret' hh).before args s = true) : c.exceptionTable.toList = tableOf hh := by
  obtain ⟨m9, meth9, c9, hn9, h1, h2, -, -, h6, -⟩ := Cond.codeWith_spec h
  cases Option.some.inj (hn9.symm.trans B.named)
  cases Option.some.inj (h1.symm.trans B.method)
  cases Option.some.inj (h2.symm.trans (Stand.of_body B).code)
  rw [← h6, table_eq]
end Bodies
end VXA
/-! ===== END ===== -/
/-! ===== BEGIN a static call of a method with an exception table ===== -/
section VXS
variable {p : Program} {l : Launch} {e : Env} {R : Room} {s : State} {m : MethodId} {args : Array Value} {below : List Frame} {meth : Method} {c : Code} {T : State} {H : Heap} {locs : List Loc} {cells slots : Nat}
abbrev vx_CSW (R : Room) (s : State) (args : Array Value) (own : String) (index : Nat) (y : MethodName) (bytes : ByteArray) (maxL : Nat) (ret : Option FieldType) (hh : List (Nat × Nat × Nat × Nat)) (ws : List Cond) (rm : Room) (mc ms n : Nat) : Prop :=
  (rm.cells = mc ∧ rm.slots = ms ∧ rm.frames + 1 ≤ R.frames ∧ 8 + (maxL + 11) + rm.locals ≤ R.locals ∧ (∀ w ∈ ws, ∀ (a' : Array Value) (U : State), s.WarmedH U.vm → w.before a' U = true) ∧ Cond.codeWith y bytes maxL ret hh ∈ ws) ∧
  (Cond.codeWith y bytes maxL ret hh).before args s = true ∧ (Cond.initialized y.cls).before args s = true ∧ (y.cls ≠ "java/lang/invoke/MethodHandle" ∧ y.cls ≠ "java/lang/invoke/VarHandle") ∧
  (∀ sig, parseMethodDescriptor y.desc = some sig → n = sig.parameters.length) ∧ (Cond.methodLink own index y).before args s = true ∧ (Cond.static y).before args s = true
theorem vx_cwSW {own : String} {index maxL mc ms : Nat} {y : MethodName} {bytes : ByteArray} {ret : Option FieldType} {hh : List (Nat × Nat × Nat × Nat)} {Ts ws ws' : List Cond} {rm : Room} (n : Nat) (ht : ∀ w ∈ Ts, w.before args s = true) (hT : GoodIn Ts (va_wsS own index y ws)) (hw : ws = Cond.codeWith y bytes maxL ret hh :: ws') (hrc : rm.cells = mc) (hrs : rm.slots = ms)
    (hd : y.cls ≠ "java/lang/invoke/MethodHandle" ∧ y.cls ≠ "java/lang/invoke/VarHandle" ∧ (parseMethodDescriptor y.desc).map (fun d => d.parameters.length) = some n) (hR : rm.frames + 1 ≤ R.frames ∧ 8 + (maxL + 11) + rm.locals ≤ R.locals) :
    vx_CSW R s args own index y bytes maxL ret hh ws rm mc ms n := by
  have ok : ∀ w ∈ va_wsS own index y ws, w.before args s = true := fun w h => ht w (hT w h).1
  have hG : GoodIn Ts ws := fun w h => hT w (by unfold va_wsS; exact List.mem_append_right _ h)
  have hc : Cond.codeWith y bytes maxL ret hh ∈ ws := by rw [hw]; exact List.mem_cons_self
  refine ⟨⟨hrc, hrs, hR.1, hR.2, pay_in ht hG, hc⟩, ht _ (hG _ hc).1, ok _ (by simp [va_wsS]), ⟨hd.1, hd.2.1⟩, fun sig h => ?_, ok _ (by simp [va_wsS]), ok _ (by simp [va_wsS])⟩
  have h2 := hd.2.2
  rw [h] at h2
  exact (Option.some.inj h2).symm
theorem vx_callSW (X : Stand p l e R s m args below meth c T locs cells slots) (hexec : p.tables.exec = Jvm.exec) {own : String} {index : Nat} {y : MethodName} {bytes : ByteArray} {maxL : Nat} {ret : Option FieldType} {hh : List (Nat × Nat × Nat × Nat)}
    (hown : s.vm.findClass own = some m.cls) (hlink : (Cond.methodLink own index y).before args s = true) (hstat : (Cond.static y).before args s = true) (hinit : (Cond.initialized y.cls).before args s = true)
    (hcode : (Cond.codeWith y bytes maxL ret hh).before args s = true) (hy : y.cls ≠ "java/lang/invoke/MethodHandle" ∧ y.cls ≠ "java/lang/invoke/VarHandle")
    {W9 : Nat} {Pre : Pt → Array Value → Prop} {Post : Pt → Array Value → Option Value → Pt → Prop} (hK : Back l R p e below s args y 3 W9 Pre Post)
    {g : JFrame} (hg : g.method = m) (hsize : g.locals.size = c.maxLocals) {argsL rest : List Value} (hlen : ∀ sig, parseMethodDescriptor y.desc = some sig → argsL.length = sig.parameters.length)
    (hstack : g.stack = argsL.reverse ++ rest) (hW : 2 * g.monitorRoom + (rest.map fun v => v.category).sum ≤ W9) (hdg : decode c.code g.pc = .ok (.invokestatic index, 3))
    (hpre : ∀ vm₁, s.WarmedH vm₁ → Pre ⟨T.setVm vm₁, locs, cells, slots⟩ argsL.toArray) :
    ∃ (v : Option Value) (vm₁ : Vm) (B : Pt), s.WarmedH vm₁ ∧ Stand p l e R s m args below meth c B.U B.locs B.cells B.slots ∧ Post ⟨T.setVm vm₁, locs, cells, slots⟩ argsL.toArray v B ∧
      ∀ target, Steps p.tables e below (B.U.setTop { g with pc := g.pc + 3, stack := v.toList ++ rest }) target → Steps p.tables e below (T.setTop g) target := by
  obtain ⟨mk, methM, cM, hnamed, hmethM, -, -, -, -, -, -, hsigM⟩ := Cond.codeWith_spec hcode
  have hstatic : methM.isStatic = true := Cond.static_spec hnamed hmethM hstat
  obtain ⟨kP, hkP, -⟩ := className_of_methodNamed hnamed
  have hinitP : kP.init = .initialized := Cond.initialized_spec (findClass_of_methodNamed hnamed) hkP hinit
  obtain ⟨vm₁, X₁, hstep₁⟩ := X.invokestatic hexec hown hlink hnamed hmethM hstatic hkP hinitP hy (g := g) hg (argsL := argsL) (rest := rest) (hlen _ hsigM) hstack hdg
  obtain ⟨v, B, X', hpost, hsteps⟩ := hK m meth c ⟨T.setVm vm₁, locs, cells, slots⟩ { g with stack := rest } (.invokestatic index) mk argsL.toArray X₁ hg hsize hdg hW (X₁.named hnamed) (hpre vm₁ X₁.warmed)
  exact ⟨v, vm₁, B, X₁.warmed, X', hpost, fun target h => hstep₁ _ fun acts => by rw [doInvoke_state]; exact hsteps.trans h⟩
theorem vx_runSW {y : MethodName} {bytes cc : ByteArray} {maxL nL mc ms n index : Nat} {ret : Option FieldType} {hh : List (Nat × Nat × Nat × Nat)} {ws : List Cond} {rm : Room} {Pc : Array Value → State → Prop} {Qc : Array Value → State → Outcome → State → Prop} {free : Addr → Prop} {Ts : List Cond} {own : String} {As rest : List Value} {g : JFrame}
    (S : CallFix p m c cc nL s args Ts own) (hM : Met l y ws rm Pc Qc mc ms free) (cw : vx_CSW R s args own index y bytes maxL ret hh ws rm mc ms n) (hp : PreS s H Pc As)
    (hg : g.method = m) (hn : As.length = n) (hsize : g.locals.size = nL) (hstack : g.stack = As.reverse ++ rest) (hW : 2 * g.monitorRoom + (rest.map fun v => v.category).sum ≤ 8) (hdg : decode cc g.pc = .ok (.invokestatic index, 3)) (hf : cells + mc ≤ R.cells ∧ slots + ms ≤ R.slots) :
    va_Run p l e R s m args below meth c H locs cells slots mc ms g rest (Qc As.toArray) (free) := by
  obtain ⟨⟨hrc, hrs, hfr, hlo, hws, hcw⟩, hcode, hini, hy, hlen, hl, hstt⟩ := cw
  have hK : Back l R p e below s args y 3 8 (PreOf R mc ms Pc) (PostOf Qc mc ms free) := va_backW (hh := hh) (bytes := bytes) (maxL := maxL) (ret := ret) hM hp.1 hrc hrs hfr hlo hws hcw (fun a' U hW => word_at hW (Or.inl (by first | rfl | simp [Cond.onTables, Cond.keeps, Cond.steady])) hini)
  obtain ⟨hx, hb, hml, ho, -⟩ := S
  intro T hT X
  obtain ⟨v, vm₁, ⟨U', l2, c2, s2⟩, hW₁, X', ⟨g', mk, t, L, e1, e2, hq, h1, hL, h2, h3⟩, st⟩ := vx_callSW X hx (hh := hh) (bytes := bytes) (maxL := maxL) (ret := ret) ho hl hstt hini hcode hy hK hg (hsize.trans hml.symm) (argsL := As) (rest := rest) (fun sig h => hn.trans (hlen sig h)) hstack hW (by rw [hb]; exact hdg)
    (fun vm₁ hW₁ => ⟨hf.1, hf.2, hp.2 (T.setVm vm₁) hT hW₁⟩)
  dsimp only [Pt.U, Pt.locs, Pt.cells, Pt.slots] at X' e1 e2 h1 h2 h3 st
  subst h1; subst h2; subst h3
  exact ⟨v, (T.setVm vm₁).calling g' mk As.toArray, t, U', L, hT, X', hL, e1, e2, hq, st⟩
/-- not caught here, past rows that name other classes: it goes on to the caller -/
theorem vx_outP {p : Program} {l : Launch} {e : Env} {R : Room} {s : State} {m : MethodId} {args : Array Value} {below : List Frame} {meth : Method} {c : Code} {H : Heap} {locs : List Loc} {cells slots : Nat} {free : Addr → Prop} {ls : Array Slot} {rest : List Value} {Qc : Array Value → State → Outcome → State → Prop} {XC : String → State → State → Prop}
    {pc : Nat} {own E : String} {ce : Cell} {q : Addr} {mc ms : Nat} (hown : s.vm.findClass own = some m.cls) (hlocks : meth.locks = false)
    (hpass : ∀ z ∈ c.exceptionTable.toList, covers z pc = false ∨ (z.catchType ≠ 0 ∧ ∃ nm : String, (Cond.classLink own z.catchType nm).before args s = true ∧ va_Nc E nm s)) (hcell : H[q]? = some ce) (hv : ce.vm = .none) (hcl : s.vm.findClass E = some ce.cls)
    (hx : ∀ t : State, t.heap = H → s.vm.Alike t.vm → XC E s t) (hf : ∀ z ∈ locs, free z.base) (hc : cells ≤ mc) (hs : slots ≤ ms) :
    vx_W p l e R s m args below meth c H locs cells slots (vx_MQ below Qc XC args s mc ms free) (F0 m pc ls rest) q := by
  intro T hT X
  have hpl : e.platform.magicAccessors = ({} : Platform).magicAccessors := by rw [X.admits.platform]
  obtain ⟨vm', hW', X', st⟩ := X.outThrough hlocks q (g := F0 m pc ls rest) rfl rfl rfl (cell := ce) (by rw [hT]; exact hcell) (by rw [hv]; rfl)
    (by obtain ⟨k9, h9, -⟩ := Vm.findClass_spec hcl; exact ⟨k9, h9⟩) (fun z hz => by
      rcases hpass z hz with h | ⟨hz0, nm, hl1, hn1⟩
      · exact Or.inl h
      · obtain ⟨c6, hc6, hcl6⟩ := Cond.classLink_spec hown hl1 e.platform hpl
        obtain ⟨a8, b8, h1, h2, h3⟩ := hn1
        cases Option.some.inj (h1.symm.trans hcl)
        cases Option.some.inj (h2.symm.trans hc6)
        exact Or.inr ⟨hz0, _, hcl6, h3⟩)
  obtain ⟨g₀, hfr⟩ := X'.frames_eq
  have hcell9 : ((T.setVm vm').setFrames (.throwing q :: below)).heap[q]? = some ce := by
    show T.heap[q]? = some ce
    rw [hT]; exact hcell
  have hend : Ended ((T.setVm vm').setFrames (.throwing q :: below)) below (.threw q) := State.frames_setFrames _ (State.cur_lt_of_frames hfr)
  refine ⟨(T.setVm vm').setFrames (.throwing q :: below), ?_, .threw q, X'.here.running, hend, Or.inr ⟨q, rfl, E, ce, locs, hx _ hT (X'.ends _).1.alike, hcell9, hv, hcl, (X'.ends _).1, (X'.ends _).2.mono hc hs, hf⟩⟩
  rw [X.pushThrowing_eq]
  exact st
/-- a thing of a world lies in the heap -/
theorem vx_lt {D : va_G} {cl : List vw_C} {ws : va_W} {H1 : Heap} (h : va_P D cl ws H1) {k : Nat} {q : Nat × va_E} (hk : ws[k]? = some q) : q.1 < H1.size := (h k q hk).lt
end VXS
/-! ===== END ===== -/
/-! ===== BEGIN methods with a table of their own: called by a name, returning or throwing ===== -/
section VXH
/-! vx_backW, vx_callVX, vx_callSX, vx_callVW, vx_runVW, vx_runVX, vx_runSX, vx_ofWH follow the same proofs as their sisters above (Free/Laws.lean, Shelf42/LK1.lean); vx_outP calls Shelf42/NT130.lean (outThrough). -/
section
variable {l : Launch} {R : Room} {p : Program} {e : Env} {below : List Frame} {s : State} {sargs : Array Value} {y : MethodName} {len W9 : Nat}
theorem vx_backW {ws : List Cond} {rm : Room} {Pc : Array Value → State → Prop} {Qc : Array Value → State → Outcome → State → Prop} {XC : String → State → State → Prop} {mc ms : Nat} {free : Addr → Prop} {bytes : ByteArray} {maxL : Nat} {ret : Option FieldType} {hh : List (Nat × Nat × Nat × Nat)}
    (hM : vx_Met l y ws rm Pc Qc XC mc ms free) (hblind : FrameBlind Pc) (hrc : rm.cells = mc) (hrs : rm.slots = ms)
    (hframes : rm.frames + 1 ≤ R.frames) (hlocals : W9 + (maxL + 11) + rm.locals ≤ R.locals)
    (hws : ∀ w ∈ ws, ∀ a' U, s.WarmedH U.vm → w.before a' U = true) (hcode : Cond.codeWith y bytes maxL ret hh ∈ ws) (hinit : ∀ a' U, s.WarmedH U.vm → (Cond.initialized y.cls).before a' U = true) :
    vx_Back l R p e below s sargs y len W9 (PreOf R mc ms Pc) (PostOf Qc mc ms free) (vx_Post XC mc ms free) := by
  intro m meth c A g ig mk a X hg hsize hdg hW hn hp
  have h1 : (headSpec ws rm).pre.before a A.U = true := atoms_intro fun w hw => hws w hw _ _ X.warmed
  have h2 : (Cond.codeWith y bytes maxL ret hh).before a A.U = true := hws _ hcode _ _ X.warmed
  have h3 : (Cond.initialized y.cls).before a A.U = true := hinit _ _ X.warmed
  have h4 : A.cells + (headSpec ws rm).room.cells ≤ R.cells := by rw [show (headSpec ws rm).room.cells = mc from hrc]; exact hp.1
  have h5 : A.slots + (headSpec ws rm).room.slots ≤ R.slots := by rw [show (headSpec ws rm).room.slots = ms from hrs]; exact hp.2.1
  have hPc : Pc a (A.U.calling g mk a) := hblind _ _ _ _ hp.2.2
  obtain ⟨U, Ls, c0, s0⟩ := A
  dsimp only [Pt.U, Pt.locs, Pt.cells, Pt.slots] at h1 h2 h3 h4 h5 X hn hPc ⊢
  obtain ⟨m9, methY, cY, hn9, hmY, hcY, -, hlY, -⟩ := Cond.codeWith_spec h2
  cases Option.some.inj (hn9.symm.trans hn)
  obtain ⟨kY, hkY, -⟩ := className_of_methodNamed hn
  have hinitY : kY.init = .initialized := Cond.initialized_spec (findClass_of_methodNamed hn) hkY h3
  have h : At U g.method c below := by rw [hg]; exact X.here
  have hlocals9 : W9 + (maxL + 11) + (headSpec ws rm).room.locals ≤ R.locals := hlocals
  have happ : (headSpec ws rm).appliesLoose y e.platform (U.calling g mk a) = true :=
    Spec.appliesLoose_calling (g := g) h hdg hn hkY hinitY
      (X.room_calling (g := g) (R' := (headSpec ws rm).room) hsize hmY hcY hframes (by rw [hlY]; omega) h4 h5) h1
  obtain ⟨mid, hmid⟩ := h.above
  have hfr : (U.setTop g).frames = (.java g :: mid) ++ below := by rw [State.frames_setTop' g h.top, hmid]; rfl
  obtain ⟨o, s₂, hsteps, -, hend, hq⟩ := Steps.callFree hM p X.admits X.cas X.clock (acts := []) hfr happ hPc trivial
  have hq' : vx_Q Qc XC mc ms free a (U.calling g mk a) o s₂ := hq
  rw [State.frames_setTop' g h.top] at hend
  obtain ⟨g₀, hg0⟩ := Option.isSome_iff_exists.mp h.top
  obtain ⟨r, hr⟩ := State.topJava?_eq_some.mp hg0
  have hr' : (({ U with heap := s₂.heap, slotsUsed := s₂.slotsUsed } : State).setVm s₂.vm).frames = .java g₀ :: r := hr
  rcases hq' with ⟨hqc, L, hfe, hL⟩ | ⟨q, rfl, E, ce, L, hx, hce, hcv, hcl, hW₂, hsm, hL⟩
  · obtain ⟨⟨v, rfl⟩, hW₂, e2, q2, q3, q4, q5, q6⟩ := id hfe
    have e3 : s₂ = ({ (U.calling g mk a).setFrames s₂.frames with heap := s₂.heap, slotsUsed := s₂.slotsUsed } : State).setVm s₂.vm := by
      have : s₂ = ({ s₂ with vm := (U.calling g mk a).vm } : State).setVm s₂.vm := rfl
      rw [e2] at this
      exact this
    obtain ⟨c₂, i₂, len₂, hc₂, hd₂, hf₂⟩ := hend
    have hW' : U.WarmedH s₂.vm := hW₂
    have hcc : c₂ = c := by
      have h1 : s₂.code? g.method = U.code? g.method := by
        rw [State.code?_eq, State.code?_eq, hW'.alike.method?]
      exact Option.some.inj (hc₂.symm.trans (h1.trans h.code))
    subst hcc
    have hlen : len₂ = len := by rw [hdg] at hd₂; cases hd₂; rfl
    subst hlen
    have hs₂ : s₂ = (({ U with heap := s₂.heap, slotsUsed := s₂.slotsUsed } : State).setVm s₂.vm).setTop { g with pc := g.pc + len₂, stack := v.toList ++ g.stack } := by
      refine e3.trans ?_
      rw [hf₂, State.calling_eq h.top, State.setFrames_setFrames, State.setTop_of_frames _ hr', hr]
      rfl
    have hsame : U.sameButNew ({ U with heap := s₂.heap, slotsUsed := s₂.slotsUsed } : State) L mc ms := by
      refine ⟨?_, q2, q3, q4, q5, q6⟩
      obtain ⟨t, ht, -⟩ := State.frames_cons hr
      show ({ U with heap := s₂.heap, slotsUsed := s₂.slotsUsed } : State) = { U.setFrames U.frames with heap := s₂.heap, slotsUsed := s₂.slotsUsed }
      rw [State.setFrames_self ht]
    subst hg
    refine Or.inl ⟨v, ⟨(({ U with heap := s₂.heap, slotsUsed := s₂.slotsUsed } : State).setVm s₂.vm), Ls ++ L, c0 + mc, s0 + ms⟩,
      ⟨X.admits, X.cas, X.clock, X.frames, X.room, X.hears, X.method, X.code, (X.here.setHeapUsed s₂.heap s₂.slotsUsed).setVm hW'.alike, X.tail, State.WarmedH.trans X.warmed hW', X.limits, X.bytes, X.same.trans (hsame.setVm s.vm)⟩,
      ⟨g, mk, s₂, L, rfl, rfl, hqc, rfl, hL, rfl, rfl⟩, ?_⟩
    show Steps p.tables e below _ ((({ U with heap := s₂.heap, slotsUsed := s₂.slotsUsed } : State).setVm s₂.vm).setTop { g with pc := g.pc + len₂, stack := v.toList ++ g.stack })
    rw [← hs₂]
    exact hsteps
  · obtain ⟨e2, q2, q3, q4, q5, q6⟩ := id hsm
    have e3 : s₂ = ({ (U.calling g mk a).setFrames s₂.frames with heap := s₂.heap, slotsUsed := s₂.slotsUsed } : State).setVm s₂.vm := by
      have : s₂ = ({ s₂ with vm := (U.calling g mk a).vm } : State).setVm s₂.vm := rfl
      rw [e2] at this
      exact this
    have hf₂ : s₂.frames = .throwing q :: .java g :: U.frames.tail := hend
    have hW' : U.WarmedH s₂.vm := hW₂
    have hs₂ : s₂ = ((({ U with heap := s₂.heap, slotsUsed := s₂.slotsUsed } : State).setVm s₂.vm).setTop g).pushFrame (.throwing q) := by
      refine e3.trans ?_
      rw [hf₂, State.calling_eq h.top, State.setFrames_setFrames, State.pushFrame, State.frames_setTop _ hr', State.setTop_of_frames _ hr', State.setFrames_setFrames, hr]
      rfl
    have hsame : U.sameButNew ({ U with heap := s₂.heap, slotsUsed := s₂.slotsUsed } : State) L mc ms := by
      refine ⟨?_, q2, q3, q4, q5, q6⟩
      obtain ⟨t, ht, -⟩ := State.frames_cons hr
      show ({ U with heap := s₂.heap, slotsUsed := s₂.slotsUsed } : State) = { U.setFrames U.frames with heap := s₂.heap, slotsUsed := s₂.slotsUsed }
      rw [State.setFrames_self ht]
    subst hg
    refine Or.inr ⟨q, ⟨(({ U with heap := s₂.heap, slotsUsed := s₂.slotsUsed } : State).setVm s₂.vm), Ls ++ L, c0 + mc, s0 + ms⟩,
      ⟨X.admits, X.cas, X.clock, X.frames, X.room, X.hears, X.method, X.code, (X.here.setHeapUsed s₂.heap s₂.slotsUsed).setVm hW'.alike, X.tail, State.WarmedH.trans X.warmed hW', X.limits, X.bytes, X.same.trans (hsame.setVm s.vm)⟩,
      ⟨g, mk, s₂, L, E, ce, rfl, rfl, hx, hce, hcv, hcl, rfl, hL, rfl, rfl⟩, ?_⟩
    show Steps p.tables e below _ (((({ U with heap := s₂.heap, slotsUsed := s₂.slotsUsed } : State).setVm s₂.vm).setTop g).pushFrame (.throwing q))
    rw [← hs₂]
    exact hsteps
end
variable {p : Program} {l : Launch} {e : Env} {R : Room} {s : State} {m : MethodId} {args : Array Value} {below : List Frame} {meth : Method} {c : Code} {T : State} {H : Heap} {locs : List Loc} {cells slots : Nat}
theorem vx_callVX (X : Stand p l e R s m args below meth c T locs cells slots) (hexec : p.tables.exec = Jvm.exec) {own C : String} {index : Nat} {y : MethodName} {bytes : ByteArray} {maxL : Nat} {ret : Option FieldType} {hh : List (Nat × Nat × Nat × Nat)}
    (hown : s.vm.findClass own = some m.cls) (hlink : (Cond.methodLink own index y).before args s = true) (hinst : (Cond.instanceMethod y).before args s = true) (hsel : (Cond.selects C y y).before args s = true)
    (hcode : (Cond.codeWith y bytes maxL ret hh).before args s = true) (hy : y.cls ≠ "java/lang/invoke/MethodHandle" ∧ y.cls ≠ "java/lang/invoke/VarHandle")
    {W9 : Nat} {Pre : Pt → Array Value → Prop} {Post : Pt → Array Value → Option Value → Pt → Prop} {PostX : Pt → Array Value → Addr → Pt → Prop} (hK : vx_Back l R p e below s args y 3 W9 Pre Post PostX)
    {b : Addr} {cellB : Cell} (hcell : T.heap[b]? = some cellB) (hobj : cellB.vm.isStatics = false) (hcls : s.vm.findClass C = some cellB.cls)
    {g : JFrame} (hg : g.method = m) (hsize : g.locals.size = c.maxLocals) {argsL rest : List Value} (hlen : ∀ sig, parseMethodDescriptor y.desc = some sig → argsL.length = sig.parameters.length)
    (hstack : g.stack = argsL.reverse ++ .ref b :: rest) (hW : 2 * g.monitorRoom + (rest.map fun v => v.category).sum ≤ W9) (hdg : decode c.code g.pc = .ok (.invokevirtual index, 3))
    (hpre : ∀ vm₁, s.WarmedH vm₁ → Pre ⟨T.setVm vm₁, locs, cells, slots⟩ (Value.ref b :: argsL).toArray) :
    (∃ (v : Option Value) (vm₁ : Vm) (B : Pt), s.WarmedH vm₁ ∧ Stand p l e R s m args below meth c B.U B.locs B.cells B.slots ∧ Post ⟨T.setVm vm₁, locs, cells, slots⟩ (Value.ref b :: argsL).toArray v B ∧
      ∀ target, Steps p.tables e below (B.U.setTop { g with pc := g.pc + 3, stack := v.toList ++ rest }) target → Steps p.tables e below (T.setTop g) target) ∨
    (∃ (q : Addr) (vm₁ : Vm) (B : Pt), s.WarmedH vm₁ ∧ Stand p l e R s m args below meth c B.U B.locs B.cells B.slots ∧ PostX ⟨T.setVm vm₁, locs, cells, slots⟩ (Value.ref b :: argsL).toArray q B ∧
      Steps p.tables e below (T.setTop g) ((B.U.setTop { g with stack := rest }).pushFrame (.throwing q))) := by
  obtain ⟨mk, methM, hnamed, hmethM, hstM, habM⟩ := Cond.instanceMethod_spec hinst
  obtain ⟨m8, methM', cM, hn8, hmethM', -, -, -, -, -, -, hsigM⟩ := Cond.codeWith_spec hcode
  cases Option.some.inj (hn8.symm.trans hnamed)
  cases hmethM.symm.trans hmethM'
  obtain ⟨c2, r2, m2, q1, q2, q3, q4, kP, hkP, hkPi⟩ := Cond.selects_spec hsel
  cases hcls.symm.trans q1
  cases (State.methodFound?_of_named hnamed hy).symm.trans q2
  cases hnamed.symm.trans q3
  have hselP : selectMethod e.platform s.vm cellB.cls mk = .method mk := by rw [Launch.admits_selectMethod X.admits]; exact q4
  obtain ⟨vm₁, X₁, hstep₁⟩ := X.invokevirtual hexec hown hlink hnamed hmethM hstM hkP hkPi hy (a := b) (cell := cellB) hcell
    (fun z h => by rw [h] at hobj; cases hobj) hselP hmethM habM hkP hkPi (g := g) hg (argsL := argsL) (rest := rest) (hlen _ hsigM) hstack hdg
  rcases hK m meth c ⟨T.setVm vm₁, locs, cells, slots⟩ { g with stack := rest } (.invokevirtual index) mk (Value.ref b :: argsL).toArray X₁ hg hsize hdg hW (X₁.named hnamed) (hpre vm₁ X₁.warmed) with ⟨v, B, X', hpost, hsteps⟩ | ⟨q, B, X', hpost, hsteps⟩
  · exact Or.inl ⟨v, vm₁, B, X₁.warmed, X', hpost, fun target h => hstep₁ _ fun acts => by rw [doInvoke_state]; exact hsteps.trans h⟩
  · exact Or.inr ⟨q, vm₁, B, X₁.warmed, X', hpost, hstep₁ _ fun acts => by rw [doInvoke_state]; exact hsteps⟩
theorem vx_callSX (X : Stand p l e R s m args below meth c T locs cells slots) (hexec : p.tables.exec = Jvm.exec) {own : String} {index : Nat} {y : MethodName} {bytes : ByteArray} {maxL : Nat} {ret : Option FieldType} {hh : List (Nat × Nat × Nat × Nat)}
    (hown : s.vm.findClass own = some m.cls) (hlink : (Cond.methodLink own index y).before args s = true) (hstat : (Cond.static y).before args s = true) (hinit : (Cond.initialized y.cls).before args s = true)
    (hcode : (Cond.codeWith y bytes maxL ret hh).before args s = true) (hy : y.cls ≠ "java/lang/invoke/MethodHandle" ∧ y.cls ≠ "java/lang/invoke/VarHandle")
    {W9 : Nat} {Pre : Pt → Array Value → Prop} {Post : Pt → Array Value → Option Value → Pt → Prop} {PostX : Pt → Array Value → Addr → Pt → Prop} (hK : vx_Back l R p e below s args y 3 W9 Pre Post PostX)
    {g : JFrame} (hg : g.method = m) (hsize : g.locals.size = c.maxLocals) {argsL rest : List Value} (hlen : ∀ sig, parseMethodDescriptor y.desc = some sig → argsL.length = sig.parameters.length)
    (hstack : g.stack = argsL.reverse ++ rest) (hW : 2 * g.monitorRoom + (rest.map fun v => v.category).sum ≤ W9) (hdg : decode c.code g.pc = .ok (.invokestatic index, 3))
    (hpre : ∀ vm₁, s.WarmedH vm₁ → Pre ⟨T.setVm vm₁, locs, cells, slots⟩ argsL.toArray) :
    (∃ (v : Option Value) (vm₁ : Vm) (B : Pt), s.WarmedH vm₁ ∧ Stand p l e R s m args below meth c B.U B.locs B.cells B.slots ∧ Post ⟨T.setVm vm₁, locs, cells, slots⟩ argsL.toArray v B ∧
      ∀ target, Steps p.tables e below (B.U.setTop { g with pc := g.pc + 3, stack := v.toList ++ rest }) target → Steps p.tables e below (T.setTop g) target) ∨
    (∃ (q : Addr) (vm₁ : Vm) (B : Pt), s.WarmedH vm₁ ∧ Stand p l e R s m args below meth c B.U B.locs B.cells B.slots ∧ PostX ⟨T.setVm vm₁, locs, cells, slots⟩ argsL.toArray q B ∧
      Steps p.tables e below (T.setTop g) ((B.U.setTop { g with stack := rest }).pushFrame (.throwing q))) := by
  obtain ⟨mk, methM, cM, hnamed, hmethM, -, -, -, -, -, -, hsigM⟩ := Cond.codeWith_spec hcode
  have hstatic : methM.isStatic = true := Cond.static_spec hnamed hmethM hstat
  obtain ⟨kP, hkP, -⟩ := className_of_methodNamed hnamed
  have hinitP : kP.init = .initialized := Cond.initialized_spec (findClass_of_methodNamed hnamed) hkP hinit
  obtain ⟨vm₁, X₁, hstep₁⟩ := X.invokestatic hexec hown hlink hnamed hmethM hstatic hkP hinitP hy (g := g) hg (argsL := argsL) (rest := rest) (hlen _ hsigM) hstack hdg
  rcases hK m meth c ⟨T.setVm vm₁, locs, cells, slots⟩ { g with stack := rest } (.invokestatic index) mk argsL.toArray X₁ hg hsize hdg hW (X₁.named hnamed) (hpre vm₁ X₁.warmed) with ⟨v, B, X', hpost, hsteps⟩ | ⟨q, B, X', hpost, hsteps⟩
  · exact Or.inl ⟨v, vm₁, B, X₁.warmed, X', hpost, fun target h => hstep₁ _ fun acts => by rw [doInvoke_state]; exact hsteps.trans h⟩
  · exact Or.inr ⟨q, vm₁, B, X₁.warmed, X', hpost, hstep₁ _ fun acts => by rw [doInvoke_state]; exact hsteps⟩
theorem vx_callVW (X : Stand p l e R s m args below meth c T locs cells slots) (hexec : p.tables.exec = Jvm.exec) {own C : String} {index : Nat} {y : MethodName} {bytes : ByteArray} {maxL : Nat} {ret : Option FieldType} {hh : List (Nat × Nat × Nat × Nat)}
    (hown : s.vm.findClass own = some m.cls) (hlink : (Cond.methodLink own index y).before args s = true) (hinst : (Cond.instanceMethod y).before args s = true) (hsel : (Cond.selects C y y).before args s = true)
    (hcode : (Cond.codeWith y bytes maxL ret hh).before args s = true) (hy : y.cls ≠ "java/lang/invoke/MethodHandle" ∧ y.cls ≠ "java/lang/invoke/VarHandle")
    {W9 : Nat} {Pre : Pt → Array Value → Prop} {Post : Pt → Array Value → Option Value → Pt → Prop} (hK : Back l R p e below s args y 3 W9 Pre Post)
    {b : Addr} {cellB : Cell} (hcell : T.heap[b]? = some cellB) (hobj : cellB.vm.isStatics = false) (hcls : s.vm.findClass C = some cellB.cls)
    {g : JFrame} (hg : g.method = m) (hsize : g.locals.size = c.maxLocals) {argsL rest : List Value} (hlen : ∀ sig, parseMethodDescriptor y.desc = some sig → argsL.length = sig.parameters.length)
    (hstack : g.stack = argsL.reverse ++ .ref b :: rest) (hW : 2 * g.monitorRoom + (rest.map fun v => v.category).sum ≤ W9) (hdg : decode c.code g.pc = .ok (.invokevirtual index, 3))
    (hpre : ∀ vm₁, s.WarmedH vm₁ → Pre ⟨T.setVm vm₁, locs, cells, slots⟩ (Value.ref b :: argsL).toArray) :
    ∃ (v : Option Value) (vm₁ : Vm) (B : Pt), s.WarmedH vm₁ ∧ Stand p l e R s m args below meth c B.U B.locs B.cells B.slots ∧ Post ⟨T.setVm vm₁, locs, cells, slots⟩ (Value.ref b :: argsL).toArray v B ∧
      ∀ target, Steps p.tables e below (B.U.setTop { g with pc := g.pc + 3, stack := v.toList ++ rest }) target → Steps p.tables e below (T.setTop g) target := by
  obtain ⟨mk, methM, hnamed, hmethM, hstM, habM⟩ := Cond.instanceMethod_spec hinst
  obtain ⟨m8, methM', cM, hn8, hmethM', -, -, -, -, -, -, hsigM⟩ := Cond.codeWith_spec hcode
  cases Option.some.inj (hn8.symm.trans hnamed)
  cases hmethM.symm.trans hmethM'
  obtain ⟨c2, r2, m2, q1, q2, q3, q4, kP, hkP, hkPi⟩ := Cond.selects_spec hsel
  cases hcls.symm.trans q1
  cases (State.methodFound?_of_named hnamed hy).symm.trans q2
  cases hnamed.symm.trans q3
  have hselP : selectMethod e.platform s.vm cellB.cls mk = .method mk := by rw [Launch.admits_selectMethod X.admits]; exact q4
  obtain ⟨vm₁, X₁, hstep₁⟩ := X.invokevirtual hexec hown hlink hnamed hmethM hstM hkP hkPi hy (a := b) (cell := cellB) hcell
    (fun z h => by rw [h] at hobj; cases hobj) hselP hmethM habM hkP hkPi (g := g) hg (argsL := argsL) (rest := rest) (hlen _ hsigM) hstack hdg
  obtain ⟨v, B, X', hpost, hsteps⟩ := hK m meth c ⟨T.setVm vm₁, locs, cells, slots⟩ { g with stack := rest } (.invokevirtual index) mk (Value.ref b :: argsL).toArray X₁ hg hsize hdg hW (X₁.named hnamed) (hpre vm₁ X₁.warmed)
  exact ⟨v, vm₁, B, X₁.warmed, X', hpost, fun target h => hstep₁ _ fun acts => by rw [doInvoke_state]; exact hsteps.trans h⟩
abbrev vx_CVW (R : Room) (s : State) (args : Array Value) (own C : String) (index : Nat) (y : MethodName) (bytes : ByteArray) (maxL : Nat) (ret : Option FieldType) (hh : List (Nat × Nat × Nat × Nat)) (ws : List Cond) (rm : Room) (mc ms n : Nat) : Prop :=
  (rm.cells = mc ∧ rm.slots = ms ∧ rm.frames + 1 ≤ R.frames ∧ 8 + (maxL + 11) + rm.locals ≤ R.locals ∧ (∀ w ∈ ws, ∀ (a' : Array Value) (U : State), s.WarmedH U.vm → w.before a' U = true) ∧ Cond.codeWith y bytes maxL ret hh ∈ ws) ∧
  (Cond.codeWith y bytes maxL ret hh).before args s = true ∧ (Cond.initialized y.cls).before args s = true ∧ (y.cls ≠ "java/lang/invoke/MethodHandle" ∧ y.cls ≠ "java/lang/invoke/VarHandle") ∧
  (∀ sig, parseMethodDescriptor y.desc = some sig → n = sig.parameters.length) ∧ (Cond.methodLink own index y).before args s = true ∧ (Cond.instanceMethod y).before args s = true ∧ (Cond.selects C y y).before args s = true
theorem vx_cwVW {own C : String} {index maxL mc ms : Nat} {y : MethodName} {bytes : ByteArray} {ret : Option FieldType} {hh : List (Nat × Nat × Nat × Nat)} {Ts ws ws' : List Cond} {rm : Room} (n : Nat) (ht : ∀ w ∈ Ts, w.before args s = true) (hT : GoodIn Ts (wsV own index C y ws)) (hw : ws = Cond.codeWith y bytes maxL ret hh :: ws') (hrc : rm.cells = mc) (hrs : rm.slots = ms)
    (hd : y.cls = C ∧ y.cls ≠ "java/lang/invoke/MethodHandle" ∧ y.cls ≠ "java/lang/invoke/VarHandle" ∧ (parseMethodDescriptor y.desc).map (fun d => d.parameters.length) = some n) (hR : rm.frames + 1 ≤ R.frames ∧ 8 + (maxL + 11) + rm.locals ≤ R.locals) :
    vx_CVW R s args own C index y bytes maxL ret hh ws rm mc ms n := by
  obtain ⟨hC, hd⟩ := hd
  subst hC
  have ok : ∀ w ∈ wsV own index y.cls y ws, w.before args s = true := fun w h => ht w (hT w h).1
  have hG : GoodIn Ts ws := fun w h => hT w (by unfold wsV; exact List.mem_append_right _ h)
  have hc : Cond.codeWith y bytes maxL ret hh ∈ ws := by rw [hw]; exact List.mem_cons_self
  refine ⟨⟨hrc, hrs, hR.1, hR.2, pay_in ht hG, hc⟩, ht _ (hG _ hc).1, ok _ (by simp [wsV]), ⟨hd.1, hd.2.1⟩, fun sig h => ?_, ok _ (by simp [wsV]), ok _ (by simp [wsV]), ok _ (by simp [wsV])⟩
  have h2 := hd.2.2
  rw [h] at h2
  exact (Option.some.inj h2).symm
theorem vx_runVW {y : MethodName} {bytes cc : ByteArray} {maxL nL mc ms n index : Nat} {ret : Option FieldType} {hh : List (Nat × Nat × Nat × Nat)} {ws : List Cond} {rm : Room} {Pc : Array Value → State → Prop} {Qc : Array Value → State → Outcome → State → Prop} {free : Addr → Prop} {Ts : List Cond} {own C : String} {b : Addr} {As rest : List Value} {g : JFrame}
    (S : CallFix p m c cc nL s args Ts own) (hM : Met l y ws rm Pc Qc mc ms free) (cw : vx_CVW R s args own C index y bytes maxL ret hh ws rm mc ms n) (hp : PreV s H C b Pc As)
    (hg : g.method = m) (hn : As.length = n) (hsize : g.locals.size = nL) (hstack : g.stack = As.reverse ++ .ref b :: rest) (hW : 2 * g.monitorRoom + (rest.map fun v => v.category).sum ≤ 8) (hdg : decode cc g.pc = .ok (.invokevirtual index, 3)) (hf : cells + mc ≤ R.cells ∧ slots + ms ≤ R.slots) :
    va_Run p l e R s m args below meth c H locs cells slots mc ms g rest (Qc (Value.ref b :: As).toArray) free := by
  obtain ⟨⟨hrc, hrs, hfr, hlo, hws, hcw⟩, hcode, hini, hy, hlen, hl, hin, hse⟩ := cw
  have hK : Back l R p e below s args y 3 8 (PreOf R mc ms Pc) (PostOf Qc mc ms free) := va_backW (hh := hh) (bytes := bytes) (maxL := maxL) (ret := ret) hM hp.1 hrc hrs hfr hlo hws hcw (fun a' U hW => word_at hW (Or.inl (by first | rfl | simp [Cond.onTables, Cond.keeps, Cond.steady])) hini)
  obtain ⟨hx, hb, hml, ho, -⟩ := S
  obtain ⟨-, ⟨cellB, hcB, hoB, hclB⟩, hPc⟩ := hp
  intro T hT X
  obtain ⟨v, vm₁, ⟨U', l2, c2, s2⟩, hW₁, X', ⟨g', mk, t, L, e1, e2, hq, h1, hL, h2, h3⟩, st⟩ := vx_callVW X hx (C := C) (hh := hh) (bytes := bytes) (maxL := maxL) (ret := ret) ho hl hin hse hcode hy hK (by rw [hT]; exact hcB) hoB hclB hg (hsize.trans hml.symm) (argsL := As) (rest := rest) (fun sig h => hn.trans (hlen sig h)) hstack hW (by rw [hb]; exact hdg)
    (fun vm₁ hW₁ => ⟨hf.1, hf.2, hPc (T.setVm vm₁) hT hW₁⟩)
  dsimp only [Pt.U, Pt.locs, Pt.cells, Pt.slots] at X' e1 e2 h1 h2 h3 st
  subst h1; subst h2; subst h3
  exact ⟨v, (T.setVm vm₁).calling g' mk (Value.ref b :: As).toArray, t, U', L, hT, X', hL, e1, e2, hq, st⟩
section
variable {y : MethodName} {bytes cc : ByteArray} {maxL nL mc ms n index : Nat} {ret : Option FieldType} {ws : List Cond} {rm : Room} {Pc : Array Value → State → Prop} {Qc : Array Value → State → Outcome → State → Prop} {XC : String → State → State → Prop} {free : Addr → Prop} {Ts : List Cond} {own C : String} {b : Addr} {As rest : List Value} {g : JFrame}
theorem vx_runVX {hh : List (Nat × Nat × Nat × Nat)} (S : CallFix p m c cc nL s args Ts own) (hM : vx_Met l y ws rm Pc Qc XC mc ms free) (cw : vx_CVW R s args own C index y bytes maxL ret hh ws rm mc ms n) (hp : PreV s H C b Pc As)
    (hg : g.method = m) (hn : As.length = n) (hsize : g.locals.size = nL) (hstack : g.stack = As.reverse ++ .ref b :: rest) (hW : 2 * g.monitorRoom + (rest.map fun v => v.category).sum ≤ 8) (hdg : decode cc g.pc = .ok (.invokevirtual index, 3)) (hf : cells + mc ≤ R.cells ∧ slots + ms ≤ R.slots) :
    vx_Run p l e R s m args below meth c H locs cells slots mc ms g rest (Qc (Value.ref b :: As).toArray) XC free := by
  obtain ⟨⟨hrc, hrs, hfr, hlo, hws, hcw⟩, hcode, hini, hy, hlen, hl, hin, hse⟩ := cw
  have hK : vx_Back l R p e below s args y 3 8 (PreOf R mc ms Pc) (PostOf Qc mc ms free) (vx_Post XC mc ms free) := vx_backW (hh := hh) (bytes := bytes) (maxL := maxL) (ret := ret) hM hp.1 hrc hrs hfr hlo hws hcw (fun a' U hW => word_at hW (Or.inl (by first | rfl | simp [Cond.onTables, Cond.keeps, Cond.steady])) hini)
  obtain ⟨hx, hb, hml, ho, -⟩ := S
  obtain ⟨-, ⟨cellB, hcB, hoB, hclB⟩, hPc⟩ := hp
  intro T hT X
  rcases vx_callVX X hx (C := C) (hh := hh) (bytes := bytes) (maxL := maxL) (ret := ret) ho hl hin hse hcode hy hK (by rw [hT]; exact hcB) hoB hclB hg (hsize.trans hml.symm) (argsL := As) (rest := rest) (fun sig h => hn.trans (hlen sig h)) hstack hW (by rw [hb]; exact hdg)
    (fun vm₁ hW₁ => ⟨hf.1, hf.2, hPc (T.setVm vm₁) hT hW₁⟩) with ⟨v, vm₁, ⟨U', l2, c2, s2⟩, hW₁, X', ⟨g', mk, t, L, e1, e2, hq, h1, hL, h2, h3⟩, st⟩ | ⟨q, vm₁, ⟨U', l2, c2, s2⟩, hW₁, X', ⟨g', mk, t, L, E, ce, e1, e2, hq, hce, hcv, hcl, h1, hL, h2, h3⟩, st⟩
  · dsimp only [Pt.U, Pt.locs, Pt.cells, Pt.slots] at X' e1 e2 h1 h2 h3 st
    subst h1; subst h2; subst h3
    exact Or.inl ⟨v, (T.setVm vm₁).calling g' mk (Value.ref b :: As).toArray, t, U', L, hT, X', hL, e1, e2, hq, st⟩
  · dsimp only [Pt.U, Pt.locs, Pt.cells, Pt.slots] at X' e1 e2 h1 h2 h3 st hcl
    subst h1; subst h2; subst h3
    exact Or.inr ⟨q, (T.setVm vm₁).calling g' mk (Value.ref b :: As).toArray, t, U', L, E, ce, hT, X', hL, e1, e2, hq, hce, hcv, vx_cls hW₁ hcl, st⟩
theorem vx_runSX {hh : List (Nat × Nat × Nat × Nat)} (S : CallFix p m c cc nL s args Ts own) (hM : vx_Met l y ws rm Pc Qc XC mc ms free) (cw : vx_CSW R s args own index y bytes maxL ret hh ws rm mc ms n) (hp : PreS s H Pc As)
    (hg : g.method = m) (hn : As.length = n) (hsize : g.locals.size = nL) (hstack : g.stack = As.reverse ++ rest) (hW : 2 * g.monitorRoom + (rest.map fun v => v.category).sum ≤ 8) (hdg : decode cc g.pc = .ok (.invokestatic index, 3)) (hf : cells + mc ≤ R.cells ∧ slots + ms ≤ R.slots) :
    vx_Run p l e R s m args below meth c H locs cells slots mc ms g rest (Qc As.toArray) XC free := by
  obtain ⟨⟨hrc, hrs, hfr, hlo, hws, hcw⟩, hcode, hini, hy, hlen, hl, hstt⟩ := cw
  have hK : vx_Back l R p e below s args y 3 8 (PreOf R mc ms Pc) (PostOf Qc mc ms free) (vx_Post XC mc ms free) := vx_backW (hh := hh) (bytes := bytes) (maxL := maxL) (ret := ret) hM hp.1 hrc hrs hfr hlo hws hcw (fun a' U hW => word_at hW (Or.inl (by first | rfl | simp [Cond.onTables, Cond.keeps, Cond.steady])) hini)
  obtain ⟨hx, hb, hml, ho, -⟩ := S
  intro T hT X
  rcases vx_callSX X hx (hh := hh) (bytes := bytes) (maxL := maxL) (ret := ret) ho hl hstt hini hcode hy hK hg (hsize.trans hml.symm) (argsL := As) (rest := rest) (fun sig h => hn.trans (hlen sig h)) hstack hW (by rw [hb]; exact hdg)
    (fun vm₁ hW₁ => ⟨hf.1, hf.2, hp.2 (T.setVm vm₁) hT hW₁⟩) with ⟨v, vm₁, ⟨U', l2, c2, s2⟩, hW₁, X', ⟨g', mk, t, L, e1, e2, hq, h1, hL, h2, h3⟩, st⟩ | ⟨q, vm₁, ⟨U', l2, c2, s2⟩, hW₁, X', ⟨g', mk, t, L, E, ce, e1, e2, hq, hce, hcv, hcl, h1, hL, h2, h3⟩, st⟩
  · dsimp only [Pt.U, Pt.locs, Pt.cells, Pt.slots] at X' e1 e2 h1 h2 h3 st
    subst h1; subst h2; subst h3
    exact Or.inl ⟨v, (T.setVm vm₁).calling g' mk As.toArray, t, U', L, hT, X', hL, e1, e2, hq, st⟩
  · dsimp only [Pt.U, Pt.locs, Pt.cells, Pt.slots] at X' e1 e2 h1 h2 h3 st hcl
    subst h1; subst h2; subst h3
    exact Or.inr ⟨q, (T.setVm vm₁).calling g' mk As.toArray, t, U', L, E, ce, hT, X', hL, e1, e2, hq, hce, hcv, vx_cls hW₁ hcl, st⟩
end
end VXH
theorem vx_ofWH {l : Launch} {y : MethodName} {ws ws' : List Cond} {rm : Room} {Pc : Array Value → State → Prop} {Qc : Array Value → State → Outcome → State → Prop} {XC : String → State → State → Prop} {mc ms : Nat} {free : Addr → Prop} {cc : ByteArray} {maxL : Nat} {ret : Option FieldType} {hh : List (Nat × Nat × Nat × Nat)}
    (hy : plainName y.cls = true) (hw : ws = Cond.codeWith y cc maxL ret hh :: ws')
    (body : ∀ p e s m args below meth c s₁, BodyLoose p l y (headSpec ws rm) cc maxL ret e s m args below meth c s₁ → c.maxLocals = maxL → Pc args s →
      W p l e (headSpec ws rm).room s m args below meth c s.heap [] 0 0 (vx_MQ below Qc XC args s mc ms free) (entryFrame m args maxL)) : vx_Met l y ws rm Pc Qc XC mc ms free := by
  refine MetFree.of_bodyS (code := cc) (maxLocals := maxL) (ret := ret) hy ?_ ?_
  · intro args s m h hn
    obtain ⟨m9, meth, c, hn9, h1, h2, h3, h4, -, h5, h6, -⟩ := Cond.codeWith_spec (atoms_spec (ws := ws) h _ (by rw [hw]; exact List.mem_cons_self))
    cases hn.symm.trans hn9
    exact ⟨meth, c, h1, h2, h3, h4, h5, h6⟩
  · intro p e s m args below meth c s₁ B hml hP _
    have hh0 : s₁.heap = s.heap := by rw [B.state]; rfl
    obtain ⟨t, a1, o, b1, b2, b3⟩ := body p e s m args below meth c s₁ B hml hP s₁ hh0 (Stand.of_body B)
    exact ⟨t, o, a1, b1, b2, b3⟩
/-! ===== END ===== -/

/-! ===== BEGIN printed: names, fields, word lists, decode rows ===== -/
def RX0 : String := "Groutline$Bars"
def TX0 : u_T := fun k => match k with
  | 0 => ("Groutline$Bars", "pillars", "[Z", true)
  | 1 => ("Groutline$Bars", "barred", "[Z", true)
  | _ => ("Groutline$Bars", "doorColumn", "I", false)
def tyX0 : Nat → FieldType := fun k => match k with
  | 0 => .array .boolean
  | 1 => .array .boolean
  | _ => .int
abbrev wsX00 : List Cond := u_ws RX0 TX0 3
theorem nmX0 : ∀ a, a < 3 → ∀ b, b < 3 → a ≠ b → (TX0 a).2.1 ≠ (TX0 b).2.1 := by decide +kernel
theorem tyX0_ok : ∀ k, k < 3 → parseFieldDescriptor (TX0 k).2.2.1 = some (tyX0 k) := by decide +kernel
abbrev cX0_init : ByteArray := prog_2_method_1_code
def yX0_init : MethodName := ⟨RX0, "<init>", "()V"⟩
abbrev cX0_setPillar : ByteArray := prog_2_method_2_code
def yX0_setPillar : MethodName := ⟨RX0, "setPillar", "(IIZ)Z"⟩
abbrev cX0_areAt : ByteArray := prog_2_method_3_code
def yX0_areAt : MethodName := ⟨RX0, "areAt", "(II)Z"⟩
abbrev cX0_renew : ByteArray := prog_2_method_4_code
def yX0_renew : MethodName := ⟨RX0, "renew", "(LGroutline$Layout;LGroutline$Work;)V"⟩
abbrev cX0_renewRow : ByteArray := prog_2_method_5_code
def yX0_renewRow : MethodName := ⟨RX0, "renewRow", "(I)V"⟩
abbrev cX0_isDoor : ByteArray := prog_2_method_6_code
def yX0_isDoor : MethodName := ⟨RX0, "isDoor", "(II)Z"⟩
def RX1 : String := "Groutline$Cuts"
def TX1 : u_T := fun k => match k with
  | 0 => ("Groutline$Cuts", "newTiles", "I", false)
  | 1 => ("Groutline$Cuts", "sources", "[I", true)
  | 2 => ("Groutline$Cuts", "restCount", "I", false)
  | 3 => ("Groutline$Cuts", "restWides", "[I", true)
  | 4 => ("Groutline$Cuts", "restHighs", "[I", true)
  | _ => ("Groutline$Cuts", "restMakers", "[I", true)
def tyX1 : Nat → FieldType := fun k => match k with
  | 0 => .int
  | 1 => .array .int
  | 2 => .int
  | 3 => .array .int
  | 4 => .array .int
  | _ => .array .int
abbrev wsX10 : List Cond := u_ws RX1 TX1 6
theorem nmX1 : ∀ a, a < 6 → ∀ b, b < 6 → a ≠ b → (TX1 a).2.1 ≠ (TX1 b).2.1 := by decide +kernel
theorem tyX1_ok : ∀ k, k < 6 → parseFieldDescriptor (TX1 k).2.2.1 = some (tyX1 k) := by decide +kernel
abbrev cX1_init : ByteArray := prog_3_method_1_code
def yX1_init : MethodName := ⟨RX1, "<init>", "()V"⟩
abbrev cX1_sizeOfRest : ByteArray := prog_3_method_2_code
def yX1_sizeOfRest : MethodName := ⟨RX1, "sizeOfRest", "(I)I"⟩
abbrev cX1_cutAll : ByteArray := prog_3_method_3_code
def yX1_cutAll : MethodName := ⟨RX1, "cutAll", "(LGroutline$Layout;LGroutline$Pieces;)V"⟩
abbrev cX1_hasRest : ByteArray := prog_3_method_4_code
def yX1_hasRest : MethodName := ⟨RX1, "hasRest", "(I)Z"⟩
abbrev cX1_cut : ByteArray := prog_3_method_5_code
def yX1_cut : MethodName := ⟨RX1, "cut", "(LGroutline$Layout;III)V"⟩
abbrev cX1_bestRestFor : ByteArray := prog_3_method_6_code
def yX1_bestRestFor : MethodName := ⟨RX1, "bestRestFor", "(II)I"⟩
abbrev cX1_removeRest : ByteArray := prog_3_method_7_code
def yX1_removeRest : MethodName := ⟨RX1, "removeRest", "(I)V"⟩
abbrev cX1_leave : ByteArray := prog_3_method_8_code
def yX1_leave : MethodName := ⟨RX1, "leave", "(IIIII)V"⟩
abbrev cX1_addRest : ByteArray := prog_3_method_9_code
def yX1_addRest : MethodName := ⟨RX1, "addRest", "(III)V"⟩
def RX2 : String := "Groutline$Frame"
def TX2 : u_T := fun k => match k with
  | 0 => ("Groutline$Frame", "left", "I", false)
  | 1 => ("Groutline$Frame", "right", "I", false)
  | 2 => ("Groutline$Frame", "top", "I", false)
  | _ => ("Groutline$Frame", "bottom", "I", false)
def tyX2 : Nat → FieldType := fun k => match k with
  | 0 => .int
  | 1 => .int
  | 2 => .int
  | _ => .int
abbrev wsX20 : List Cond := u_ws RX2 TX2 4
theorem nmX2 : ∀ a, a < 4 → ∀ b, b < 4 → a ≠ b → (TX2 a).2.1 ≠ (TX2 b).2.1 := by decide +kernel
theorem tyX2_ok : ∀ k, k < 4 → parseFieldDescriptor (TX2 k).2.2.1 = some (tyX2 k) := by decide +kernel
abbrev cX2_init : ByteArray := prog_4_method_1_code
def yX2_init : MethodName := ⟨RX2, "<init>", "()V"⟩
abbrev cX2_set : ByteArray := prog_4_method_2_code
def yX2_set : MethodName := ⟨RX2, "set", "(IIII)V"⟩
def RX3 : String := "Groutline$Layout"
def TX3 : u_T := fun k => match k with
  | 0 => ("Groutline$Layout", "wide", "I", false)
  | 1 => ("Groutline$Layout", "high", "I", false)
  | 2 => ("Groutline$Layout", "border", "I", false)
  | _ => ("Groutline$Layout", "pattern", "I", false)
def tyX3 : Nat → FieldType := fun k => match k with
  | 0 => .int
  | 1 => .int
  | 2 => .int
  | _ => .int
abbrev wsX30 : List Cond := u_ws RX3 TX3 4
theorem nmX3 : ∀ a, a < 4 → ∀ b, b < 4 → a ≠ b → (TX3 a).2.1 ≠ (TX3 b).2.1 := by decide +kernel
theorem tyX3_ok : ∀ k, k < 4 → parseFieldDescriptor (TX3 k).2.2.1 = some (tyX3 k) := by decide +kernel
abbrev cX3_init : ByteArray := prog_5_method_1_code
def yX3_init : MethodName := ⟨RX3, "<init>", "()V"⟩
abbrev cX3_set : ByteArray := prog_5_method_2_code
def yX3_set : MethodName := ⟨RX3, "set", "(IIII)V"⟩
abbrev cX3_isBorder : ByteArray := prog_5_method_3_code
def yX3_isBorder : MethodName := ⟨RX3, "isBorder", "(II)Z"⟩
abbrev cX3_rightBorder : ByteArray := prog_5_method_4_code
def yX3_rightBorder : MethodName := ⟨RX3, "rightBorder", "()I"⟩
abbrev cX3_lowerBorder : ByteArray := prog_5_method_5_code
def yX3_lowerBorder : MethodName := ⟨RX3, "lowerBorder", "()I"⟩
abbrev cX3_courseOfRow : ByteArray := prog_5_method_6_code
def yX3_courseOfRow : MethodName := ⟨RX3, "courseOfRow", "(I)I"⟩
abbrev cX3_countCourses : ByteArray := prog_5_method_7_code
def yX3_countCourses : MethodName := ⟨RX3, "countCourses", "()I"⟩
abbrev cX3_countStrips : ByteArray := prog_5_method_8_code
def yX3_countStrips : MethodName := ⟨RX3, "countStrips", "()I"⟩
abbrev cX3_hasStrip : ByteArray := prog_5_method_9_code
def yX3_hasStrip : MethodName := ⟨RX3, "hasStrip", "(I)Z"⟩
abbrev cX3_stripOfRow : ByteArray := prog_5_method_10_code
def yX3_stripOfRow : MethodName := ⟨RX3, "stripOfRow", "(I)I"⟩
abbrev cX3_frame : ByteArray := prog_5_method_11_code
def yX3_frame : MethodName := ⟨RX3, "frame", "(IILGroutline$Frame;)V"⟩
def RX4 : String := "Groutline$Pieces"
def TX4 : u_T := fun k => match k with
  | 0 => ("Groutline$Pieces", "count", "I", false)
  | 1 => ("Groutline$Pieces", "ofCells", "[I", true)
  | 2 => ("Groutline$Pieces", "kinds", "[I", true)
  | 3 => ("Groutline$Pieces", "columns", "[I", true)
  | 4 => ("Groutline$Pieces", "rows", "[I", true)
  | 5 => ("Groutline$Pieces", "sizes", "[I", true)
  | 6 => ("Groutline$Pieces", "boxWides", "[I", true)
  | 7 => ("Groutline$Pieces", "boxHighs", "[I", true)
  | _ => ("Groutline$Pieces", "frame", "LGroutline$Frame;", true)
def tyX4 : Nat → FieldType := fun k => match k with
  | 0 => .int
  | 1 => .array .int
  | 2 => .array .int
  | 3 => .array .int
  | 4 => .array .int
  | 5 => .array .int
  | 6 => .array .int
  | 7 => .array .int
  | _ => .object "Groutline$Frame"
abbrev wsX40 : List Cond := u_ws RX4 TX4 9
theorem nmX4 : ∀ a, a < 9 → ∀ b, b < 9 → a ≠ b → (TX4 a).2.1 ≠ (TX4 b).2.1 := by decide +kernel
theorem tyX4_ok : ∀ k, k < 9 → parseFieldDescriptor (TX4 k).2.2.1 = some (tyX4 k) := by decide +kernel
abbrev cX4_init : ByteArray := prog_6_method_1_code
def yX4_init : MethodName := ⟨RX4, "<init>", "()V"⟩
abbrev cX4_has : ByteArray := prog_6_method_2_code
def yX4_has : MethodName := ⟨RX4, "has", "(I)Z"⟩
abbrev cX4_find : ByteArray := prog_6_method_3_code
def yX4_find : MethodName := ⟨RX4, "find", "(LGroutline$Layout;LGroutline$Bars;)V"⟩
abbrev cX4_add : ByteArray := prog_6_method_4_code
def yX4_add : MethodName := ⟨RX4, "add", "(LGroutline$Layout;LGroutline$Bars;II)V"⟩
abbrev cX4_measure : ByteArray := prog_6_method_5_code
def yX4_measure : MethodName := ⟨RX4, "measure", "(LGroutline$Bars;I)V"⟩
def RX5 : String := "Groutline$Stack"
def TX5 : u_T := fun k => match k with
  | 0 => ("Groutline$Stack", "count", "I", false)
  | 1 => ("Groutline$Stack", "moved", "I", false)
  | 2 => ("Groutline$Stack", "crateFloors", "[I", true)
  | _ => ("Groutline$Stack", "crateTiles", "[I", true)
def tyX5 : Nat → FieldType := fun k => match k with
  | 0 => .int
  | 1 => .int
  | 2 => .array .int
  | _ => .array .int
abbrev wsX50 : List Cond := u_ws RX5 TX5 4
theorem nmX5 : ∀ a, a < 4 → ∀ b, b < 4 → a ≠ b → (TX5 a).2.1 ≠ (TX5 b).2.1 := by decide +kernel
theorem tyX5_ok : ∀ k, k < 4 → parseFieldDescriptor (TX5 k).2.2.1 = some (tyX5 k) := by decide +kernel
abbrev cX5_init : ByteArray := prog_7_method_1_code
def yX5_init : MethodName := ⟨RX5, "<init>", "()V"⟩
abbrev cX5_isFull : ByteArray := prog_7_method_2_code
def yX5_isFull : MethodName := ⟨RX5, "isFull", "()Z"⟩
abbrev cX5_put : ByteArray := prog_7_method_3_code
def yX5_put : MethodName := ⟨RX5, "put", "(II)V"⟩
abbrev cX5_takeTopmostFor : ByteArray := prog_7_method_4_code
def yX5_takeTopmostFor : MethodName := ⟨RX5, "takeTopmostFor", "(I)I"⟩
abbrev cX5_has : ByteArray := prog_7_method_5_code
def yX5_has : MethodName := ⟨RX5, "has", "(I)Z"⟩
abbrev cX5_remove : ByteArray := prog_7_method_6_code
def yX5_remove : MethodName := ⟨RX5, "remove", "(I)V"⟩
def RX6 : String := "Groutline$Work"
def TX6 : u_T := fun k => match k with
  | 0 => ("Groutline$Work", "hour", "I", false)
  | 1 => ("Groutline$Work", "groutHours", "I", false)
  | 2 => ("Groutline$Work", "hasBegun", "Z", false)
  | 3 => ("Groutline$Work", "laid", "[Z", true)
  | _ => ("Groutline$Work", "dryHours", "[I", true)
def tyX6 : Nat → FieldType := fun k => match k with
  | 0 => .int
  | 1 => .int
  | 2 => .boolean
  | 3 => .array .boolean
  | _ => .array .int
abbrev wsX60 : List Cond := u_ws RX6 TX6 5
theorem nmX6 : ∀ a, a < 5 → ∀ b, b < 5 → a ≠ b → (TX6 a).2.1 ≠ (TX6 b).2.1 := by decide +kernel
theorem tyX6_ok : ∀ k, k < 5 → parseFieldDescriptor (TX6 k).2.2.1 = some (tyX6 k) := by decide +kernel
abbrev cX6_init : ByteArray := prog_8_method_1_code
def yX6_init : MethodName := ⟨RX6, "<init>", "()V"⟩
abbrev cX6_isLaid : ByteArray := prog_8_method_2_code
def yX6_isLaid : MethodName := ⟨RX6, "isLaid", "(I)Z"⟩
abbrev cX6_dryHourOf : ByteArray := prog_8_method_3_code
def yX6_dryHourOf : MethodName := ⟨RX6, "dryHourOf", "(I)I"⟩
abbrev cX6_canStart : ByteArray := prog_8_method_4_code
def yX6_canStart : MethodName := ⟨RX6, "canStart", "(I)Z"⟩
abbrev cX6_finish : ByteArray := prog_8_method_5_code
def yX6_finish : MethodName := ⟨RX6, "finish", "(II)V"⟩
def RX7 : String := "Groutline"
def TX7 : u_T := fun k => match k with
  | 0 => ("Groutline", "layout", "LGroutline$Layout;", true)
  | 1 => ("Groutline", "bars", "LGroutline$Bars;", true)
  | 2 => ("Groutline", "pieces", "LGroutline$Pieces;", true)
  | 3 => ("Groutline", "cuts", "LGroutline$Cuts;", true)
  | 4 => ("Groutline", "stack", "LGroutline$Stack;", true)
  | 5 => ("Groutline", "work", "LGroutline$Work;", true)
  | _ => ("Groutline", "frame", "LGroutline$Frame;", true)
def tyX7 : Nat → FieldType := fun k => match k with
  | 0 => .object "Groutline$Layout"
  | 1 => .object "Groutline$Bars"
  | 2 => .object "Groutline$Pieces"
  | 3 => .object "Groutline$Cuts"
  | 4 => .object "Groutline$Stack"
  | 5 => .object "Groutline$Work"
  | _ => .object "Groutline$Frame"
abbrev wsX70 : List Cond := u_ws RX7 TX7 7
theorem nmX7 : ∀ a, a < 7 → ∀ b, b < 7 → a ≠ b → (TX7 a).2.1 ≠ (TX7 b).2.1 := by decide +kernel
theorem tyX7_ok : ∀ k, k < 7 → parseFieldDescriptor (TX7 k).2.2.1 = some (tyX7 k) := by decide +kernel
abbrev cX7_init : ByteArray := prog_1_method_1_code
def yX7_init : MethodName := ⟨RX7, "<init>", "()V"⟩
abbrev cX7_plan : ByteArray := prog_1_method_2_code
def yX7_plan : MethodName := ⟨RX7, "plan", "(IIII)I"⟩
abbrev cX7_pillar : ByteArray := prog_1_method_3_code
def yX7_pillar : MethodName := ⟨RX7, "pillar", "(IIZ)Z"⟩
abbrev cX7_door : ByteArray := prog_1_method_4_code
def yX7_door : MethodName := ⟨RX7, "door", "(I)I"⟩
abbrev cX7_ofPiece : ByteArray := prog_1_method_5_code
def yX7_ofPiece : MethodName := ⟨RX7, "ofPiece", "(II)I"⟩
abbrev cX7_pieceAt : ByteArray := prog_1_method_6_code
def yX7_pieceAt : MethodName := ⟨RX7, "pieceAt", "(II)I"⟩
abbrev cX7_piecesAnew : ByteArray := prog_1_method_7_code
def yX7_piecesAnew : MethodName := ⟨RX7, "piecesAnew", "()I"⟩
abbrev cX7_tiles : ByteArray := prog_1_method_8_code
def yX7_tiles : MethodName := ⟨RX7, "tiles", "()I"⟩
abbrev cX7_rest : ByteArray := prog_1_method_9_code
def yX7_rest : MethodName := ⟨RX7, "rest", "(I)I"⟩
abbrev cX7_crate : ByteArray := prog_1_method_10_code
def yX7_crate : MethodName := ⟨RX7, "crate", "(II)I"⟩
abbrev cX7_fetch : ByteArray := prog_1_method_11_code
def yX7_fetch : MethodName := ⟨RX7, "fetch", "(I)I"⟩
abbrev cX7_moves : ByteArray := prog_1_method_12_code
def yX7_moves : MethodName := ⟨RX7, "moves", "()I"⟩
abbrev cX7_grout : ByteArray := prog_1_method_13_code
def yX7_grout : MethodName := ⟨RX7, "grout", "(I)I"⟩
abbrev cX7_lay : ByteArray := prog_1_method_14_code
def yX7_lay : MethodName := ⟨RX7, "lay", "(I)I"⟩
abbrev cX7_dry : ByteArray := prog_1_method_15_code
def yX7_dry : MethodName := ⟨RX7, "dry", "(I)I"⟩
abbrev cX7_strips : ByteArray := prog_1_method_16_code
def yX7_strips : MethodName := ⟨RX7, "strips", "()I"⟩
abbrev cX7_pass : ByteArray := prog_1_method_17_code
def yX7_pass : MethodName := ⟨RX7, "pass", "(I)I"⟩
abbrev cX7_renew : ByteArray := prog_1_method_18_code
def yX7_renew : MethodName := ⟨RX7, "renew", "()V"⟩
abbrev cX7_piecesOfStrip : ByteArray := prog_1_method_19_code
def yX7_piecesOfStrip : MethodName := ⟨RX7, "piecesOfStrip", "(I)I"⟩
abbrev cX7_isFirstOfItsPiece : ByteArray := prog_1_method_20_code
def yX7_isFirstOfItsPiece : MethodName := ⟨RX7, "isFirstOfItsPiece", "(II)Z"⟩
abbrev cX7_isWithin : ByteArray := prog_1_method_21_code
def yX7_isWithin : MethodName := ⟨RX7, "isWithin", "(III)Z"⟩
abbrev cX7_isCell : ByteArray := prog_1_method_22_code
def yX7_isCell : MethodName := ⟨RX7, "isCell", "(II)Z"⟩
abbrev cX7_isFloor : ByteArray := prog_1_method_23_code
def yX7_isFloor : MethodName := ⟨RX7, "isFloor", "(I)Z"⟩
abbrev cX7_cellAt : ByteArray := prog_1_method_24_code
def yX7_cellAt : MethodName := ⟨RX7, "cellAt", "(II)I"⟩
abbrev cX7_timesIn : ByteArray := prog_1_method_25_code
def yX7_timesIn : MethodName := ⟨RX7, "timesIn", "(II)I"⟩
def RX8 : String := "GroutlineModel"
def TX8 : u_T := fun k => match k with
  | 0 => ("GroutlineModel", "wide", "I", false)
  | 1 => ("GroutlineModel", "high", "I", false)
  | 2 => ("GroutlineModel", "border", "I", false)
  | 3 => ("GroutlineModel", "pattern", "I", false)
  | 4 => ("GroutlineModel", "door", "I", false)
  | 5 => ("GroutlineModel", "pillar", "[I", true)
  | 6 => ("GroutlineModel", "shut", "[I", true)
  | 7 => ("GroutlineModel", "pk", "[I", true)
  | 8 => ("GroutlineModel", "pf", "[I", true)
  | 9 => ("GroutlineModel", "pn", "[I", true)
  | 10 => ("GroutlineModel", "pr", "[I", true)
  | 11 => ("GroutlineModel", "left", "[I", true)
  | 12 => ("GroutlineModel", "right", "[I", true)
  | 13 => ("GroutlineModel", "top", "[I", true)
  | 14 => ("GroutlineModel", "bottom", "[I", true)
  | 15 => ("GroutlineModel", "at", "[I", true)
  | 16 => ("GroutlineModel", "pieces", "I", false)
  | 17 => ("GroutlineModel", "tiles", "I", false)
  | 18 => ("GroutlineModel", "rw", "[I", true)
  | 19 => ("GroutlineModel", "rh", "[I", true)
  | 20 => ("GroutlineModel", "rp", "[I", true)
  | 21 => ("GroutlineModel", "rests", "I", false)
  | 22 => ("GroutlineModel", "cf", "[I", true)
  | 23 => ("GroutlineModel", "cn", "[I", true)
  | 24 => ("GroutlineModel", "crates", "I", false)
  | 25 => ("GroutlineModel", "moves", "I", false)
  | 26 => ("GroutlineModel", "dry", "[I", true)
  | 27 => ("GroutlineModel", "anyLaid", "Z", false)
  | 28 => ("GroutlineModel", "grout", "I", false)
  | 29 => ("GroutlineModel", "hour", "I", false)
  | _ => ("GroutlineModel", "thrown", "I", false)
def tyX8 : Nat → FieldType := fun k => match k with
  | 0 => .int
  | 1 => .int
  | 2 => .int
  | 3 => .int
  | 4 => .int
  | 5 => .array .int
  | 6 => .array .int
  | 7 => .array .int
  | 8 => .array .int
  | 9 => .array .int
  | 10 => .array .int
  | 11 => .array .int
  | 12 => .array .int
  | 13 => .array .int
  | 14 => .array .int
  | 15 => .array .int
  | 16 => .int
  | 17 => .int
  | 18 => .array .int
  | 19 => .array .int
  | 20 => .array .int
  | 21 => .int
  | 22 => .array .int
  | 23 => .array .int
  | 24 => .int
  | 25 => .int
  | 26 => .array .int
  | 27 => .boolean
  | 28 => .int
  | 29 => .int
  | _ => .int
abbrev wsX80 : List Cond := u_ws RX8 TX8 31
theorem nmX8 : ∀ a, a < 31 → ∀ b, b < 31 → a ≠ b → (TX8 a).2.1 ≠ (TX8 b).2.1 := by decide +kernel
theorem tyX8_ok : ∀ k, k < 31 → parseFieldDescriptor (TX8 k).2.2.1 = some (tyX8 k) := by decide +kernel
abbrev cX8_init : ByteArray := prog_10_method_1_code
def yX8_init : MethodName := ⟨RX8, "<init>", "()V"⟩
abbrev cX8_thrown : ByteArray := prog_10_method_2_code
def yX8_thrown : MethodName := ⟨RX8, "thrown", "()I"⟩
abbrev cX8_holds : ByteArray := prog_10_method_3_code
def yX8_holds : MethodName := ⟨RX8, "holds", "(I)Z"⟩
abbrev cX8_in : ByteArray := prog_10_method_4_code
def yX8_in : MethodName := ⟨RX8, "in", "(III)Z"⟩
abbrev cX8_unlay : ByteArray := prog_10_method_5_code
def yX8_unlay : MethodName := ⟨RX8, "unlay", "()V"⟩
abbrev cX8_isBarred : ByteArray := prog_10_method_6_code
def yX8_isBarred : MethodName := ⟨RX8, "isBarred", "(I)Z"⟩
abbrev cX8_isEdge : ByteArray := prog_10_method_7_code
def yX8_isEdge : MethodName := ⟨RX8, "isEdge", "(I)Z"⟩
abbrev cX8_tileOf : ByteArray := prog_10_method_8_code
def yX8_tileOf : MethodName := ⟨RX8, "tileOf", "(I)I"⟩
abbrev cX8_isSame : ByteArray := prog_10_method_9_code
def yX8_isSame : MethodName := ⟨RX8, "isSame", "(II)Z"⟩
abbrev cX8_plans : ByteArray := prog_10_method_10_code
def yX8_plans : MethodName := ⟨RX8, "plans", "()V"⟩
abbrev cX8_bestRest : ByteArray := prog_10_method_11_code
def yX8_bestRest : MethodName := ⟨RX8, "bestRest", "(II)I"⟩
abbrev cX8_takeOut : ByteArray := prog_10_method_12_code
def yX8_takeOut : MethodName := ⟨RX8, "takeOut", "(I)V"⟩
abbrev cX8_cuts : ByteArray := prog_10_method_13_code
def yX8_cuts : MethodName := ⟨RX8, "cuts", "()V"⟩
abbrev cX8_courses : ByteArray := prog_10_method_14_code
def yX8_courses : MethodName := ⟨RX8, "courses", "()I"⟩
abbrev cX8_stripOfRow : ByteArray := prog_10_method_15_code
def yX8_stripOfRow : MethodName := ⟨RX8, "stripOfRow", "(I)I"⟩
abbrev cX8_stripCount : ByteArray := prog_10_method_16_code
def yX8_stripCount : MethodName := ⟨RX8, "stripCount", "()I"⟩
abbrev cX8_plan : ByteArray := prog_10_method_17_code
def yX8_plan : MethodName := ⟨RX8, "plan", "(IIII)I"⟩
abbrev cX8_pillar : ByteArray := prog_10_method_18_code
def yX8_pillar : MethodName := ⟨RX8, "pillar", "(IIZ)Z"⟩
abbrev cX8_door : ByteArray := prog_10_method_19_code
def yX8_door : MethodName := ⟨RX8, "door", "(I)I"⟩
abbrev cX8_ofPiece : ByteArray := prog_10_method_20_code
def yX8_ofPiece : MethodName := ⟨RX8, "ofPiece", "(II)I"⟩
abbrev cX8_pieceAt : ByteArray := prog_10_method_21_code
def yX8_pieceAt : MethodName := ⟨RX8, "pieceAt", "(II)I"⟩
abbrev cX8_piecesAnew : ByteArray := prog_10_method_22_code
def yX8_piecesAnew : MethodName := ⟨RX8, "piecesAnew", "()I"⟩
abbrev cX8_tiles : ByteArray := prog_10_method_23_code
def yX8_tiles : MethodName := ⟨RX8, "tiles", "()I"⟩
abbrev cX8_rest : ByteArray := prog_10_method_24_code
def yX8_rest : MethodName := ⟨RX8, "rest", "(I)I"⟩
abbrev cX8_crate : ByteArray := prog_10_method_25_code
def yX8_crate : MethodName := ⟨RX8, "crate", "(II)I"⟩
abbrev cX8_fetch : ByteArray := prog_10_method_26_code
def yX8_fetch : MethodName := ⟨RX8, "fetch", "(I)I"⟩
abbrev cX8_moves : ByteArray := prog_10_method_27_code
def yX8_moves : MethodName := ⟨RX8, "moves", "()I"⟩
abbrev cX8_grout : ByteArray := prog_10_method_28_code
def yX8_grout : MethodName := ⟨RX8, "grout", "(I)I"⟩
abbrev cX8_isWet : ByteArray := prog_10_method_29_code
def yX8_isWet : MethodName := ⟨RX8, "isWet", "(I)Z"⟩
abbrev cX8_piecesOf : ByteArray := prog_10_method_30_code
def yX8_piecesOf : MethodName := ⟨RX8, "piecesOf", "(I)I"⟩
abbrev cX8_isStrip : ByteArray := prog_10_method_31_code
def yX8_isStrip : MethodName := ⟨RX8, "isStrip", "(I)Z"⟩
abbrev cX8_lay : ByteArray := prog_10_method_32_code
def yX8_lay : MethodName := ⟨RX8, "lay", "(I)I"⟩
abbrev cX8_dry : ByteArray := prog_10_method_33_code
def yX8_dry : MethodName := ⟨RX8, "dry", "(I)I"⟩
abbrev cX8_strips : ByteArray := prog_10_method_34_code
def yX8_strips : MethodName := ⟨RX8, "strips", "()I"⟩
abbrev cX8_pass : ByteArray := prog_10_method_35_code
def yX8_pass : MethodName := ⟨RX8, "pass", "(I)I"⟩
def RJx145de : String := "java/io/Serializable"
def TJx145de : u_T := fun k => match k with
  | _ => ("", "", "", false)
def tyJx145de : Nat → FieldType := fun k => match k with
  | _ => .int
abbrev wsJx145de0 : List Cond := u_ws RJx145de TJx145de 0
theorem nmJx145de : ∀ a, a < 0 → ∀ b, b < 0 → a ≠ b → (TJx145de a).2.1 ≠ (TJx145de b).2.1 := by decide +kernel
theorem tyJx145de_ok : ∀ k, k < 0 → parseFieldDescriptor (TJx145de k).2.2.1 = some (tyJx145de k) := by decide +kernel
def RJ9 : String := "java/lang/Math"
def TJ9 : u_T := fun k => match k with
  | _ => ("", "", "", false)
def tyJ9 : Nat → FieldType := fun k => match k with
  | _ => .int
abbrev wsJ90 : List Cond := u_ws RJ9 TJ9 0
theorem nmJ9 : ∀ a, a < 0 → ∀ b, b < 0 → a ≠ b → (TJ9 a).2.1 ≠ (TJ9 b).2.1 := by decide +kernel
theorem tyJ9_ok : ∀ k, k < 0 → parseFieldDescriptor (TJ9 k).2.2.1 = some (tyJ9 k) := by decide +kernel
abbrev cJ9_max_7cf53 : ByteArray := prog_15_method_65_code
def yJ9_max_7cf53 : MethodName := ⟨RJ9, "max", "(II)I"⟩
abbrev cJ9_min_7cf53 : ByteArray := prog_15_method_69_code
def yJ9_min_7cf53 : MethodName := ⟨RJ9, "min", "(II)I"⟩
def RJ0 : String := "java/lang/String"
def TJ0 : u_T := fun k => match k with
  | _ => ("", "", "", false)
def tyJ0 : Nat → FieldType := fun k => match k with
  | _ => .int
abbrev wsJ00 : List Cond := u_ws RJ0 TJ0 0
theorem nmJ0 : ∀ a, a < 0 → ∀ b, b < 0 → a ≠ b → (TJ0 a).2.1 ≠ (TJ0 b).2.1 := by decide +kernel
theorem tyJ0_ok : ∀ k, k < 0 → parseFieldDescriptor (TJ0 k).2.2.1 = some (tyJ0 k) := by decide +kernel
def RJ7 : String := "java/util/Arrays"
def TJ7 : u_T := fun k => match k with
  | _ => ("", "", "", false)
def tyJ7 : Nat → FieldType := fun k => match k with
  | _ => .int
abbrev wsJ70 : List Cond := u_ws RJ7 TJ7 0
theorem nmJ7 : ∀ a, a < 0 → ∀ b, b < 0 → a ≠ b → (TJ7 a).2.1 ≠ (TJ7 b).2.1 := by decide +kernel
theorem tyJ7_ok : ∀ k, k < 0 → parseFieldDescriptor (TJ7 k).2.2.1 = some (tyJ7 k) := by decide +kernel
abbrev cJ7_fill_53178 : ByteArray := prog_19_method_103_code
def yJ7_fill_53178 : MethodName := ⟨RJ7, "fill", "([II)V"⟩
def RL : String := "GroutlineLaw"
abbrev cL_plan : ByteArray := method_3_code
def yL_plan : MethodName := ⟨RL, "plan", "(LGroutline;IIII[J)I"⟩
abbrev cL_pillar : ByteArray := method_4_code
def yL_pillar : MethodName := ⟨RL, "pillar", "(LGroutline;IIZ[J)I"⟩
abbrev cL_door : ByteArray := method_5_code
def yL_door : MethodName := ⟨RL, "door", "(LGroutline;I[J)I"⟩
abbrev cL_ofPiece : ByteArray := method_6_code
def yL_ofPiece : MethodName := ⟨RL, "ofPiece", "(LGroutline;II[J)I"⟩
abbrev cL_pieceAt : ByteArray := method_7_code
def yL_pieceAt : MethodName := ⟨RL, "pieceAt", "(LGroutline;II[J)I"⟩
abbrev cL_rest : ByteArray := method_8_code
def yL_rest : MethodName := ⟨RL, "rest", "(LGroutline;I[J)I"⟩
abbrev cL_crate : ByteArray := method_9_code
def yL_crate : MethodName := ⟨RL, "crate", "(LGroutline;II[J)I"⟩
abbrev cL_fetch : ByteArray := method_10_code
def yL_fetch : MethodName := ⟨RL, "fetch", "(LGroutline;I[J)I"⟩
abbrev cL_grout : ByteArray := method_11_code
def yL_grout : MethodName := ⟨RL, "grout", "(LGroutline;I[J)I"⟩
abbrev cL_lay : ByteArray := method_12_code
def yL_lay : MethodName := ⟨RL, "lay", "(LGroutline;I[J)I"⟩
abbrev cL_dry : ByteArray := method_13_code
def yL_dry : MethodName := ⟨RL, "dry", "(LGroutline;I[J)I"⟩
abbrev cL_pass : ByteArray := method_14_code
def yL_pass : MethodName := ⟨RL, "pass", "(LGroutline;I[J)I"⟩
abbrev cL_law : ByteArray := code
def yL_law : MethodName := ⟨RL, "law", "([I)Z"⟩
def wsX0_init : List Cond := .code yX0_init cX0_init 1 none :: ([.methodLink RX0 3 objectInit, .instanceMethod objectInit, .code objectInit ⟨#[0xb1]⟩ 1 none, .arrayClass .boolean, .fieldLink RX0 9 "Groutline$Bars" "pillars" "[Z", .fieldLink RX0 15 "Groutline$Bars" "barred" "[Z", .fieldLink RX0 18 "Groutline$Bars" "doorColumn" "I"] ++ wsX00)
def wsX7_isCell : List Cond := .code yX7_isCell cX7_isCell 2 (some .boolean) :: ([])
def wsX7_cellAt : List Cond := .code yX7_cellAt cX7_cellAt 2 (some .int) :: ([])
def wsX0_setPillar : List Cond := .code yX0_setPillar cX0_setPillar 5 (some .boolean) :: ([.fieldLink RX0 9 "Groutline$Bars" "pillars" "[Z", .static yX7_isCell, .initialized RX7, .code yX7_isCell cX7_isCell 2 (some .boolean), .static yX7_cellAt, .code yX7_cellAt cX7_cellAt 2 (some .int)] ++ wsX00)
def wsX0_areAt : List Cond := .code yX0_areAt cX0_areAt 3 (some .boolean) :: ([.fieldLink RX0 15 "Groutline$Bars" "barred" "[Z", .static yX7_isCell, .initialized RX7, .code yX7_isCell cX7_isCell 2 (some .boolean), .static yX7_cellAt, .code yX7_cellAt cX7_cellAt 2 (some .int)] ++ wsX00)
def wsX3_lowerBorder : List Cond := .code yX3_lowerBorder cX3_lowerBorder 1 (some .int) :: ([.fieldLink RX3 18 "Groutline$Layout" "border" "I"] ++ wsX30)
def wsX7_timesIn : List Cond := .code yX7_timesIn cX7_timesIn 2 (some .int) :: ([])
def wsX3_courseOfRow : List Cond := .code yX3_courseOfRow cX3_courseOfRow 2 (some .int) :: ([.fieldLink RX3 15 "Groutline$Layout" "high" "I", .fieldLink RX3 18 "Groutline$Layout" "border" "I", .static yX7_timesIn, .initialized RX7, .code yX7_timesIn cX7_timesIn 2 (some .int)] ++ wsX30)
def wsX3_countCourses : List Cond := .code yX3_countCourses cX3_countCourses 1 (some .int) :: ([.methodLink RX3 28 yX3_lowerBorder, .instanceMethod yX3_lowerBorder, .selects RX3 yX3_lowerBorder yX3_lowerBorder, .initialized RX3, .code yX3_lowerBorder cX3_lowerBorder 1 (some .int), .fieldLink RX3 18 "Groutline$Layout" "border" "I", .methodLink RX3 35 yX3_courseOfRow, .instanceMethod yX3_courseOfRow, .selects RX3 yX3_courseOfRow yX3_courseOfRow, .code yX3_courseOfRow cX3_courseOfRow 2 (some .int), .fieldLink RX3 15 "Groutline$Layout" "high" "I", .static yX7_timesIn, .initialized RX7, .code yX7_timesIn cX7_timesIn 2 (some .int)] ++ wsX30)
def wsX3_stripOfRow : List Cond := .code yX3_stripOfRow cX3_stripOfRow 2 (some .int) :: ([.fieldLink RX3 18 "Groutline$Layout" "border" "I", .methodLink RX3 28 yX3_lowerBorder, .instanceMethod yX3_lowerBorder, .selects RX3 yX3_lowerBorder yX3_lowerBorder, .initialized RX3, .code yX3_lowerBorder cX3_lowerBorder 1 (some .int), .methodLink RX3 39 yX3_countCourses, .instanceMethod yX3_countCourses, .selects RX3 yX3_countCourses yX3_countCourses, .code yX3_countCourses cX3_countCourses 1 (some .int), .methodLink RX3 35 yX3_courseOfRow, .instanceMethod yX3_courseOfRow, .selects RX3 yX3_courseOfRow yX3_courseOfRow, .code yX3_courseOfRow cX3_courseOfRow 2 (some .int), .fieldLink RX3 15 "Groutline$Layout" "high" "I", .static yX7_timesIn, .initialized RX7, .code yX7_timesIn cX7_timesIn 2 (some .int)] ++ wsX30)
def wsX6_isLaid : List Cond := .code yX6_isLaid cX6_isLaid 2 (some .boolean) :: ([.fieldLink RX6 22 "Groutline$Work" "laid" "[Z"] ++ wsX60)
def wsX0_isDoor : List Cond := .code yX0_isDoor cX0_isDoor 3 (some .boolean) :: ([.fieldLink RX0 18 "Groutline$Bars" "doorColumn" "I"] ++ wsX00)
def wsX0_renewRow : List Cond := .code yX0_renewRow cX0_renewRow 4 none :: ([.fieldLink RX0 15 "Groutline$Bars" "barred" "[Z", .fieldLink RX0 9 "Groutline$Bars" "pillars" "[Z", .static yX7_isCell, .initialized RX7, .code yX7_isCell cX7_isCell 2 (some .boolean), .static yX7_cellAt, .code yX7_cellAt cX7_cellAt 2 (some .int), .methodLink RX0 46 yX0_isDoor, .instanceMethod yX0_isDoor, .selects RX0 yX0_isDoor yX0_isDoor, .initialized RX0, .code yX0_isDoor cX0_isDoor 3 (some .boolean), .fieldLink RX0 18 "Groutline$Bars" "doorColumn" "I"] ++ wsX00)
def wsX0_renew_r1 : List Cond := [Cond.methodLink RX0 30 yX3_stripOfRow, Cond.instanceMethod yX3_stripOfRow, Cond.selects RX3 yX3_stripOfRow yX3_stripOfRow, Cond.initialized RX3, Cond.code yX3_stripOfRow cX3_stripOfRow 2 (some .int), Cond.fieldLink RX3 18 "Groutline$Layout" "border" "I", Cond.methodLink RX3 28 yX3_lowerBorder, Cond.instanceMethod yX3_lowerBorder, Cond.selects RX3 yX3_lowerBorder yX3_lowerBorder, Cond.code yX3_lowerBorder cX3_lowerBorder 1 (some .int), Cond.methodLink RX3 39 yX3_countCourses, Cond.instanceMethod yX3_countCourses, Cond.selects RX3 yX3_countCourses yX3_countCourses, Cond.code yX3_countCourses cX3_countCourses 1 (some .int), Cond.methodLink RX3 35 yX3_courseOfRow, Cond.instanceMethod yX3_courseOfRow, Cond.selects RX3 yX3_courseOfRow yX3_courseOfRow, Cond.code yX3_courseOfRow cX3_courseOfRow 2 (some .int), Cond.fieldLink RX3 15 "Groutline$Layout" "high" "I", Cond.static yX7_timesIn, Cond.initialized RX7, Cond.code yX7_timesIn cX7_timesIn 2 (some .int), Cond.methodLink RX0 36 yX6_isLaid, Cond.instanceMethod yX6_isLaid]
def wsX0_renew_r2 : List Cond := [Cond.selects RX6 yX6_isLaid yX6_isLaid, Cond.initialized RX6, Cond.code yX6_isLaid cX6_isLaid 2 (some .boolean), Cond.fieldLink RX6 22 "Groutline$Work" "laid" "[Z", Cond.methodLink RX0 42 yX0_renewRow, Cond.instanceMethod yX0_renewRow, Cond.selects RX0 yX0_renewRow yX0_renewRow, Cond.initialized RX0, Cond.code yX0_renewRow cX0_renewRow 4 none, Cond.fieldLink RX0 15 "Groutline$Bars" "barred" "[Z", Cond.fieldLink RX0 9 "Groutline$Bars" "pillars" "[Z", Cond.static yX7_isCell, Cond.code yX7_isCell cX7_isCell 2 (some .boolean), Cond.static yX7_cellAt, Cond.code yX7_cellAt cX7_cellAt 2 (some .int), Cond.methodLink RX0 46 yX0_isDoor, Cond.instanceMethod yX0_isDoor, Cond.selects RX0 yX0_isDoor yX0_isDoor, Cond.code yX0_isDoor cX0_isDoor 3 (some .boolean), Cond.fieldLink RX0 18 "Groutline$Bars" "doorColumn" "I"]
def wsX0_renew : List Cond := .code yX0_renew cX0_renew 4 none :: ((wsX0_renew_r1 ++ wsX0_renew_r2) ++ wsX30 ++ wsX60 ++ wsX00)
def wsX1_init : List Cond := .code yX1_init cX1_init 1 none :: ([.methodLink RX1 3 objectInit, .instanceMethod objectInit, .code objectInit ⟨#[0xb1]⟩ 1 none, .fieldLink RX1 9 "Groutline$Cuts" "newTiles" "I", .arrayClass .int, .fieldLink RX1 15 "Groutline$Cuts" "sources" "[I", .fieldLink RX1 19 "Groutline$Cuts" "restCount" "I", .fieldLink RX1 22 "Groutline$Cuts" "restWides" "[I", .fieldLink RX1 25 "Groutline$Cuts" "restHighs" "[I", .fieldLink RX1 28 "Groutline$Cuts" "restMakers" "[I"] ++ wsX10)
def wsX1_hasRest : List Cond := .code yX1_hasRest cX1_hasRest 2 (some .boolean) :: ([.fieldLink RX1 19 "Groutline$Cuts" "restCount" "I"] ++ wsX10)
def wsX1_sizeOfRest : List Cond := .code yX1_sizeOfRest cX1_sizeOfRest 2 (some .int) :: ([.fieldLink RX1 22 "Groutline$Cuts" "restWides" "[I", .fieldLink RX1 25 "Groutline$Cuts" "restHighs" "[I", .methodLink RX1 31 yX1_hasRest, .instanceMethod yX1_hasRest, .selects RX1 yX1_hasRest yX1_hasRest, .initialized RX1, .code yX1_hasRest cX1_hasRest 2 (some .boolean), .fieldLink RX1 19 "Groutline$Cuts" "restCount" "I"] ++ wsX10)
def wsJ7_fill_53178 : List Cond := .code yJ7_fill_53178 cJ7_fill_53178 4 none :: ([])
def wsX4_has : List Cond := .code yX4_has cX4_has 2 (some .boolean) :: ([.fieldLink RX4 9 "Groutline$Pieces" "count" "I"] ++ wsX40)
def wsX1_bestRestFor : List Cond := .code yX1_bestRestFor cX1_bestRestFor 8 (some .int) :: ([.fieldLink RX1 19 "Groutline$Cuts" "restCount" "I", .fieldLink RX1 22 "Groutline$Cuts" "restWides" "[I", .fieldLink RX1 25 "Groutline$Cuts" "restHighs" "[I"] ++ wsX10)
def wsX1_addRest : List Cond := .code yX1_addRest cX1_addRest 5 none :: ([.fieldLink RX1 19 "Groutline$Cuts" "restCount" "I", .fieldLink RX1 22 "Groutline$Cuts" "restWides" "[I", .fieldLink RX1 25 "Groutline$Cuts" "restHighs" "[I", .fieldLink RX1 28 "Groutline$Cuts" "restMakers" "[I", .methodLink RX1 31 yX1_hasRest, .instanceMethod yX1_hasRest, .selects RX1 yX1_hasRest yX1_hasRest, .initialized RX1, .code yX1_hasRest cX1_hasRest 2 (some .boolean)] ++ wsX10)
def wsX1_leave : List Cond := .code yX1_leave cX1_leave 8 none :: ([.methodLink RX1 79 yX1_addRest, .instanceMethod yX1_addRest, .selects RX1 yX1_addRest yX1_addRest, .initialized RX1, .code yX1_addRest cX1_addRest 5 none, .fieldLink RX1 19 "Groutline$Cuts" "restCount" "I", .fieldLink RX1 22 "Groutline$Cuts" "restWides" "[I", .fieldLink RX1 25 "Groutline$Cuts" "restHighs" "[I", .fieldLink RX1 28 "Groutline$Cuts" "restMakers" "[I", .methodLink RX1 31 yX1_hasRest, .instanceMethod yX1_hasRest, .selects RX1 yX1_hasRest yX1_hasRest, .code yX1_hasRest cX1_hasRest 2 (some .boolean)] ++ wsX10)
def wsX1_removeRest : List Cond := .code yX1_removeRest cX1_removeRest 3 none :: ([.fieldLink RX1 19 "Groutline$Cuts" "restCount" "I", .fieldLink RX1 22 "Groutline$Cuts" "restWides" "[I", .fieldLink RX1 25 "Groutline$Cuts" "restHighs" "[I", .fieldLink RX1 28 "Groutline$Cuts" "restMakers" "[I", .methodLink RX1 31 yX1_hasRest, .instanceMethod yX1_hasRest, .selects RX1 yX1_hasRest yX1_hasRest, .initialized RX1, .code yX1_hasRest cX1_hasRest 2 (some .boolean)] ++ wsX10)
def wsX1_cut_r1 : List Cond := [Cond.fieldLink RX1 9 "Groutline$Cuts" "newTiles" "I", Cond.fieldLink RX1 63 "Groutline$Layout" "wide" "I", Cond.fieldLink RX1 68 "Groutline$Layout" "high" "I", Cond.fieldLink RX1 22 "Groutline$Cuts" "restWides" "[I", Cond.fieldLink RX1 25 "Groutline$Cuts" "restHighs" "[I", Cond.fieldLink RX1 15 "Groutline$Cuts" "sources" "[I", Cond.fieldLink RX1 28 "Groutline$Cuts" "restMakers" "[I", Cond.methodLink RX1 59 yX1_bestRestFor, Cond.instanceMethod yX1_bestRestFor, Cond.selects RX1 yX1_bestRestFor yX1_bestRestFor, Cond.initialized RX1, Cond.code yX1_bestRestFor cX1_bestRestFor 8 (some .int), Cond.fieldLink RX1 19 "Groutline$Cuts" "restCount" "I", Cond.methodLink RX1 31 yX1_hasRest, Cond.instanceMethod yX1_hasRest, Cond.selects RX1 yX1_hasRest yX1_hasRest, Cond.code yX1_hasRest cX1_hasRest 2 (some .boolean), Cond.methodLink RX1 71 yX1_leave, Cond.instanceMethod yX1_leave, Cond.selects RX1 yX1_leave yX1_leave, Cond.code yX1_leave cX1_leave 8 none, Cond.methodLink RX1 79 yX1_addRest, Cond.instanceMethod yX1_addRest, Cond.selects RX1 yX1_addRest yX1_addRest]
def wsX1_cut_r2 : List Cond := [Cond.code yX1_addRest cX1_addRest 5 none, Cond.methodLink RX1 75 yX1_removeRest, Cond.instanceMethod yX1_removeRest, Cond.selects RX1 yX1_removeRest yX1_removeRest, Cond.code yX1_removeRest cX1_removeRest 3 none]
def wsX1_cut : List Cond := .code yX1_cut cX1_cut 8 none :: ((wsX1_cut_r1 ++ wsX1_cut_r2) ++ wsX10 ++ wsX30)
def wsX1_cutAll_r1 : List Cond := [Cond.fieldLink RX1 9 "Groutline$Cuts" "newTiles" "I", Cond.fieldLink RX1 19 "Groutline$Cuts" "restCount" "I", Cond.fieldLink RX1 15 "Groutline$Cuts" "sources" "[I", Cond.fieldLink RX1 46 "Groutline$Pieces" "kinds" "[I", Cond.fieldLink RX1 49 "Groutline$Pieces" "boxWides" "[I", Cond.fieldLink RX1 52 "Groutline$Pieces" "boxHighs" "[I", Cond.methodLink RX1 35 yJ7_fill_53178, Cond.static yJ7_fill_53178, Cond.initialized RJ7, Cond.code yJ7_fill_53178 cJ7_fill_53178 4 none, Cond.methodLink RX1 41 yX4_has, Cond.instanceMethod yX4_has, Cond.selects RX4 yX4_has yX4_has, Cond.initialized RX4, Cond.code yX4_has cX4_has 2 (some .boolean), Cond.fieldLink RX4 9 "Groutline$Pieces" "count" "I", Cond.methodLink RX1 55 yX1_cut, Cond.instanceMethod yX1_cut, Cond.selects RX1 yX1_cut yX1_cut, Cond.initialized RX1, Cond.code yX1_cut cX1_cut 8 none, Cond.fieldLink RX1 63 "Groutline$Layout" "wide" "I", Cond.fieldLink RX1 68 "Groutline$Layout" "high" "I", Cond.fieldLink RX1 22 "Groutline$Cuts" "restWides" "[I"]
def wsX1_cutAll_r2 : List Cond := [Cond.fieldLink RX1 25 "Groutline$Cuts" "restHighs" "[I", Cond.fieldLink RX1 28 "Groutline$Cuts" "restMakers" "[I", Cond.methodLink RX1 59 yX1_bestRestFor, Cond.instanceMethod yX1_bestRestFor, Cond.selects RX1 yX1_bestRestFor yX1_bestRestFor, Cond.code yX1_bestRestFor cX1_bestRestFor 8 (some .int), Cond.methodLink RX1 31 yX1_hasRest, Cond.instanceMethod yX1_hasRest, Cond.selects RX1 yX1_hasRest yX1_hasRest, Cond.code yX1_hasRest cX1_hasRest 2 (some .boolean), Cond.methodLink RX1 71 yX1_leave, Cond.instanceMethod yX1_leave, Cond.selects RX1 yX1_leave yX1_leave, Cond.code yX1_leave cX1_leave 8 none, Cond.methodLink RX1 79 yX1_addRest, Cond.instanceMethod yX1_addRest, Cond.selects RX1 yX1_addRest yX1_addRest, Cond.code yX1_addRest cX1_addRest 5 none, Cond.methodLink RX1 75 yX1_removeRest, Cond.instanceMethod yX1_removeRest, Cond.selects RX1 yX1_removeRest yX1_removeRest, Cond.code yX1_removeRest cX1_removeRest 3 none]
def wsX1_cutAll : List Cond := .code yX1_cutAll cX1_cutAll 4 none :: ((wsX1_cutAll_r1 ++ wsX1_cutAll_r2) ++ wsX10 ++ wsX40 ++ wsX30)
def wsX2_init : List Cond := .code yX2_init cX2_init 1 none :: ([.methodLink RX2 1 objectInit, .instanceMethod objectInit, .code objectInit ⟨#[0xb1]⟩ 1 none, .fieldLink RX2 7 "Groutline$Frame" "left" "I", .fieldLink RX2 13 "Groutline$Frame" "right" "I", .fieldLink RX2 16 "Groutline$Frame" "top" "I", .fieldLink RX2 19 "Groutline$Frame" "bottom" "I"] ++ wsX20)
def wsX2_set : List Cond := .code yX2_set cX2_set 5 none :: ([.fieldLink RX2 7 "Groutline$Frame" "left" "I", .fieldLink RX2 13 "Groutline$Frame" "right" "I", .fieldLink RX2 16 "Groutline$Frame" "top" "I", .fieldLink RX2 19 "Groutline$Frame" "bottom" "I"] ++ wsX20)
def wsX3_init : List Cond := .code yX3_init cX3_init 1 none :: ([.methodLink RX3 3 objectInit, .instanceMethod objectInit, .code objectInit ⟨#[0xb1]⟩ 1 none, .fieldLink RX3 9 "Groutline$Layout" "wide" "I", .fieldLink RX3 15 "Groutline$Layout" "high" "I", .fieldLink RX3 18 "Groutline$Layout" "border" "I", .fieldLink RX3 21 "Groutline$Layout" "pattern" "I"] ++ wsX30)
def wsX3_set : List Cond := .code yX3_set cX3_set 5 none :: ([.fieldLink RX3 9 "Groutline$Layout" "wide" "I", .fieldLink RX3 15 "Groutline$Layout" "high" "I", .fieldLink RX3 18 "Groutline$Layout" "border" "I", .fieldLink RX3 21 "Groutline$Layout" "pattern" "I"] ++ wsX30)
def wsX3_rightBorder : List Cond := .code yX3_rightBorder cX3_rightBorder 1 (some .int) :: ([.fieldLink RX3 18 "Groutline$Layout" "border" "I"] ++ wsX30)
def wsX3_isBorder : List Cond := .code yX3_isBorder cX3_isBorder 3 (some .boolean) :: ([.fieldLink RX3 18 "Groutline$Layout" "border" "I", .methodLink RX3 24 yX3_rightBorder, .instanceMethod yX3_rightBorder, .selects RX3 yX3_rightBorder yX3_rightBorder, .initialized RX3, .code yX3_rightBorder cX3_rightBorder 1 (some .int), .methodLink RX3 28 yX3_lowerBorder, .instanceMethod yX3_lowerBorder, .selects RX3 yX3_lowerBorder yX3_lowerBorder, .code yX3_lowerBorder cX3_lowerBorder 1 (some .int)] ++ wsX30)
def wsX3_countStrips : List Cond := .code yX3_countStrips cX3_countStrips 1 (some .int) :: ([.fieldLink RX3 18 "Groutline$Layout" "border" "I", .methodLink RX3 39 yX3_countCourses, .instanceMethod yX3_countCourses, .selects RX3 yX3_countCourses yX3_countCourses, .initialized RX3, .code yX3_countCourses cX3_countCourses 1 (some .int), .methodLink RX3 28 yX3_lowerBorder, .instanceMethod yX3_lowerBorder, .selects RX3 yX3_lowerBorder yX3_lowerBorder, .code yX3_lowerBorder cX3_lowerBorder 1 (some .int), .methodLink RX3 35 yX3_courseOfRow, .instanceMethod yX3_courseOfRow, .selects RX3 yX3_courseOfRow yX3_courseOfRow, .code yX3_courseOfRow cX3_courseOfRow 2 (some .int), .fieldLink RX3 15 "Groutline$Layout" "high" "I", .static yX7_timesIn, .initialized RX7, .code yX7_timesIn cX7_timesIn 2 (some .int)] ++ wsX30)
def wsX3_hasStrip : List Cond := .code yX3_hasStrip cX3_hasStrip 2 (some .boolean) :: ([.methodLink RX3 42 yX3_countStrips, .instanceMethod yX3_countStrips, .selects RX3 yX3_countStrips yX3_countStrips, .initialized RX3, .code yX3_countStrips cX3_countStrips 1 (some .int), .fieldLink RX3 18 "Groutline$Layout" "border" "I", .methodLink RX3 39 yX3_countCourses, .instanceMethod yX3_countCourses, .selects RX3 yX3_countCourses yX3_countCourses, .code yX3_countCourses cX3_countCourses 1 (some .int), .methodLink RX3 28 yX3_lowerBorder, .instanceMethod yX3_lowerBorder, .selects RX3 yX3_lowerBorder yX3_lowerBorder, .code yX3_lowerBorder cX3_lowerBorder 1 (some .int), .methodLink RX3 35 yX3_courseOfRow, .instanceMethod yX3_courseOfRow, .selects RX3 yX3_courseOfRow yX3_courseOfRow, .code yX3_courseOfRow cX3_courseOfRow 2 (some .int), .fieldLink RX3 15 "Groutline$Layout" "high" "I", .static yX7_timesIn, .initialized RX7, .code yX7_timesIn cX7_timesIn 2 (some .int)] ++ wsX30)
def wsX3_frame_r1 : List Cond := [Cond.fieldLink RX3 21 "Groutline$Layout" "pattern" "I", Cond.fieldLink RX3 18 "Groutline$Layout" "border" "I", Cond.fieldLink RX3 9 "Groutline$Layout" "wide" "I", Cond.fieldLink RX3 15 "Groutline$Layout" "high" "I", Cond.methodLink RX3 55 Lib.Math.max.name, Cond.static Lib.Math.max.name, Cond.initialized "java/lang/Math", Cond.code Lib.Math.max.name Lib.Math.max.code 2 (some .int), Cond.methodLink RX3 60 Lib.Math.min.name, Cond.static Lib.Math.min.name, Cond.code Lib.Math.min.name Lib.Math.min.code 2 (some .int), Cond.methodLink RX3 45 yX3_isBorder, Cond.instanceMethod yX3_isBorder, Cond.selects RX3 yX3_isBorder yX3_isBorder, Cond.initialized RX3, Cond.code yX3_isBorder cX3_isBorder 3 (some .boolean), Cond.methodLink RX3 24 yX3_rightBorder, Cond.instanceMethod yX3_rightBorder, Cond.selects RX3 yX3_rightBorder yX3_rightBorder, Cond.code yX3_rightBorder cX3_rightBorder 1 (some .int), Cond.methodLink RX3 28 yX3_lowerBorder, Cond.instanceMethod yX3_lowerBorder, Cond.selects RX3 yX3_lowerBorder yX3_lowerBorder, Cond.code yX3_lowerBorder cX3_lowerBorder 1 (some .int)]
def wsX3_frame_r2 : List Cond := [Cond.methodLink RX3 49 yX2_set, Cond.instanceMethod yX2_set, Cond.selects RX2 yX2_set yX2_set, Cond.initialized RX2, Cond.code yX2_set cX2_set 5 none, Cond.fieldLink RX2 7 "Groutline$Frame" "left" "I", Cond.fieldLink RX2 13 "Groutline$Frame" "right" "I", Cond.fieldLink RX2 16 "Groutline$Frame" "top" "I", Cond.fieldLink RX2 19 "Groutline$Frame" "bottom" "I", Cond.methodLink RX3 35 yX3_courseOfRow, Cond.instanceMethod yX3_courseOfRow, Cond.selects RX3 yX3_courseOfRow yX3_courseOfRow, Cond.code yX3_courseOfRow cX3_courseOfRow 2 (some .int), Cond.static yX7_timesIn, Cond.initialized RX7, Cond.code yX7_timesIn cX7_timesIn 2 (some .int)]
def wsX3_frame : List Cond := .code yX3_frame cX3_frame 9 none :: ((wsX3_frame_r1 ++ wsX3_frame_r2) ++ wsX30 ++ wsX20)
def wsX4_init : List Cond := .code yX4_init cX4_init 1 none :: ([.methodLink RX4 3 objectInit, .instanceMethod objectInit, .code objectInit ⟨#[0xb1]⟩ 1 none, .fieldLink RX4 9 "Groutline$Pieces" "count" "I", .arrayClass .int, .fieldLink RX4 15 "Groutline$Pieces" "ofCells" "[I", .fieldLink RX4 19 "Groutline$Pieces" "kinds" "[I", .fieldLink RX4 22 "Groutline$Pieces" "columns" "[I", .fieldLink RX4 25 "Groutline$Pieces" "rows" "[I", .fieldLink RX4 28 "Groutline$Pieces" "sizes" "[I", .fieldLink RX4 31 "Groutline$Pieces" "boxWides" "[I", .fieldLink RX4 34 "Groutline$Pieces" "boxHighs" "[I", .classLink RX4 37 RX2, .instantiable RX2 4, .initialized RX2, .fieldLink RX4 40 "Groutline$Pieces" "frame" "LGroutline$Frame;", .instanceMethod yX2_init, .code yX2_init cX2_init 1 none, .methodLink RX2 1 objectInit, .fieldLink RX2 7 "Groutline$Frame" "left" "I", .fieldLink RX2 13 "Groutline$Frame" "right" "I", .fieldLink RX2 16 "Groutline$Frame" "top" "I", .fieldLink RX2 19 "Groutline$Frame" "bottom" "I"] ++ wsX40 ++ wsX20)
def wsX4_measure_r1 : List Cond := [Cond.fieldLink RX4 40 "Groutline$Pieces" "frame" "LGroutline$Frame;", Cond.fieldLink RX4 86 "Groutline$Frame" "right" "I", Cond.fieldLink RX4 89 "Groutline$Frame" "left" "I", Cond.fieldLink RX4 92 "Groutline$Frame" "top" "I", Cond.fieldLink RX4 25 "Groutline$Pieces" "rows" "[I", Cond.fieldLink RX4 95 "Groutline$Frame" "bottom" "I", Cond.fieldLink RX4 15 "Groutline$Pieces" "ofCells" "[I", Cond.methodLink RX4 101 Lib.Math.min.name, Cond.static Lib.Math.min.name, Cond.initialized "java/lang/Math", Cond.code Lib.Math.min.name Lib.Math.min.code 2 (some .int), Cond.methodLink RX4 106 Lib.Math.max.name, Cond.static Lib.Math.max.name, Cond.code Lib.Math.max.name Lib.Math.max.code 2 (some .int), Cond.fieldLink RX4 28 "Groutline$Pieces" "sizes" "[I", Cond.fieldLink RX4 31 "Groutline$Pieces" "boxWides" "[I", Cond.fieldLink RX4 34 "Groutline$Pieces" "boxHighs" "[I", Cond.methodLink RX4 64 yX4_has, Cond.instanceMethod yX4_has, Cond.selects RX4 yX4_has yX4_has, Cond.initialized RX4, Cond.code yX4_has cX4_has 2 (some .boolean), Cond.fieldLink RX4 9 "Groutline$Pieces" "count" "I", Cond.static yX7_isCell]
def wsX4_measure_r2 : List Cond := [Cond.initialized RX7, Cond.code yX7_isCell cX7_isCell 2 (some .boolean), Cond.methodLink RX4 54 yX0_areAt, Cond.instanceMethod yX0_areAt, Cond.selects RX0 yX0_areAt yX0_areAt, Cond.initialized RX0, Cond.code yX0_areAt cX0_areAt 3 (some .boolean), Cond.fieldLink RX0 15 "Groutline$Bars" "barred" "[Z", Cond.static yX7_cellAt, Cond.code yX7_cellAt cX7_cellAt 2 (some .int)]
def wsX4_measure : List Cond := .code yX4_measure cX4_measure 9 none :: ((wsX4_measure_r1 ++ wsX4_measure_r2) ++ wsX40 ++ wsX20 ++ wsX00)
def wsX4_add_r1 : List Cond := [Cond.fieldLink RX4 9 "Groutline$Pieces" "count" "I", Cond.fieldLink RX4 22 "Groutline$Pieces" "columns" "[I", Cond.fieldLink RX4 25 "Groutline$Pieces" "rows" "[I", Cond.fieldLink RX4 40 "Groutline$Pieces" "frame" "LGroutline$Frame;", Cond.fieldLink RX4 19 "Groutline$Pieces" "kinds" "[I", Cond.fieldLink RX4 28 "Groutline$Pieces" "sizes" "[I", Cond.fieldLink RX4 80 "Groutline$Layout" "wide" "I", Cond.fieldLink RX4 83 "Groutline$Layout" "high" "I", Cond.methodLink RX4 64 yX4_has, Cond.instanceMethod yX4_has, Cond.selects RX4 yX4_has yX4_has, Cond.initialized RX4, Cond.code yX4_has cX4_has 2 (some .boolean), Cond.methodLink RX4 68 yX3_frame, Cond.instanceMethod yX3_frame, Cond.selects RX3 yX3_frame yX3_frame, Cond.initialized RX3, Cond.code yX3_frame cX3_frame 9 none, Cond.fieldLink RX3 21 "Groutline$Layout" "pattern" "I", Cond.fieldLink RX3 18 "Groutline$Layout" "border" "I", Cond.fieldLink RX3 9 "Groutline$Layout" "wide" "I", Cond.fieldLink RX3 15 "Groutline$Layout" "high" "I", Cond.methodLink RX3 55 Lib.Math.max.name, Cond.static Lib.Math.max.name]
def wsX4_add_r2 : List Cond := [Cond.initialized "java/lang/Math", Cond.code Lib.Math.max.name Lib.Math.max.code 2 (some .int), Cond.methodLink RX3 60 Lib.Math.min.name, Cond.static Lib.Math.min.name, Cond.code Lib.Math.min.name Lib.Math.min.code 2 (some .int), Cond.methodLink RX3 45 yX3_isBorder, Cond.instanceMethod yX3_isBorder, Cond.selects RX3 yX3_isBorder yX3_isBorder, Cond.code yX3_isBorder cX3_isBorder 3 (some .boolean), Cond.methodLink RX3 24 yX3_rightBorder, Cond.instanceMethod yX3_rightBorder, Cond.selects RX3 yX3_rightBorder yX3_rightBorder, Cond.code yX3_rightBorder cX3_rightBorder 1 (some .int), Cond.methodLink RX3 28 yX3_lowerBorder, Cond.instanceMethod yX3_lowerBorder, Cond.selects RX3 yX3_lowerBorder yX3_lowerBorder, Cond.code yX3_lowerBorder cX3_lowerBorder 1 (some .int), Cond.methodLink RX3 49 yX2_set, Cond.instanceMethod yX2_set, Cond.selects RX2 yX2_set yX2_set, Cond.initialized RX2, Cond.code yX2_set cX2_set 5 none, Cond.fieldLink RX2 7 "Groutline$Frame" "left" "I", Cond.fieldLink RX2 13 "Groutline$Frame" "right" "I"]
def wsX4_add_r3 : List Cond := [Cond.fieldLink RX2 16 "Groutline$Frame" "top" "I", Cond.fieldLink RX2 19 "Groutline$Frame" "bottom" "I", Cond.methodLink RX3 35 yX3_courseOfRow, Cond.instanceMethod yX3_courseOfRow, Cond.selects RX3 yX3_courseOfRow yX3_courseOfRow, Cond.code yX3_courseOfRow cX3_courseOfRow 2 (some .int), Cond.static yX7_timesIn, Cond.initialized RX7, Cond.code yX7_timesIn cX7_timesIn 2 (some .int), Cond.methodLink RX4 73 yX4_measure, Cond.instanceMethod yX4_measure, Cond.selects RX4 yX4_measure yX4_measure, Cond.code yX4_measure cX4_measure 9 none, Cond.fieldLink RX4 86 "Groutline$Frame" "right" "I", Cond.fieldLink RX4 89 "Groutline$Frame" "left" "I", Cond.fieldLink RX4 92 "Groutline$Frame" "top" "I", Cond.fieldLink RX4 95 "Groutline$Frame" "bottom" "I", Cond.fieldLink RX4 15 "Groutline$Pieces" "ofCells" "[I", Cond.methodLink RX4 101 Lib.Math.min.name, Cond.methodLink RX4 106 Lib.Math.max.name, Cond.fieldLink RX4 31 "Groutline$Pieces" "boxWides" "[I", Cond.fieldLink RX4 34 "Groutline$Pieces" "boxHighs" "[I", Cond.static yX7_isCell, Cond.code yX7_isCell cX7_isCell 2 (some .boolean)]
def wsX4_add_r4 : List Cond := [Cond.methodLink RX4 54 yX0_areAt, Cond.instanceMethod yX0_areAt, Cond.selects RX0 yX0_areAt yX0_areAt, Cond.initialized RX0, Cond.code yX0_areAt cX0_areAt 3 (some .boolean), Cond.fieldLink RX0 15 "Groutline$Bars" "barred" "[Z", Cond.static yX7_cellAt, Cond.code yX7_cellAt cX7_cellAt 2 (some .int), Cond.methodLink RX4 77 yX3_isBorder]
def wsX4_add : List Cond := .code yX4_add cX4_add 6 none :: ((wsX4_add_r1 ++ (wsX4_add_r2 ++ (wsX4_add_r3 ++ wsX4_add_r4))) ++ wsX40 ++ wsX30 ++ wsX20 ++ wsX00)
def wsX4_find_r1 : List Cond := [Cond.fieldLink RX4 9 "Groutline$Pieces" "count" "I", Cond.fieldLink RX4 15 "Groutline$Pieces" "ofCells" "[I", Cond.methodLink RX4 44 yJ7_fill_53178, Cond.static yJ7_fill_53178, Cond.initialized RJ7, Cond.code yJ7_fill_53178 cJ7_fill_53178 4 none, Cond.static yX7_cellAt, Cond.initialized RX7, Cond.code yX7_cellAt cX7_cellAt 2 (some .int), Cond.methodLink RX4 54 yX0_areAt, Cond.instanceMethod yX0_areAt, Cond.selects RX0 yX0_areAt yX0_areAt, Cond.initialized RX0, Cond.code yX0_areAt cX0_areAt 3 (some .boolean), Cond.fieldLink RX0 15 "Groutline$Bars" "barred" "[Z", Cond.static yX7_isCell, Cond.code yX7_isCell cX7_isCell 2 (some .boolean), Cond.methodLink RX4 60 yX4_add, Cond.instanceMethod yX4_add, Cond.selects RX4 yX4_add yX4_add, Cond.initialized RX4, Cond.code yX4_add cX4_add 6 none, Cond.fieldLink RX4 22 "Groutline$Pieces" "columns" "[I", Cond.fieldLink RX4 25 "Groutline$Pieces" "rows" "[I"]
def wsX4_find_r2 : List Cond := [Cond.fieldLink RX4 40 "Groutline$Pieces" "frame" "LGroutline$Frame;", Cond.fieldLink RX4 19 "Groutline$Pieces" "kinds" "[I", Cond.fieldLink RX4 28 "Groutline$Pieces" "sizes" "[I", Cond.fieldLink RX4 80 "Groutline$Layout" "wide" "I", Cond.fieldLink RX4 83 "Groutline$Layout" "high" "I", Cond.methodLink RX4 64 yX4_has, Cond.instanceMethod yX4_has, Cond.selects RX4 yX4_has yX4_has, Cond.code yX4_has cX4_has 2 (some .boolean), Cond.methodLink RX4 68 yX3_frame, Cond.instanceMethod yX3_frame, Cond.selects RX3 yX3_frame yX3_frame, Cond.initialized RX3, Cond.code yX3_frame cX3_frame 9 none, Cond.fieldLink RX3 21 "Groutline$Layout" "pattern" "I", Cond.fieldLink RX3 18 "Groutline$Layout" "border" "I", Cond.fieldLink RX3 9 "Groutline$Layout" "wide" "I", Cond.fieldLink RX3 15 "Groutline$Layout" "high" "I", Cond.methodLink RX3 55 Lib.Math.max.name, Cond.static Lib.Math.max.name, Cond.initialized "java/lang/Math", Cond.code Lib.Math.max.name Lib.Math.max.code 2 (some .int), Cond.methodLink RX3 60 Lib.Math.min.name, Cond.static Lib.Math.min.name]
def wsX4_find_r3 : List Cond := [Cond.code Lib.Math.min.name Lib.Math.min.code 2 (some .int), Cond.methodLink RX3 45 yX3_isBorder, Cond.instanceMethod yX3_isBorder, Cond.selects RX3 yX3_isBorder yX3_isBorder, Cond.code yX3_isBorder cX3_isBorder 3 (some .boolean), Cond.methodLink RX3 24 yX3_rightBorder, Cond.instanceMethod yX3_rightBorder, Cond.selects RX3 yX3_rightBorder yX3_rightBorder, Cond.code yX3_rightBorder cX3_rightBorder 1 (some .int), Cond.methodLink RX3 28 yX3_lowerBorder, Cond.instanceMethod yX3_lowerBorder, Cond.selects RX3 yX3_lowerBorder yX3_lowerBorder, Cond.code yX3_lowerBorder cX3_lowerBorder 1 (some .int), Cond.methodLink RX3 49 yX2_set, Cond.instanceMethod yX2_set, Cond.selects RX2 yX2_set yX2_set, Cond.initialized RX2, Cond.code yX2_set cX2_set 5 none, Cond.fieldLink RX2 7 "Groutline$Frame" "left" "I", Cond.fieldLink RX2 13 "Groutline$Frame" "right" "I", Cond.fieldLink RX2 16 "Groutline$Frame" "top" "I", Cond.fieldLink RX2 19 "Groutline$Frame" "bottom" "I", Cond.methodLink RX3 35 yX3_courseOfRow, Cond.instanceMethod yX3_courseOfRow]
def wsX4_find_r4 : List Cond := [Cond.selects RX3 yX3_courseOfRow yX3_courseOfRow, Cond.code yX3_courseOfRow cX3_courseOfRow 2 (some .int), Cond.static yX7_timesIn, Cond.code yX7_timesIn cX7_timesIn 2 (some .int), Cond.methodLink RX4 73 yX4_measure, Cond.instanceMethod yX4_measure, Cond.selects RX4 yX4_measure yX4_measure, Cond.code yX4_measure cX4_measure 9 none, Cond.fieldLink RX4 86 "Groutline$Frame" "right" "I", Cond.fieldLink RX4 89 "Groutline$Frame" "left" "I", Cond.fieldLink RX4 92 "Groutline$Frame" "top" "I", Cond.fieldLink RX4 95 "Groutline$Frame" "bottom" "I", Cond.methodLink RX4 101 Lib.Math.min.name, Cond.methodLink RX4 106 Lib.Math.max.name, Cond.fieldLink RX4 31 "Groutline$Pieces" "boxWides" "[I", Cond.fieldLink RX4 34 "Groutline$Pieces" "boxHighs" "[I", Cond.methodLink RX4 77 yX3_isBorder]
def wsX4_find : List Cond := .code yX4_find cX4_find 6 none :: ((wsX4_find_r1 ++ (wsX4_find_r2 ++ (wsX4_find_r3 ++ wsX4_find_r4))) ++ wsX40 ++ wsX00 ++ wsX30 ++ wsX20)
def wsX5_init : List Cond := .code yX5_init cX5_init 1 none :: ([.methodLink RX5 3 objectInit, .instanceMethod objectInit, .code objectInit ⟨#[0xb1]⟩ 1 none, .fieldLink RX5 9 "Groutline$Stack" "count" "I", .fieldLink RX5 15 "Groutline$Stack" "moved" "I", .arrayClass .int, .fieldLink RX5 18 "Groutline$Stack" "crateFloors" "[I", .fieldLink RX5 22 "Groutline$Stack" "crateTiles" "[I"] ++ wsX50)
def wsX5_isFull : List Cond := .code yX5_isFull cX5_isFull 1 (some .boolean) :: ([.fieldLink RX5 9 "Groutline$Stack" "count" "I"] ++ wsX50)
def wsX5_put : List Cond := .code yX5_put cX5_put 3 none :: ([.fieldLink RX5 9 "Groutline$Stack" "count" "I", .fieldLink RX5 18 "Groutline$Stack" "crateFloors" "[I", .fieldLink RX5 22 "Groutline$Stack" "crateTiles" "[I"] ++ wsX50)
def wsX5_has : List Cond := .code yX5_has cX5_has 2 (some .boolean) :: ([.fieldLink RX5 9 "Groutline$Stack" "count" "I"] ++ wsX50)
def wsX5_remove : List Cond := .code yX5_remove cX5_remove 3 none :: ([.fieldLink RX5 9 "Groutline$Stack" "count" "I", .fieldLink RX5 18 "Groutline$Stack" "crateFloors" "[I", .fieldLink RX5 22 "Groutline$Stack" "crateTiles" "[I", .fieldLink RX5 15 "Groutline$Stack" "moved" "I", .methodLink RX5 25 yX5_has, .instanceMethod yX5_has, .selects RX5 yX5_has yX5_has, .initialized RX5, .code yX5_has cX5_has 2 (some .boolean)] ++ wsX50)
def wsX5_takeTopmostFor : List Cond := .code yX5_takeTopmostFor cX5_takeTopmostFor 4 (some .int) :: ([.fieldLink RX5 9 "Groutline$Stack" "count" "I", .fieldLink RX5 18 "Groutline$Stack" "crateFloors" "[I", .fieldLink RX5 22 "Groutline$Stack" "crateTiles" "[I", .methodLink RX5 25 yX5_has, .instanceMethod yX5_has, .selects RX5 yX5_has yX5_has, .initialized RX5, .code yX5_has cX5_has 2 (some .boolean), .methodLink RX5 29 yX5_remove, .instanceMethod yX5_remove, .selects RX5 yX5_remove yX5_remove, .code yX5_remove cX5_remove 3 none, .fieldLink RX5 15 "Groutline$Stack" "moved" "I"] ++ wsX50)
def wsX6_init : List Cond := .code yX6_init cX6_init 1 none :: ([.methodLink RX6 3 objectInit, .instanceMethod objectInit, .code objectInit ⟨#[0xb1]⟩ 1 none, .fieldLink RX6 9 "Groutline$Work" "hour" "I", .fieldLink RX6 15 "Groutline$Work" "groutHours" "I", .fieldLink RX6 18 "Groutline$Work" "hasBegun" "Z", .arrayClass .boolean, .fieldLink RX6 22 "Groutline$Work" "laid" "[Z", .arrayClass .int, .fieldLink RX6 26 "Groutline$Work" "dryHours" "[I"] ++ wsX60)
def wsX6_dryHourOf : List Cond := .code yX6_dryHourOf cX6_dryHourOf 2 (some .int) :: ([.fieldLink RX6 26 "Groutline$Work" "dryHours" "[I", .methodLink RX6 30 yX6_isLaid, .instanceMethod yX6_isLaid, .selects RX6 yX6_isLaid yX6_isLaid, .initialized RX6, .code yX6_isLaid cX6_isLaid 2 (some .boolean), .fieldLink RX6 22 "Groutline$Work" "laid" "[Z"] ++ wsX60)
def wsX6_canStart : List Cond := .code yX6_canStart cX6_canStart 3 (some .boolean) :: ([.fieldLink RX6 22 "Groutline$Work" "laid" "[Z", .fieldLink RX6 9 "Groutline$Work" "hour" "I", .fieldLink RX6 26 "Groutline$Work" "dryHours" "[I", .methodLink RX6 30 yX6_isLaid, .instanceMethod yX6_isLaid, .selects RX6 yX6_isLaid yX6_isLaid, .initialized RX6, .code yX6_isLaid cX6_isLaid 2 (some .boolean)] ++ wsX60)
def wsX6_finish : List Cond := .code yX6_finish cX6_finish 3 none :: ([.fieldLink RX6 9 "Groutline$Work" "hour" "I", .fieldLink RX6 22 "Groutline$Work" "laid" "[Z", .fieldLink RX6 26 "Groutline$Work" "dryHours" "[I", .fieldLink RX6 15 "Groutline$Work" "groutHours" "I", .fieldLink RX6 18 "Groutline$Work" "hasBegun" "Z", .static yX7_timesIn, .initialized RX7, .code yX7_timesIn cX7_timesIn 2 (some .int)] ++ wsX60)
def wsX7_renew_r1 : List Cond := [Cond.fieldLink RX7 19 "Groutline" "bars" "LGroutline$Bars;", Cond.fieldLink RX7 12 "Groutline" "layout" "LGroutline$Layout;", Cond.fieldLink RX7 47 "Groutline" "work" "LGroutline$Work;", Cond.fieldLink RX7 26 "Groutline" "pieces" "LGroutline$Pieces;", Cond.fieldLink RX7 33 "Groutline" "cuts" "LGroutline$Cuts;", Cond.methodLink RX7 214 yX0_renew, Cond.instanceMethod yX0_renew, Cond.selects RX0 yX0_renew yX0_renew, Cond.initialized RX0, Cond.code yX0_renew cX0_renew 4 none, Cond.methodLink RX0 30 yX3_stripOfRow, Cond.instanceMethod yX3_stripOfRow, Cond.selects RX3 yX3_stripOfRow yX3_stripOfRow, Cond.initialized RX3, Cond.code yX3_stripOfRow cX3_stripOfRow 2 (some .int), Cond.fieldLink RX3 18 "Groutline$Layout" "border" "I", Cond.methodLink RX3 28 yX3_lowerBorder, Cond.instanceMethod yX3_lowerBorder, Cond.selects RX3 yX3_lowerBorder yX3_lowerBorder, Cond.code yX3_lowerBorder cX3_lowerBorder 1 (some .int), Cond.methodLink RX3 39 yX3_countCourses, Cond.instanceMethod yX3_countCourses, Cond.selects RX3 yX3_countCourses yX3_countCourses, Cond.code yX3_countCourses cX3_countCourses 1 (some .int)]
def wsX7_renew_r2 : List Cond := [Cond.methodLink RX3 35 yX3_courseOfRow, Cond.instanceMethod yX3_courseOfRow, Cond.selects RX3 yX3_courseOfRow yX3_courseOfRow, Cond.code yX3_courseOfRow cX3_courseOfRow 2 (some .int), Cond.fieldLink RX3 15 "Groutline$Layout" "high" "I", Cond.static yX7_timesIn, Cond.initialized RX7, Cond.code yX7_timesIn cX7_timesIn 2 (some .int), Cond.methodLink RX0 36 yX6_isLaid, Cond.instanceMethod yX6_isLaid, Cond.selects RX6 yX6_isLaid yX6_isLaid, Cond.initialized RX6, Cond.code yX6_isLaid cX6_isLaid 2 (some .boolean), Cond.fieldLink RX6 22 "Groutline$Work" "laid" "[Z", Cond.methodLink RX0 42 yX0_renewRow, Cond.instanceMethod yX0_renewRow, Cond.selects RX0 yX0_renewRow yX0_renewRow, Cond.code yX0_renewRow cX0_renewRow 4 none, Cond.fieldLink RX0 15 "Groutline$Bars" "barred" "[Z", Cond.fieldLink RX0 9 "Groutline$Bars" "pillars" "[Z", Cond.static yX7_isCell, Cond.code yX7_isCell cX7_isCell 2 (some .boolean), Cond.static yX7_cellAt, Cond.code yX7_cellAt cX7_cellAt 2 (some .int)]
def wsX7_renew_r3 : List Cond := [Cond.methodLink RX0 46 yX0_isDoor, Cond.instanceMethod yX0_isDoor, Cond.selects RX0 yX0_isDoor yX0_isDoor, Cond.code yX0_isDoor cX0_isDoor 3 (some .boolean), Cond.fieldLink RX0 18 "Groutline$Bars" "doorColumn" "I", Cond.methodLink RX7 217 yX4_find, Cond.instanceMethod yX4_find, Cond.selects RX4 yX4_find yX4_find, Cond.initialized RX4, Cond.code yX4_find cX4_find 6 none, Cond.fieldLink RX4 9 "Groutline$Pieces" "count" "I", Cond.fieldLink RX4 15 "Groutline$Pieces" "ofCells" "[I", Cond.methodLink RX4 44 yJ7_fill_53178, Cond.static yJ7_fill_53178, Cond.initialized RJ7, Cond.code yJ7_fill_53178 cJ7_fill_53178 4 none, Cond.methodLink RX4 54 yX0_areAt, Cond.instanceMethod yX0_areAt, Cond.selects RX0 yX0_areAt yX0_areAt, Cond.code yX0_areAt cX0_areAt 3 (some .boolean), Cond.methodLink RX4 60 yX4_add, Cond.instanceMethod yX4_add, Cond.selects RX4 yX4_add yX4_add, Cond.code yX4_add cX4_add 6 none]
def wsX7_renew_r4 : List Cond := [Cond.fieldLink RX4 22 "Groutline$Pieces" "columns" "[I", Cond.fieldLink RX4 25 "Groutline$Pieces" "rows" "[I", Cond.fieldLink RX4 40 "Groutline$Pieces" "frame" "LGroutline$Frame;", Cond.fieldLink RX4 19 "Groutline$Pieces" "kinds" "[I", Cond.fieldLink RX4 28 "Groutline$Pieces" "sizes" "[I", Cond.fieldLink RX4 80 "Groutline$Layout" "wide" "I", Cond.fieldLink RX4 83 "Groutline$Layout" "high" "I", Cond.methodLink RX4 64 yX4_has, Cond.instanceMethod yX4_has, Cond.selects RX4 yX4_has yX4_has, Cond.code yX4_has cX4_has 2 (some .boolean), Cond.methodLink RX4 68 yX3_frame, Cond.instanceMethod yX3_frame, Cond.selects RX3 yX3_frame yX3_frame, Cond.code yX3_frame cX3_frame 9 none, Cond.fieldLink RX3 21 "Groutline$Layout" "pattern" "I", Cond.fieldLink RX3 9 "Groutline$Layout" "wide" "I", Cond.methodLink RX3 55 Lib.Math.max.name, Cond.static Lib.Math.max.name, Cond.initialized "java/lang/Math", Cond.code Lib.Math.max.name Lib.Math.max.code 2 (some .int), Cond.methodLink RX3 60 Lib.Math.min.name, Cond.static Lib.Math.min.name, Cond.code Lib.Math.min.name Lib.Math.min.code 2 (some .int)]
def wsX7_renew_r5 : List Cond := [Cond.methodLink RX3 45 yX3_isBorder, Cond.instanceMethod yX3_isBorder, Cond.selects RX3 yX3_isBorder yX3_isBorder, Cond.code yX3_isBorder cX3_isBorder 3 (some .boolean), Cond.methodLink RX3 24 yX3_rightBorder, Cond.instanceMethod yX3_rightBorder, Cond.selects RX3 yX3_rightBorder yX3_rightBorder, Cond.code yX3_rightBorder cX3_rightBorder 1 (some .int), Cond.methodLink RX3 49 yX2_set, Cond.instanceMethod yX2_set, Cond.selects RX2 yX2_set yX2_set, Cond.initialized RX2, Cond.code yX2_set cX2_set 5 none, Cond.fieldLink RX2 7 "Groutline$Frame" "left" "I", Cond.fieldLink RX2 13 "Groutline$Frame" "right" "I", Cond.fieldLink RX2 16 "Groutline$Frame" "top" "I", Cond.fieldLink RX2 19 "Groutline$Frame" "bottom" "I", Cond.methodLink RX4 73 yX4_measure, Cond.instanceMethod yX4_measure, Cond.selects RX4 yX4_measure yX4_measure, Cond.code yX4_measure cX4_measure 9 none, Cond.fieldLink RX4 86 "Groutline$Frame" "right" "I", Cond.fieldLink RX4 89 "Groutline$Frame" "left" "I", Cond.fieldLink RX4 92 "Groutline$Frame" "top" "I"]
def wsX7_renew_r6 : List Cond := [Cond.fieldLink RX4 95 "Groutline$Frame" "bottom" "I", Cond.methodLink RX4 101 Lib.Math.min.name, Cond.methodLink RX4 106 Lib.Math.max.name, Cond.fieldLink RX4 31 "Groutline$Pieces" "boxWides" "[I", Cond.fieldLink RX4 34 "Groutline$Pieces" "boxHighs" "[I", Cond.methodLink RX4 77 yX3_isBorder, Cond.methodLink RX7 221 yX1_cutAll, Cond.instanceMethod yX1_cutAll, Cond.selects RX1 yX1_cutAll yX1_cutAll, Cond.initialized RX1, Cond.code yX1_cutAll cX1_cutAll 4 none, Cond.fieldLink RX1 9 "Groutline$Cuts" "newTiles" "I", Cond.fieldLink RX1 19 "Groutline$Cuts" "restCount" "I", Cond.fieldLink RX1 15 "Groutline$Cuts" "sources" "[I", Cond.fieldLink RX1 46 "Groutline$Pieces" "kinds" "[I", Cond.fieldLink RX1 49 "Groutline$Pieces" "boxWides" "[I", Cond.fieldLink RX1 52 "Groutline$Pieces" "boxHighs" "[I", Cond.methodLink RX1 35 yJ7_fill_53178, Cond.methodLink RX1 41 yX4_has, Cond.methodLink RX1 55 yX1_cut, Cond.instanceMethod yX1_cut, Cond.selects RX1 yX1_cut yX1_cut, Cond.code yX1_cut cX1_cut 8 none, Cond.fieldLink RX1 63 "Groutline$Layout" "wide" "I"]
def wsX7_renew_r7 : List Cond := [Cond.fieldLink RX1 68 "Groutline$Layout" "high" "I", Cond.fieldLink RX1 22 "Groutline$Cuts" "restWides" "[I", Cond.fieldLink RX1 25 "Groutline$Cuts" "restHighs" "[I", Cond.fieldLink RX1 28 "Groutline$Cuts" "restMakers" "[I", Cond.methodLink RX1 59 yX1_bestRestFor, Cond.instanceMethod yX1_bestRestFor, Cond.selects RX1 yX1_bestRestFor yX1_bestRestFor, Cond.code yX1_bestRestFor cX1_bestRestFor 8 (some .int), Cond.methodLink RX1 31 yX1_hasRest, Cond.instanceMethod yX1_hasRest, Cond.selects RX1 yX1_hasRest yX1_hasRest, Cond.code yX1_hasRest cX1_hasRest 2 (some .boolean), Cond.methodLink RX1 71 yX1_leave, Cond.instanceMethod yX1_leave, Cond.selects RX1 yX1_leave yX1_leave, Cond.code yX1_leave cX1_leave 8 none, Cond.methodLink RX1 79 yX1_addRest, Cond.instanceMethod yX1_addRest, Cond.selects RX1 yX1_addRest yX1_addRest, Cond.code yX1_addRest cX1_addRest 5 none, Cond.methodLink RX1 75 yX1_removeRest, Cond.instanceMethod yX1_removeRest, Cond.selects RX1 yX1_removeRest yX1_removeRest, Cond.code yX1_removeRest cX1_removeRest 3 none]
def wsX7_renew : List Cond := .code yX7_renew cX7_renew 1 none :: ((wsX7_renew_r1 ++ (wsX7_renew_r2 ++ (wsX7_renew_r3 ++ (wsX7_renew_r4 ++ (wsX7_renew_r5 ++ (wsX7_renew_r6 ++ wsX7_renew_r7)))))) ++ wsX70 ++ wsX30 ++ wsX60 ++ wsX00 ++ wsX40 ++ wsX20 ++ wsX10)
def wsX7_init_r1 : List Cond := [Cond.methodLink RX7 3 objectInit, Cond.instanceMethod objectInit, Cond.code objectInit ⟨#[0xb1]⟩ 1 none, Cond.classLink RX7 9 RX3, Cond.instantiable RX3 4, Cond.initialized RX3, Cond.fieldLink RX7 12 "Groutline" "layout" "LGroutline$Layout;", Cond.classLink RX7 16 RX0, Cond.instantiable RX0 3, Cond.initialized RX0, Cond.fieldLink RX7 19 "Groutline" "bars" "LGroutline$Bars;", Cond.classLink RX7 23 RX4, Cond.instantiable RX4 9, Cond.initialized RX4, Cond.fieldLink RX7 26 "Groutline" "pieces" "LGroutline$Pieces;", Cond.classLink RX7 30 RX1, Cond.instantiable RX1 6, Cond.initialized RX1, Cond.fieldLink RX7 33 "Groutline" "cuts" "LGroutline$Cuts;", Cond.classLink RX7 37 RX5, Cond.instantiable RX5 4, Cond.initialized RX5, Cond.fieldLink RX7 40 "Groutline" "stack" "LGroutline$Stack;", Cond.classLink RX7 44 RX6]
def wsX7_init_r2 : List Cond := [Cond.instantiable RX6 5, Cond.initialized RX6, Cond.fieldLink RX7 47 "Groutline" "work" "LGroutline$Work;", Cond.classLink RX7 51 RX2, Cond.instantiable RX2 4, Cond.initialized RX2, Cond.fieldLink RX7 54 "Groutline" "frame" "LGroutline$Frame;", Cond.instanceMethod yX3_init, Cond.code yX3_init cX3_init 1 none, Cond.methodLink RX3 3 objectInit, Cond.fieldLink RX3 9 "Groutline$Layout" "wide" "I", Cond.fieldLink RX3 15 "Groutline$Layout" "high" "I", Cond.fieldLink RX3 18 "Groutline$Layout" "border" "I", Cond.fieldLink RX3 21 "Groutline$Layout" "pattern" "I", Cond.instanceMethod yX0_init, Cond.code yX0_init cX0_init 1 none, Cond.methodLink RX0 3 objectInit, Cond.arrayClass .boolean, Cond.fieldLink RX0 9 "Groutline$Bars" "pillars" "[Z", Cond.fieldLink RX0 15 "Groutline$Bars" "barred" "[Z", Cond.fieldLink RX0 18 "Groutline$Bars" "doorColumn" "I", Cond.instanceMethod yX4_init, Cond.code yX4_init cX4_init 1 none, Cond.methodLink RX4 3 objectInit]
def wsX7_init_r3 : List Cond := [Cond.fieldLink RX4 9 "Groutline$Pieces" "count" "I", Cond.arrayClass .int, Cond.fieldLink RX4 15 "Groutline$Pieces" "ofCells" "[I", Cond.fieldLink RX4 19 "Groutline$Pieces" "kinds" "[I", Cond.fieldLink RX4 22 "Groutline$Pieces" "columns" "[I", Cond.fieldLink RX4 25 "Groutline$Pieces" "rows" "[I", Cond.fieldLink RX4 28 "Groutline$Pieces" "sizes" "[I", Cond.fieldLink RX4 31 "Groutline$Pieces" "boxWides" "[I", Cond.fieldLink RX4 34 "Groutline$Pieces" "boxHighs" "[I", Cond.classLink RX4 37 RX2, Cond.fieldLink RX4 40 "Groutline$Pieces" "frame" "LGroutline$Frame;", Cond.instanceMethod yX2_init, Cond.code yX2_init cX2_init 1 none, Cond.methodLink RX2 1 objectInit, Cond.fieldLink RX2 7 "Groutline$Frame" "left" "I", Cond.fieldLink RX2 13 "Groutline$Frame" "right" "I", Cond.fieldLink RX2 16 "Groutline$Frame" "top" "I", Cond.fieldLink RX2 19 "Groutline$Frame" "bottom" "I", Cond.instanceMethod yX1_init, Cond.code yX1_init cX1_init 1 none, Cond.methodLink RX1 3 objectInit, Cond.fieldLink RX1 9 "Groutline$Cuts" "newTiles" "I", Cond.fieldLink RX1 15 "Groutline$Cuts" "sources" "[I", Cond.fieldLink RX1 19 "Groutline$Cuts" "restCount" "I"]
def wsX7_init_r4 : List Cond := [Cond.fieldLink RX1 22 "Groutline$Cuts" "restWides" "[I", Cond.fieldLink RX1 25 "Groutline$Cuts" "restHighs" "[I", Cond.fieldLink RX1 28 "Groutline$Cuts" "restMakers" "[I", Cond.instanceMethod yX5_init, Cond.code yX5_init cX5_init 1 none, Cond.methodLink RX5 3 objectInit, Cond.fieldLink RX5 9 "Groutline$Stack" "count" "I", Cond.fieldLink RX5 15 "Groutline$Stack" "moved" "I", Cond.fieldLink RX5 18 "Groutline$Stack" "crateFloors" "[I", Cond.fieldLink RX5 22 "Groutline$Stack" "crateTiles" "[I", Cond.instanceMethod yX6_init, Cond.code yX6_init cX6_init 1 none, Cond.methodLink RX6 3 objectInit, Cond.fieldLink RX6 9 "Groutline$Work" "hour" "I", Cond.fieldLink RX6 15 "Groutline$Work" "groutHours" "I", Cond.fieldLink RX6 18 "Groutline$Work" "hasBegun" "Z", Cond.fieldLink RX6 22 "Groutline$Work" "laid" "[Z", Cond.fieldLink RX6 26 "Groutline$Work" "dryHours" "[I", Cond.methodLink RX7 58 yX7_renew, Cond.instanceMethod yX7_renew, Cond.selects RX7 yX7_renew yX7_renew, Cond.initialized RX7, Cond.code yX7_renew cX7_renew 1 none, Cond.methodLink RX7 214 yX0_renew]
def wsX7_init_r5 : List Cond := [Cond.instanceMethod yX0_renew, Cond.selects RX0 yX0_renew yX0_renew, Cond.code yX0_renew cX0_renew 4 none, Cond.methodLink RX0 30 yX3_stripOfRow, Cond.instanceMethod yX3_stripOfRow, Cond.selects RX3 yX3_stripOfRow yX3_stripOfRow, Cond.code yX3_stripOfRow cX3_stripOfRow 2 (some .int), Cond.methodLink RX3 28 yX3_lowerBorder, Cond.instanceMethod yX3_lowerBorder, Cond.selects RX3 yX3_lowerBorder yX3_lowerBorder, Cond.code yX3_lowerBorder cX3_lowerBorder 1 (some .int), Cond.methodLink RX3 39 yX3_countCourses, Cond.instanceMethod yX3_countCourses, Cond.selects RX3 yX3_countCourses yX3_countCourses, Cond.code yX3_countCourses cX3_countCourses 1 (some .int), Cond.methodLink RX3 35 yX3_courseOfRow, Cond.instanceMethod yX3_courseOfRow, Cond.selects RX3 yX3_courseOfRow yX3_courseOfRow, Cond.code yX3_courseOfRow cX3_courseOfRow 2 (some .int), Cond.static yX7_timesIn, Cond.code yX7_timesIn cX7_timesIn 2 (some .int), Cond.methodLink RX0 36 yX6_isLaid, Cond.instanceMethod yX6_isLaid, Cond.selects RX6 yX6_isLaid yX6_isLaid]
def wsX7_init_r6 : List Cond := [Cond.code yX6_isLaid cX6_isLaid 2 (some .boolean), Cond.methodLink RX0 42 yX0_renewRow, Cond.instanceMethod yX0_renewRow, Cond.selects RX0 yX0_renewRow yX0_renewRow, Cond.code yX0_renewRow cX0_renewRow 4 none, Cond.static yX7_isCell, Cond.code yX7_isCell cX7_isCell 2 (some .boolean), Cond.static yX7_cellAt, Cond.code yX7_cellAt cX7_cellAt 2 (some .int), Cond.methodLink RX0 46 yX0_isDoor, Cond.instanceMethod yX0_isDoor, Cond.selects RX0 yX0_isDoor yX0_isDoor, Cond.code yX0_isDoor cX0_isDoor 3 (some .boolean), Cond.methodLink RX7 217 yX4_find, Cond.instanceMethod yX4_find, Cond.selects RX4 yX4_find yX4_find, Cond.code yX4_find cX4_find 6 none, Cond.methodLink RX4 44 yJ7_fill_53178, Cond.static yJ7_fill_53178, Cond.initialized RJ7, Cond.code yJ7_fill_53178 cJ7_fill_53178 4 none, Cond.methodLink RX4 54 yX0_areAt, Cond.instanceMethod yX0_areAt, Cond.selects RX0 yX0_areAt yX0_areAt]
def wsX7_init_r7 : List Cond := [Cond.code yX0_areAt cX0_areAt 3 (some .boolean), Cond.methodLink RX4 60 yX4_add, Cond.instanceMethod yX4_add, Cond.selects RX4 yX4_add yX4_add, Cond.code yX4_add cX4_add 6 none, Cond.fieldLink RX4 80 "Groutline$Layout" "wide" "I", Cond.fieldLink RX4 83 "Groutline$Layout" "high" "I", Cond.methodLink RX4 64 yX4_has, Cond.instanceMethod yX4_has, Cond.selects RX4 yX4_has yX4_has, Cond.code yX4_has cX4_has 2 (some .boolean), Cond.methodLink RX4 68 yX3_frame, Cond.instanceMethod yX3_frame, Cond.selects RX3 yX3_frame yX3_frame, Cond.code yX3_frame cX3_frame 9 none, Cond.methodLink RX3 55 Lib.Math.max.name, Cond.static Lib.Math.max.name, Cond.initialized "java/lang/Math", Cond.code Lib.Math.max.name Lib.Math.max.code 2 (some .int), Cond.methodLink RX3 60 Lib.Math.min.name, Cond.static Lib.Math.min.name, Cond.code Lib.Math.min.name Lib.Math.min.code 2 (some .int), Cond.methodLink RX3 45 yX3_isBorder, Cond.instanceMethod yX3_isBorder]
def wsX7_init_r8 : List Cond := [Cond.selects RX3 yX3_isBorder yX3_isBorder, Cond.code yX3_isBorder cX3_isBorder 3 (some .boolean), Cond.methodLink RX3 24 yX3_rightBorder, Cond.instanceMethod yX3_rightBorder, Cond.selects RX3 yX3_rightBorder yX3_rightBorder, Cond.code yX3_rightBorder cX3_rightBorder 1 (some .int), Cond.methodLink RX3 49 yX2_set, Cond.instanceMethod yX2_set, Cond.selects RX2 yX2_set yX2_set, Cond.code yX2_set cX2_set 5 none, Cond.methodLink RX4 73 yX4_measure, Cond.instanceMethod yX4_measure, Cond.selects RX4 yX4_measure yX4_measure, Cond.code yX4_measure cX4_measure 9 none, Cond.fieldLink RX4 86 "Groutline$Frame" "right" "I", Cond.fieldLink RX4 89 "Groutline$Frame" "left" "I", Cond.fieldLink RX4 92 "Groutline$Frame" "top" "I", Cond.fieldLink RX4 95 "Groutline$Frame" "bottom" "I", Cond.methodLink RX4 101 Lib.Math.min.name, Cond.methodLink RX4 106 Lib.Math.max.name, Cond.methodLink RX4 77 yX3_isBorder, Cond.methodLink RX7 221 yX1_cutAll, Cond.instanceMethod yX1_cutAll, Cond.selects RX1 yX1_cutAll yX1_cutAll]
def wsX7_init_r9 : List Cond := [Cond.code yX1_cutAll cX1_cutAll 4 none, Cond.fieldLink RX1 46 "Groutline$Pieces" "kinds" "[I", Cond.fieldLink RX1 49 "Groutline$Pieces" "boxWides" "[I", Cond.fieldLink RX1 52 "Groutline$Pieces" "boxHighs" "[I", Cond.methodLink RX1 35 yJ7_fill_53178, Cond.methodLink RX1 41 yX4_has, Cond.methodLink RX1 55 yX1_cut, Cond.instanceMethod yX1_cut, Cond.selects RX1 yX1_cut yX1_cut, Cond.code yX1_cut cX1_cut 8 none, Cond.fieldLink RX1 63 "Groutline$Layout" "wide" "I", Cond.fieldLink RX1 68 "Groutline$Layout" "high" "I", Cond.methodLink RX1 59 yX1_bestRestFor, Cond.instanceMethod yX1_bestRestFor, Cond.selects RX1 yX1_bestRestFor yX1_bestRestFor, Cond.code yX1_bestRestFor cX1_bestRestFor 8 (some .int), Cond.methodLink RX1 31 yX1_hasRest, Cond.instanceMethod yX1_hasRest, Cond.selects RX1 yX1_hasRest yX1_hasRest, Cond.code yX1_hasRest cX1_hasRest 2 (some .boolean), Cond.methodLink RX1 71 yX1_leave, Cond.instanceMethod yX1_leave, Cond.selects RX1 yX1_leave yX1_leave, Cond.code yX1_leave cX1_leave 8 none]
def wsX7_init_r10 : List Cond := [Cond.methodLink RX1 79 yX1_addRest, Cond.instanceMethod yX1_addRest, Cond.selects RX1 yX1_addRest yX1_addRest, Cond.code yX1_addRest cX1_addRest 5 none, Cond.methodLink RX1 75 yX1_removeRest, Cond.instanceMethod yX1_removeRest, Cond.selects RX1 yX1_removeRest yX1_removeRest, Cond.code yX1_removeRest cX1_removeRest 3 none]
def wsX7_init : List Cond := .code yX7_init cX7_init 1 none :: ((wsX7_init_r1 ++ (wsX7_init_r2 ++ (wsX7_init_r3 ++ (wsX7_init_r4 ++ (wsX7_init_r5 ++ (wsX7_init_r6 ++ (wsX7_init_r7 ++ (wsX7_init_r8 ++ (wsX7_init_r9 ++ wsX7_init_r10))))))))) ++ wsX30 ++ wsX70 ++ wsX00 ++ wsX40 ++ wsX10 ++ wsX50 ++ wsX60 ++ wsX20)
def wsX7_isWithin : List Cond := .code yX7_isWithin cX7_isWithin 3 (some .boolean) :: ([])
def wsX7_plan_r1 : List Cond := [Cond.classLink RX7 65 "java/lang/IllegalArgumentException", Cond.initialized "java/lang/IllegalArgumentException", Cond.classLink RX7 80 "java/lang/IllegalStateException", Cond.initialized "java/lang/IllegalStateException", Cond.fieldLink RX7 47 "Groutline" "work" "LGroutline$Work;", Cond.fieldLink RX7 76 "Groutline$Work" "hasBegun" "Z", Cond.fieldLink RX7 12 "Groutline" "layout" "LGroutline$Layout;", Cond.fieldLink RX7 26 "Groutline" "pieces" "LGroutline$Pieces;", Cond.fieldLink RX7 89 "Groutline$Pieces" "count" "I", Cond.methodLink RX7 61 yX7_isWithin, Cond.static yX7_isWithin, Cond.initialized RX7, Cond.code yX7_isWithin cX7_isWithin 3 (some .boolean), Cond.methodLink RX7 85 yX3_set, Cond.instanceMethod yX3_set, Cond.selects RX3 yX3_set yX3_set, Cond.initialized RX3, Cond.code yX3_set cX3_set 5 none, Cond.fieldLink RX3 9 "Groutline$Layout" "wide" "I", Cond.fieldLink RX3 15 "Groutline$Layout" "high" "I", Cond.fieldLink RX3 18 "Groutline$Layout" "border" "I", Cond.fieldLink RX3 21 "Groutline$Layout" "pattern" "I", Cond.methodLink RX7 58 yX7_renew, Cond.instanceMethod yX7_renew]
def wsX7_plan_r2 : List Cond := [Cond.selects RX7 yX7_renew yX7_renew, Cond.code yX7_renew cX7_renew 1 none, Cond.fieldLink RX7 19 "Groutline" "bars" "LGroutline$Bars;", Cond.fieldLink RX7 33 "Groutline" "cuts" "LGroutline$Cuts;", Cond.methodLink RX7 214 yX0_renew, Cond.instanceMethod yX0_renew, Cond.selects RX0 yX0_renew yX0_renew, Cond.initialized RX0, Cond.code yX0_renew cX0_renew 4 none, Cond.methodLink RX0 30 yX3_stripOfRow, Cond.instanceMethod yX3_stripOfRow, Cond.selects RX3 yX3_stripOfRow yX3_stripOfRow, Cond.code yX3_stripOfRow cX3_stripOfRow 2 (some .int), Cond.methodLink RX3 28 yX3_lowerBorder, Cond.instanceMethod yX3_lowerBorder, Cond.selects RX3 yX3_lowerBorder yX3_lowerBorder, Cond.code yX3_lowerBorder cX3_lowerBorder 1 (some .int), Cond.methodLink RX3 39 yX3_countCourses, Cond.instanceMethod yX3_countCourses, Cond.selects RX3 yX3_countCourses yX3_countCourses, Cond.code yX3_countCourses cX3_countCourses 1 (some .int), Cond.methodLink RX3 35 yX3_courseOfRow, Cond.instanceMethod yX3_courseOfRow, Cond.selects RX3 yX3_courseOfRow yX3_courseOfRow]
def wsX7_plan_r3 : List Cond := [Cond.code yX3_courseOfRow cX3_courseOfRow 2 (some .int), Cond.static yX7_timesIn, Cond.code yX7_timesIn cX7_timesIn 2 (some .int), Cond.methodLink RX0 36 yX6_isLaid, Cond.instanceMethod yX6_isLaid, Cond.selects RX6 yX6_isLaid yX6_isLaid, Cond.initialized RX6, Cond.code yX6_isLaid cX6_isLaid 2 (some .boolean), Cond.fieldLink RX6 22 "Groutline$Work" "laid" "[Z", Cond.methodLink RX0 42 yX0_renewRow, Cond.instanceMethod yX0_renewRow, Cond.selects RX0 yX0_renewRow yX0_renewRow, Cond.code yX0_renewRow cX0_renewRow 4 none, Cond.fieldLink RX0 15 "Groutline$Bars" "barred" "[Z", Cond.fieldLink RX0 9 "Groutline$Bars" "pillars" "[Z", Cond.static yX7_isCell, Cond.code yX7_isCell cX7_isCell 2 (some .boolean), Cond.static yX7_cellAt, Cond.code yX7_cellAt cX7_cellAt 2 (some .int), Cond.methodLink RX0 46 yX0_isDoor, Cond.instanceMethod yX0_isDoor, Cond.selects RX0 yX0_isDoor yX0_isDoor, Cond.code yX0_isDoor cX0_isDoor 3 (some .boolean), Cond.fieldLink RX0 18 "Groutline$Bars" "doorColumn" "I"]
def wsX7_plan_r4 : List Cond := [Cond.methodLink RX7 217 yX4_find, Cond.instanceMethod yX4_find, Cond.selects RX4 yX4_find yX4_find, Cond.initialized RX4, Cond.code yX4_find cX4_find 6 none, Cond.fieldLink RX4 9 "Groutline$Pieces" "count" "I", Cond.fieldLink RX4 15 "Groutline$Pieces" "ofCells" "[I", Cond.methodLink RX4 44 yJ7_fill_53178, Cond.static yJ7_fill_53178, Cond.initialized RJ7, Cond.code yJ7_fill_53178 cJ7_fill_53178 4 none, Cond.methodLink RX4 54 yX0_areAt, Cond.instanceMethod yX0_areAt, Cond.selects RX0 yX0_areAt yX0_areAt, Cond.code yX0_areAt cX0_areAt 3 (some .boolean), Cond.methodLink RX4 60 yX4_add, Cond.instanceMethod yX4_add, Cond.selects RX4 yX4_add yX4_add, Cond.code yX4_add cX4_add 6 none, Cond.fieldLink RX4 22 "Groutline$Pieces" "columns" "[I", Cond.fieldLink RX4 25 "Groutline$Pieces" "rows" "[I", Cond.fieldLink RX4 40 "Groutline$Pieces" "frame" "LGroutline$Frame;", Cond.fieldLink RX4 19 "Groutline$Pieces" "kinds" "[I", Cond.fieldLink RX4 28 "Groutline$Pieces" "sizes" "[I"]
def wsX7_plan_r5 : List Cond := [Cond.fieldLink RX4 80 "Groutline$Layout" "wide" "I", Cond.fieldLink RX4 83 "Groutline$Layout" "high" "I", Cond.methodLink RX4 64 yX4_has, Cond.instanceMethod yX4_has, Cond.selects RX4 yX4_has yX4_has, Cond.code yX4_has cX4_has 2 (some .boolean), Cond.methodLink RX4 68 yX3_frame, Cond.instanceMethod yX3_frame, Cond.selects RX3 yX3_frame yX3_frame, Cond.code yX3_frame cX3_frame 9 none, Cond.methodLink RX3 55 Lib.Math.max.name, Cond.static Lib.Math.max.name, Cond.initialized "java/lang/Math", Cond.code Lib.Math.max.name Lib.Math.max.code 2 (some .int), Cond.methodLink RX3 60 Lib.Math.min.name, Cond.static Lib.Math.min.name, Cond.code Lib.Math.min.name Lib.Math.min.code 2 (some .int), Cond.methodLink RX3 45 yX3_isBorder, Cond.instanceMethod yX3_isBorder, Cond.selects RX3 yX3_isBorder yX3_isBorder, Cond.code yX3_isBorder cX3_isBorder 3 (some .boolean), Cond.methodLink RX3 24 yX3_rightBorder, Cond.instanceMethod yX3_rightBorder, Cond.selects RX3 yX3_rightBorder yX3_rightBorder]
def wsX7_plan_r6 : List Cond := [Cond.code yX3_rightBorder cX3_rightBorder 1 (some .int), Cond.methodLink RX3 49 yX2_set, Cond.instanceMethod yX2_set, Cond.selects RX2 yX2_set yX2_set, Cond.initialized RX2, Cond.code yX2_set cX2_set 5 none, Cond.fieldLink RX2 7 "Groutline$Frame" "left" "I", Cond.fieldLink RX2 13 "Groutline$Frame" "right" "I", Cond.fieldLink RX2 16 "Groutline$Frame" "top" "I", Cond.fieldLink RX2 19 "Groutline$Frame" "bottom" "I", Cond.methodLink RX4 73 yX4_measure, Cond.instanceMethod yX4_measure, Cond.selects RX4 yX4_measure yX4_measure, Cond.code yX4_measure cX4_measure 9 none, Cond.fieldLink RX4 86 "Groutline$Frame" "right" "I", Cond.fieldLink RX4 89 "Groutline$Frame" "left" "I", Cond.fieldLink RX4 92 "Groutline$Frame" "top" "I", Cond.fieldLink RX4 95 "Groutline$Frame" "bottom" "I", Cond.methodLink RX4 101 Lib.Math.min.name, Cond.methodLink RX4 106 Lib.Math.max.name, Cond.fieldLink RX4 31 "Groutline$Pieces" "boxWides" "[I", Cond.fieldLink RX4 34 "Groutline$Pieces" "boxHighs" "[I", Cond.methodLink RX4 77 yX3_isBorder, Cond.methodLink RX7 221 yX1_cutAll]
def wsX7_plan_r7 : List Cond := [Cond.instanceMethod yX1_cutAll, Cond.selects RX1 yX1_cutAll yX1_cutAll, Cond.initialized RX1, Cond.code yX1_cutAll cX1_cutAll 4 none, Cond.fieldLink RX1 9 "Groutline$Cuts" "newTiles" "I", Cond.fieldLink RX1 19 "Groutline$Cuts" "restCount" "I", Cond.fieldLink RX1 15 "Groutline$Cuts" "sources" "[I", Cond.fieldLink RX1 46 "Groutline$Pieces" "kinds" "[I", Cond.fieldLink RX1 49 "Groutline$Pieces" "boxWides" "[I", Cond.fieldLink RX1 52 "Groutline$Pieces" "boxHighs" "[I", Cond.methodLink RX1 35 yJ7_fill_53178, Cond.methodLink RX1 41 yX4_has, Cond.methodLink RX1 55 yX1_cut, Cond.instanceMethod yX1_cut, Cond.selects RX1 yX1_cut yX1_cut, Cond.code yX1_cut cX1_cut 8 none, Cond.fieldLink RX1 63 "Groutline$Layout" "wide" "I", Cond.fieldLink RX1 68 "Groutline$Layout" "high" "I", Cond.fieldLink RX1 22 "Groutline$Cuts" "restWides" "[I", Cond.fieldLink RX1 25 "Groutline$Cuts" "restHighs" "[I", Cond.fieldLink RX1 28 "Groutline$Cuts" "restMakers" "[I", Cond.methodLink RX1 59 yX1_bestRestFor, Cond.instanceMethod yX1_bestRestFor, Cond.selects RX1 yX1_bestRestFor yX1_bestRestFor]
def wsX7_plan_r8 : List Cond := [Cond.code yX1_bestRestFor cX1_bestRestFor 8 (some .int), Cond.methodLink RX1 31 yX1_hasRest, Cond.instanceMethod yX1_hasRest, Cond.selects RX1 yX1_hasRest yX1_hasRest, Cond.code yX1_hasRest cX1_hasRest 2 (some .boolean), Cond.methodLink RX1 71 yX1_leave, Cond.instanceMethod yX1_leave, Cond.selects RX1 yX1_leave yX1_leave, Cond.code yX1_leave cX1_leave 8 none, Cond.methodLink RX1 79 yX1_addRest, Cond.instanceMethod yX1_addRest, Cond.selects RX1 yX1_addRest yX1_addRest, Cond.code yX1_addRest cX1_addRest 5 none, Cond.methodLink RX1 75 yX1_removeRest, Cond.instanceMethod yX1_removeRest, Cond.selects RX1 yX1_removeRest yX1_removeRest, Cond.code yX1_removeRest cX1_removeRest 3 none]
def wsX7_plan : List Cond := .code yX7_plan cX7_plan 5 (some .int) :: ((wsX7_plan_r1 ++ (wsX7_plan_r2 ++ (wsX7_plan_r3 ++ (wsX7_plan_r4 ++ (wsX7_plan_r5 ++ (wsX7_plan_r6 ++ (wsX7_plan_r7 ++ wsX7_plan_r8))))))) ++ wsX70 ++ wsX60 ++ wsX40 ++ wsX30 ++ wsX00 ++ wsX20 ++ wsX10 ++ (vx_atS RX7 69 "java/lang/IllegalArgumentException" ["java/lang/RuntimeException", "java/lang/Exception"]).filter goodWord ++ (vx_atS RX7 84 "java/lang/IllegalStateException" ["java/lang/RuntimeException", "java/lang/Exception"]).filter goodWord)
def wsX7_pillar_r1 : List Cond := [Cond.classLink RX7 97 "java/lang/IndexOutOfBoundsException", Cond.initialized "java/lang/IndexOutOfBoundsException", Cond.classLink RX7 80 "java/lang/IllegalStateException", Cond.initialized "java/lang/IllegalStateException", Cond.fieldLink RX7 47 "Groutline" "work" "LGroutline$Work;", Cond.fieldLink RX7 76 "Groutline$Work" "hasBegun" "Z", Cond.fieldLink RX7 19 "Groutline" "bars" "LGroutline$Bars;", Cond.methodLink RX7 93 yX7_isCell, Cond.static yX7_isCell, Cond.initialized RX7, Cond.code yX7_isCell cX7_isCell 2 (some .boolean), Cond.methodLink RX7 102 yX0_setPillar, Cond.instanceMethod yX0_setPillar, Cond.selects RX0 yX0_setPillar yX0_setPillar, Cond.initialized RX0, Cond.code yX0_setPillar cX0_setPillar 5 (some .boolean), Cond.fieldLink RX0 9 "Groutline$Bars" "pillars" "[Z", Cond.static yX7_cellAt, Cond.code yX7_cellAt cX7_cellAt 2 (some .int), Cond.methodLink RX7 58 yX7_renew, Cond.instanceMethod yX7_renew, Cond.selects RX7 yX7_renew yX7_renew, Cond.code yX7_renew cX7_renew 1 none, Cond.fieldLink RX7 12 "Groutline" "layout" "LGroutline$Layout;"]
def wsX7_pillar_r2 : List Cond := [Cond.fieldLink RX7 26 "Groutline" "pieces" "LGroutline$Pieces;", Cond.fieldLink RX7 33 "Groutline" "cuts" "LGroutline$Cuts;", Cond.methodLink RX7 214 yX0_renew, Cond.instanceMethod yX0_renew, Cond.selects RX0 yX0_renew yX0_renew, Cond.code yX0_renew cX0_renew 4 none, Cond.methodLink RX0 30 yX3_stripOfRow, Cond.instanceMethod yX3_stripOfRow, Cond.selects RX3 yX3_stripOfRow yX3_stripOfRow, Cond.initialized RX3, Cond.code yX3_stripOfRow cX3_stripOfRow 2 (some .int), Cond.fieldLink RX3 18 "Groutline$Layout" "border" "I", Cond.methodLink RX3 28 yX3_lowerBorder, Cond.instanceMethod yX3_lowerBorder, Cond.selects RX3 yX3_lowerBorder yX3_lowerBorder, Cond.code yX3_lowerBorder cX3_lowerBorder 1 (some .int), Cond.methodLink RX3 39 yX3_countCourses, Cond.instanceMethod yX3_countCourses, Cond.selects RX3 yX3_countCourses yX3_countCourses, Cond.code yX3_countCourses cX3_countCourses 1 (some .int), Cond.methodLink RX3 35 yX3_courseOfRow, Cond.instanceMethod yX3_courseOfRow, Cond.selects RX3 yX3_courseOfRow yX3_courseOfRow, Cond.code yX3_courseOfRow cX3_courseOfRow 2 (some .int)]
def wsX7_pillar_r3 : List Cond := [Cond.fieldLink RX3 15 "Groutline$Layout" "high" "I", Cond.static yX7_timesIn, Cond.code yX7_timesIn cX7_timesIn 2 (some .int), Cond.methodLink RX0 36 yX6_isLaid, Cond.instanceMethod yX6_isLaid, Cond.selects RX6 yX6_isLaid yX6_isLaid, Cond.initialized RX6, Cond.code yX6_isLaid cX6_isLaid 2 (some .boolean), Cond.fieldLink RX6 22 "Groutline$Work" "laid" "[Z", Cond.methodLink RX0 42 yX0_renewRow, Cond.instanceMethod yX0_renewRow, Cond.selects RX0 yX0_renewRow yX0_renewRow, Cond.code yX0_renewRow cX0_renewRow 4 none, Cond.fieldLink RX0 15 "Groutline$Bars" "barred" "[Z", Cond.methodLink RX0 46 yX0_isDoor, Cond.instanceMethod yX0_isDoor, Cond.selects RX0 yX0_isDoor yX0_isDoor, Cond.code yX0_isDoor cX0_isDoor 3 (some .boolean), Cond.fieldLink RX0 18 "Groutline$Bars" "doorColumn" "I", Cond.methodLink RX7 217 yX4_find, Cond.instanceMethod yX4_find, Cond.selects RX4 yX4_find yX4_find, Cond.initialized RX4, Cond.code yX4_find cX4_find 6 none]
def wsX7_pillar_r4 : List Cond := [Cond.fieldLink RX4 9 "Groutline$Pieces" "count" "I", Cond.fieldLink RX4 15 "Groutline$Pieces" "ofCells" "[I", Cond.methodLink RX4 44 yJ7_fill_53178, Cond.static yJ7_fill_53178, Cond.initialized RJ7, Cond.code yJ7_fill_53178 cJ7_fill_53178 4 none, Cond.methodLink RX4 54 yX0_areAt, Cond.instanceMethod yX0_areAt, Cond.selects RX0 yX0_areAt yX0_areAt, Cond.code yX0_areAt cX0_areAt 3 (some .boolean), Cond.methodLink RX4 60 yX4_add, Cond.instanceMethod yX4_add, Cond.selects RX4 yX4_add yX4_add, Cond.code yX4_add cX4_add 6 none, Cond.fieldLink RX4 22 "Groutline$Pieces" "columns" "[I", Cond.fieldLink RX4 25 "Groutline$Pieces" "rows" "[I", Cond.fieldLink RX4 40 "Groutline$Pieces" "frame" "LGroutline$Frame;", Cond.fieldLink RX4 19 "Groutline$Pieces" "kinds" "[I", Cond.fieldLink RX4 28 "Groutline$Pieces" "sizes" "[I", Cond.fieldLink RX4 80 "Groutline$Layout" "wide" "I", Cond.fieldLink RX4 83 "Groutline$Layout" "high" "I", Cond.methodLink RX4 64 yX4_has, Cond.instanceMethod yX4_has, Cond.selects RX4 yX4_has yX4_has]
def wsX7_pillar_r5 : List Cond := [Cond.code yX4_has cX4_has 2 (some .boolean), Cond.methodLink RX4 68 yX3_frame, Cond.instanceMethod yX3_frame, Cond.selects RX3 yX3_frame yX3_frame, Cond.code yX3_frame cX3_frame 9 none, Cond.fieldLink RX3 21 "Groutline$Layout" "pattern" "I", Cond.fieldLink RX3 9 "Groutline$Layout" "wide" "I", Cond.methodLink RX3 55 Lib.Math.max.name, Cond.static Lib.Math.max.name, Cond.initialized "java/lang/Math", Cond.code Lib.Math.max.name Lib.Math.max.code 2 (some .int), Cond.methodLink RX3 60 Lib.Math.min.name, Cond.static Lib.Math.min.name, Cond.code Lib.Math.min.name Lib.Math.min.code 2 (some .int), Cond.methodLink RX3 45 yX3_isBorder, Cond.instanceMethod yX3_isBorder, Cond.selects RX3 yX3_isBorder yX3_isBorder, Cond.code yX3_isBorder cX3_isBorder 3 (some .boolean), Cond.methodLink RX3 24 yX3_rightBorder, Cond.instanceMethod yX3_rightBorder, Cond.selects RX3 yX3_rightBorder yX3_rightBorder, Cond.code yX3_rightBorder cX3_rightBorder 1 (some .int), Cond.methodLink RX3 49 yX2_set, Cond.instanceMethod yX2_set]
def wsX7_pillar_r6 : List Cond := [Cond.selects RX2 yX2_set yX2_set, Cond.initialized RX2, Cond.code yX2_set cX2_set 5 none, Cond.fieldLink RX2 7 "Groutline$Frame" "left" "I", Cond.fieldLink RX2 13 "Groutline$Frame" "right" "I", Cond.fieldLink RX2 16 "Groutline$Frame" "top" "I", Cond.fieldLink RX2 19 "Groutline$Frame" "bottom" "I", Cond.methodLink RX4 73 yX4_measure, Cond.instanceMethod yX4_measure, Cond.selects RX4 yX4_measure yX4_measure, Cond.code yX4_measure cX4_measure 9 none, Cond.fieldLink RX4 86 "Groutline$Frame" "right" "I", Cond.fieldLink RX4 89 "Groutline$Frame" "left" "I", Cond.fieldLink RX4 92 "Groutline$Frame" "top" "I", Cond.fieldLink RX4 95 "Groutline$Frame" "bottom" "I", Cond.methodLink RX4 101 Lib.Math.min.name, Cond.methodLink RX4 106 Lib.Math.max.name, Cond.fieldLink RX4 31 "Groutline$Pieces" "boxWides" "[I", Cond.fieldLink RX4 34 "Groutline$Pieces" "boxHighs" "[I", Cond.methodLink RX4 77 yX3_isBorder, Cond.methodLink RX7 221 yX1_cutAll, Cond.instanceMethod yX1_cutAll, Cond.selects RX1 yX1_cutAll yX1_cutAll, Cond.initialized RX1]
def wsX7_pillar_r7 : List Cond := [Cond.code yX1_cutAll cX1_cutAll 4 none, Cond.fieldLink RX1 9 "Groutline$Cuts" "newTiles" "I", Cond.fieldLink RX1 19 "Groutline$Cuts" "restCount" "I", Cond.fieldLink RX1 15 "Groutline$Cuts" "sources" "[I", Cond.fieldLink RX1 46 "Groutline$Pieces" "kinds" "[I", Cond.fieldLink RX1 49 "Groutline$Pieces" "boxWides" "[I", Cond.fieldLink RX1 52 "Groutline$Pieces" "boxHighs" "[I", Cond.methodLink RX1 35 yJ7_fill_53178, Cond.methodLink RX1 41 yX4_has, Cond.methodLink RX1 55 yX1_cut, Cond.instanceMethod yX1_cut, Cond.selects RX1 yX1_cut yX1_cut, Cond.code yX1_cut cX1_cut 8 none, Cond.fieldLink RX1 63 "Groutline$Layout" "wide" "I", Cond.fieldLink RX1 68 "Groutline$Layout" "high" "I", Cond.fieldLink RX1 22 "Groutline$Cuts" "restWides" "[I", Cond.fieldLink RX1 25 "Groutline$Cuts" "restHighs" "[I", Cond.fieldLink RX1 28 "Groutline$Cuts" "restMakers" "[I", Cond.methodLink RX1 59 yX1_bestRestFor, Cond.instanceMethod yX1_bestRestFor, Cond.selects RX1 yX1_bestRestFor yX1_bestRestFor, Cond.code yX1_bestRestFor cX1_bestRestFor 8 (some .int), Cond.methodLink RX1 31 yX1_hasRest, Cond.instanceMethod yX1_hasRest]
def wsX7_pillar_r8 : List Cond := [Cond.selects RX1 yX1_hasRest yX1_hasRest, Cond.code yX1_hasRest cX1_hasRest 2 (some .boolean), Cond.methodLink RX1 71 yX1_leave, Cond.instanceMethod yX1_leave, Cond.selects RX1 yX1_leave yX1_leave, Cond.code yX1_leave cX1_leave 8 none, Cond.methodLink RX1 79 yX1_addRest, Cond.instanceMethod yX1_addRest, Cond.selects RX1 yX1_addRest yX1_addRest, Cond.code yX1_addRest cX1_addRest 5 none, Cond.methodLink RX1 75 yX1_removeRest, Cond.instanceMethod yX1_removeRest, Cond.selects RX1 yX1_removeRest yX1_removeRest, Cond.code yX1_removeRest cX1_removeRest 3 none]
def wsX7_pillar : List Cond := .code yX7_pillar cX7_pillar 5 (some .boolean) :: ((wsX7_pillar_r1 ++ (wsX7_pillar_r2 ++ (wsX7_pillar_r3 ++ (wsX7_pillar_r4 ++ (wsX7_pillar_r5 ++ (wsX7_pillar_r6 ++ (wsX7_pillar_r7 ++ wsX7_pillar_r8))))))) ++ wsX70 ++ wsX60 ++ wsX00 ++ wsX30 ++ wsX40 ++ wsX20 ++ wsX10 ++ (vx_atS RX7 101 "java/lang/IndexOutOfBoundsException" ["java/lang/RuntimeException", "java/lang/Exception"]).filter goodWord ++ (vx_atS RX7 84 "java/lang/IllegalStateException" ["java/lang/RuntimeException", "java/lang/Exception"]).filter goodWord)
def wsX7_door_r1 : List Cond := [Cond.classLink RX7 97 "java/lang/IndexOutOfBoundsException", Cond.initialized "java/lang/IndexOutOfBoundsException", Cond.fieldLink RX7 19 "Groutline" "bars" "LGroutline$Bars;", Cond.fieldLink RX7 108 "Groutline$Bars" "doorColumn" "I", Cond.fieldLink RX7 26 "Groutline" "pieces" "LGroutline$Pieces;", Cond.fieldLink RX7 89 "Groutline$Pieces" "count" "I", Cond.methodLink RX7 61 yX7_isWithin, Cond.static yX7_isWithin, Cond.initialized RX7, Cond.code yX7_isWithin cX7_isWithin 3 (some .boolean), Cond.methodLink RX7 58 yX7_renew, Cond.instanceMethod yX7_renew, Cond.selects RX7 yX7_renew yX7_renew, Cond.code yX7_renew cX7_renew 1 none, Cond.fieldLink RX7 12 "Groutline" "layout" "LGroutline$Layout;", Cond.fieldLink RX7 47 "Groutline" "work" "LGroutline$Work;", Cond.fieldLink RX7 33 "Groutline" "cuts" "LGroutline$Cuts;", Cond.methodLink RX7 214 yX0_renew, Cond.instanceMethod yX0_renew, Cond.selects RX0 yX0_renew yX0_renew, Cond.initialized RX0, Cond.code yX0_renew cX0_renew 4 none, Cond.methodLink RX0 30 yX3_stripOfRow, Cond.instanceMethod yX3_stripOfRow]
def wsX7_door_r2 : List Cond := [Cond.selects RX3 yX3_stripOfRow yX3_stripOfRow, Cond.initialized RX3, Cond.code yX3_stripOfRow cX3_stripOfRow 2 (some .int), Cond.fieldLink RX3 18 "Groutline$Layout" "border" "I", Cond.methodLink RX3 28 yX3_lowerBorder, Cond.instanceMethod yX3_lowerBorder, Cond.selects RX3 yX3_lowerBorder yX3_lowerBorder, Cond.code yX3_lowerBorder cX3_lowerBorder 1 (some .int), Cond.methodLink RX3 39 yX3_countCourses, Cond.instanceMethod yX3_countCourses, Cond.selects RX3 yX3_countCourses yX3_countCourses, Cond.code yX3_countCourses cX3_countCourses 1 (some .int), Cond.methodLink RX3 35 yX3_courseOfRow, Cond.instanceMethod yX3_courseOfRow, Cond.selects RX3 yX3_courseOfRow yX3_courseOfRow, Cond.code yX3_courseOfRow cX3_courseOfRow 2 (some .int), Cond.fieldLink RX3 15 "Groutline$Layout" "high" "I", Cond.static yX7_timesIn, Cond.code yX7_timesIn cX7_timesIn 2 (some .int), Cond.methodLink RX0 36 yX6_isLaid, Cond.instanceMethod yX6_isLaid, Cond.selects RX6 yX6_isLaid yX6_isLaid, Cond.initialized RX6, Cond.code yX6_isLaid cX6_isLaid 2 (some .boolean)]
def wsX7_door_r3 : List Cond := [Cond.fieldLink RX6 22 "Groutline$Work" "laid" "[Z", Cond.methodLink RX0 42 yX0_renewRow, Cond.instanceMethod yX0_renewRow, Cond.selects RX0 yX0_renewRow yX0_renewRow, Cond.code yX0_renewRow cX0_renewRow 4 none, Cond.fieldLink RX0 15 "Groutline$Bars" "barred" "[Z", Cond.fieldLink RX0 9 "Groutline$Bars" "pillars" "[Z", Cond.static yX7_isCell, Cond.code yX7_isCell cX7_isCell 2 (some .boolean), Cond.static yX7_cellAt, Cond.code yX7_cellAt cX7_cellAt 2 (some .int), Cond.methodLink RX0 46 yX0_isDoor, Cond.instanceMethod yX0_isDoor, Cond.selects RX0 yX0_isDoor yX0_isDoor, Cond.code yX0_isDoor cX0_isDoor 3 (some .boolean), Cond.fieldLink RX0 18 "Groutline$Bars" "doorColumn" "I", Cond.methodLink RX7 217 yX4_find, Cond.instanceMethod yX4_find, Cond.selects RX4 yX4_find yX4_find, Cond.initialized RX4, Cond.code yX4_find cX4_find 6 none, Cond.fieldLink RX4 9 "Groutline$Pieces" "count" "I", Cond.fieldLink RX4 15 "Groutline$Pieces" "ofCells" "[I", Cond.methodLink RX4 44 yJ7_fill_53178]
def wsX7_door_r4 : List Cond := [Cond.static yJ7_fill_53178, Cond.initialized RJ7, Cond.code yJ7_fill_53178 cJ7_fill_53178 4 none, Cond.methodLink RX4 54 yX0_areAt, Cond.instanceMethod yX0_areAt, Cond.selects RX0 yX0_areAt yX0_areAt, Cond.code yX0_areAt cX0_areAt 3 (some .boolean), Cond.methodLink RX4 60 yX4_add, Cond.instanceMethod yX4_add, Cond.selects RX4 yX4_add yX4_add, Cond.code yX4_add cX4_add 6 none, Cond.fieldLink RX4 22 "Groutline$Pieces" "columns" "[I", Cond.fieldLink RX4 25 "Groutline$Pieces" "rows" "[I", Cond.fieldLink RX4 40 "Groutline$Pieces" "frame" "LGroutline$Frame;", Cond.fieldLink RX4 19 "Groutline$Pieces" "kinds" "[I", Cond.fieldLink RX4 28 "Groutline$Pieces" "sizes" "[I", Cond.fieldLink RX4 80 "Groutline$Layout" "wide" "I", Cond.fieldLink RX4 83 "Groutline$Layout" "high" "I", Cond.methodLink RX4 64 yX4_has, Cond.instanceMethod yX4_has, Cond.selects RX4 yX4_has yX4_has, Cond.code yX4_has cX4_has 2 (some .boolean), Cond.methodLink RX4 68 yX3_frame, Cond.instanceMethod yX3_frame]
def wsX7_door_r5 : List Cond := [Cond.selects RX3 yX3_frame yX3_frame, Cond.code yX3_frame cX3_frame 9 none, Cond.fieldLink RX3 21 "Groutline$Layout" "pattern" "I", Cond.fieldLink RX3 9 "Groutline$Layout" "wide" "I", Cond.methodLink RX3 55 Lib.Math.max.name, Cond.static Lib.Math.max.name, Cond.initialized "java/lang/Math", Cond.code Lib.Math.max.name Lib.Math.max.code 2 (some .int), Cond.methodLink RX3 60 Lib.Math.min.name, Cond.static Lib.Math.min.name, Cond.code Lib.Math.min.name Lib.Math.min.code 2 (some .int), Cond.methodLink RX3 45 yX3_isBorder, Cond.instanceMethod yX3_isBorder, Cond.selects RX3 yX3_isBorder yX3_isBorder, Cond.code yX3_isBorder cX3_isBorder 3 (some .boolean), Cond.methodLink RX3 24 yX3_rightBorder, Cond.instanceMethod yX3_rightBorder, Cond.selects RX3 yX3_rightBorder yX3_rightBorder, Cond.code yX3_rightBorder cX3_rightBorder 1 (some .int), Cond.methodLink RX3 49 yX2_set, Cond.instanceMethod yX2_set, Cond.selects RX2 yX2_set yX2_set, Cond.initialized RX2, Cond.code yX2_set cX2_set 5 none]
def wsX7_door_r6 : List Cond := [Cond.fieldLink RX2 7 "Groutline$Frame" "left" "I", Cond.fieldLink RX2 13 "Groutline$Frame" "right" "I", Cond.fieldLink RX2 16 "Groutline$Frame" "top" "I", Cond.fieldLink RX2 19 "Groutline$Frame" "bottom" "I", Cond.methodLink RX4 73 yX4_measure, Cond.instanceMethod yX4_measure, Cond.selects RX4 yX4_measure yX4_measure, Cond.code yX4_measure cX4_measure 9 none, Cond.fieldLink RX4 86 "Groutline$Frame" "right" "I", Cond.fieldLink RX4 89 "Groutline$Frame" "left" "I", Cond.fieldLink RX4 92 "Groutline$Frame" "top" "I", Cond.fieldLink RX4 95 "Groutline$Frame" "bottom" "I", Cond.methodLink RX4 101 Lib.Math.min.name, Cond.methodLink RX4 106 Lib.Math.max.name, Cond.fieldLink RX4 31 "Groutline$Pieces" "boxWides" "[I", Cond.fieldLink RX4 34 "Groutline$Pieces" "boxHighs" "[I", Cond.methodLink RX4 77 yX3_isBorder, Cond.methodLink RX7 221 yX1_cutAll, Cond.instanceMethod yX1_cutAll, Cond.selects RX1 yX1_cutAll yX1_cutAll, Cond.initialized RX1, Cond.code yX1_cutAll cX1_cutAll 4 none, Cond.fieldLink RX1 9 "Groutline$Cuts" "newTiles" "I", Cond.fieldLink RX1 19 "Groutline$Cuts" "restCount" "I"]
def wsX7_door_r7 : List Cond := [Cond.fieldLink RX1 15 "Groutline$Cuts" "sources" "[I", Cond.fieldLink RX1 46 "Groutline$Pieces" "kinds" "[I", Cond.fieldLink RX1 49 "Groutline$Pieces" "boxWides" "[I", Cond.fieldLink RX1 52 "Groutline$Pieces" "boxHighs" "[I", Cond.methodLink RX1 35 yJ7_fill_53178, Cond.methodLink RX1 41 yX4_has, Cond.methodLink RX1 55 yX1_cut, Cond.instanceMethod yX1_cut, Cond.selects RX1 yX1_cut yX1_cut, Cond.code yX1_cut cX1_cut 8 none, Cond.fieldLink RX1 63 "Groutline$Layout" "wide" "I", Cond.fieldLink RX1 68 "Groutline$Layout" "high" "I", Cond.fieldLink RX1 22 "Groutline$Cuts" "restWides" "[I", Cond.fieldLink RX1 25 "Groutline$Cuts" "restHighs" "[I", Cond.fieldLink RX1 28 "Groutline$Cuts" "restMakers" "[I", Cond.methodLink RX1 59 yX1_bestRestFor, Cond.instanceMethod yX1_bestRestFor, Cond.selects RX1 yX1_bestRestFor yX1_bestRestFor, Cond.code yX1_bestRestFor cX1_bestRestFor 8 (some .int), Cond.methodLink RX1 31 yX1_hasRest, Cond.instanceMethod yX1_hasRest, Cond.selects RX1 yX1_hasRest yX1_hasRest, Cond.code yX1_hasRest cX1_hasRest 2 (some .boolean), Cond.methodLink RX1 71 yX1_leave]
def wsX7_door_r8 : List Cond := [Cond.instanceMethod yX1_leave, Cond.selects RX1 yX1_leave yX1_leave, Cond.code yX1_leave cX1_leave 8 none, Cond.methodLink RX1 79 yX1_addRest, Cond.instanceMethod yX1_addRest, Cond.selects RX1 yX1_addRest yX1_addRest, Cond.code yX1_addRest cX1_addRest 5 none, Cond.methodLink RX1 75 yX1_removeRest, Cond.instanceMethod yX1_removeRest, Cond.selects RX1 yX1_removeRest yX1_removeRest, Cond.code yX1_removeRest cX1_removeRest 3 none]
def wsX7_door : List Cond := .code yX7_door cX7_door 2 (some .int) :: ((wsX7_door_r1 ++ (wsX7_door_r2 ++ (wsX7_door_r3 ++ (wsX7_door_r4 ++ (wsX7_door_r5 ++ (wsX7_door_r6 ++ (wsX7_door_r7 ++ wsX7_door_r8))))))) ++ wsX70 ++ wsX00 ++ wsX40 ++ wsX30 ++ wsX60 ++ wsX20 ++ wsX10 ++ (vx_atS RX7 101 "java/lang/IndexOutOfBoundsException" ["java/lang/RuntimeException", "java/lang/Exception"]).filter goodWord)
def wsX7_ofPiece_r1 : List Cond := [Cond.classLink RX7 97 "java/lang/IndexOutOfBoundsException", Cond.initialized "java/lang/IndexOutOfBoundsException", Cond.classLink RX7 65 "java/lang/IllegalArgumentException", Cond.initialized "java/lang/IllegalArgumentException", Cond.fieldLink RX7 26 "Groutline" "pieces" "LGroutline$Pieces;", Cond.fieldLink RX7 119 "Groutline$Pieces" "kinds" "[I", Cond.fieldLink RX7 123 "Groutline$Pieces" "columns" "[I", Cond.fieldLink RX7 126 "Groutline$Pieces" "rows" "[I", Cond.fieldLink RX7 129 "Groutline$Pieces" "sizes" "[I", Cond.fieldLink RX7 12 "Groutline" "layout" "LGroutline$Layout;", Cond.fieldLink RX7 33 "Groutline" "cuts" "LGroutline$Cuts;", Cond.fieldLink RX7 136 "Groutline$Cuts" "sources" "[I", Cond.methodLink RX7 111 yX4_has, Cond.instanceMethod yX4_has, Cond.selects RX4 yX4_has yX4_has, Cond.initialized RX4, Cond.code yX4_has cX4_has 2 (some .boolean), Cond.fieldLink RX4 9 "Groutline$Pieces" "count" "I", Cond.methodLink RX7 61 yX7_isWithin, Cond.static yX7_isWithin, Cond.initialized RX7, Cond.code yX7_isWithin cX7_isWithin 3 (some .boolean), Cond.methodLink RX7 132 yX3_stripOfRow, Cond.instanceMethod yX3_stripOfRow]
def wsX7_ofPiece_r2 : List Cond := [Cond.selects RX3 yX3_stripOfRow yX3_stripOfRow, Cond.initialized RX3, Cond.code yX3_stripOfRow cX3_stripOfRow 2 (some .int), Cond.fieldLink RX3 18 "Groutline$Layout" "border" "I", Cond.methodLink RX3 28 yX3_lowerBorder, Cond.instanceMethod yX3_lowerBorder, Cond.selects RX3 yX3_lowerBorder yX3_lowerBorder, Cond.code yX3_lowerBorder cX3_lowerBorder 1 (some .int), Cond.methodLink RX3 39 yX3_countCourses, Cond.instanceMethod yX3_countCourses, Cond.selects RX3 yX3_countCourses yX3_countCourses, Cond.code yX3_countCourses cX3_countCourses 1 (some .int), Cond.methodLink RX3 35 yX3_courseOfRow, Cond.instanceMethod yX3_courseOfRow, Cond.selects RX3 yX3_courseOfRow yX3_courseOfRow, Cond.code yX3_courseOfRow cX3_courseOfRow 2 (some .int), Cond.fieldLink RX3 15 "Groutline$Layout" "high" "I", Cond.static yX7_timesIn, Cond.code yX7_timesIn cX7_timesIn 2 (some .int)]
def wsX7_ofPiece : List Cond := .code yX7_ofPiece cX7_ofPiece 3 (some .int) :: ((wsX7_ofPiece_r1 ++ wsX7_ofPiece_r2) ++ wsX70 ++ wsX40 ++ wsX10 ++ wsX30 ++ (vx_atS RX7 101 "java/lang/IndexOutOfBoundsException" ["java/lang/RuntimeException", "java/lang/Exception"]).filter goodWord ++ (vx_atS RX7 69 "java/lang/IllegalArgumentException" ["java/lang/RuntimeException", "java/lang/Exception"]).filter goodWord)
def wsX7_pieceAt : List Cond := .code yX7_pieceAt cX7_pieceAt 3 (some .int) :: ([.classLink RX7 97 "java/lang/IndexOutOfBoundsException", .initialized "java/lang/IndexOutOfBoundsException", .fieldLink RX7 26 "Groutline" "pieces" "LGroutline$Pieces;", .fieldLink RX7 139 "Groutline$Pieces" "ofCells" "[I", .methodLink RX7 93 yX7_isCell, .static yX7_isCell, .initialized RX7, .code yX7_isCell cX7_isCell 2 (some .boolean), .methodLink RX7 142 yX7_cellAt, .static yX7_cellAt, .code yX7_cellAt cX7_cellAt 2 (some .int)] ++ wsX70 ++ wsX40 ++ (vx_atS RX7 101 "java/lang/IndexOutOfBoundsException" ["java/lang/RuntimeException", "java/lang/Exception"]).filter goodWord)
def wsX7_isFirstOfItsPiece_r1 : List Cond := [Cond.fieldLink RX7 19 "Groutline" "bars" "LGroutline$Bars;", Cond.fieldLink RX7 12 "Groutline" "layout" "LGroutline$Layout;", Cond.fieldLink RX7 54 "Groutline" "frame" "LGroutline$Frame;", Cond.fieldLink RX7 231 "Groutline$Frame" "top" "I", Cond.fieldLink RX7 234 "Groutline$Frame" "left" "I", Cond.fieldLink RX7 237 "Groutline$Frame" "right" "I", Cond.methodLink RX7 225 yX0_areAt, Cond.instanceMethod yX0_areAt, Cond.selects RX0 yX0_areAt yX0_areAt, Cond.initialized RX0, Cond.code yX0_areAt cX0_areAt 3 (some .boolean), Cond.fieldLink RX0 15 "Groutline$Bars" "barred" "[Z", Cond.static yX7_isCell, Cond.initialized RX7, Cond.code yX7_isCell cX7_isCell 2 (some .boolean), Cond.static yX7_cellAt, Cond.code yX7_cellAt cX7_cellAt 2 (some .int), Cond.methodLink RX7 228 yX3_frame, Cond.instanceMethod yX3_frame, Cond.selects RX3 yX3_frame yX3_frame, Cond.initialized RX3, Cond.code yX3_frame cX3_frame 9 none, Cond.fieldLink RX3 21 "Groutline$Layout" "pattern" "I", Cond.fieldLink RX3 18 "Groutline$Layout" "border" "I"]
def wsX7_isFirstOfItsPiece_r2 : List Cond := [Cond.fieldLink RX3 9 "Groutline$Layout" "wide" "I", Cond.fieldLink RX3 15 "Groutline$Layout" "high" "I", Cond.methodLink RX3 55 Lib.Math.max.name, Cond.static Lib.Math.max.name, Cond.initialized "java/lang/Math", Cond.code Lib.Math.max.name Lib.Math.max.code 2 (some .int), Cond.methodLink RX3 60 Lib.Math.min.name, Cond.static Lib.Math.min.name, Cond.code Lib.Math.min.name Lib.Math.min.code 2 (some .int), Cond.methodLink RX3 45 yX3_isBorder, Cond.instanceMethod yX3_isBorder, Cond.selects RX3 yX3_isBorder yX3_isBorder, Cond.code yX3_isBorder cX3_isBorder 3 (some .boolean), Cond.methodLink RX3 24 yX3_rightBorder, Cond.instanceMethod yX3_rightBorder, Cond.selects RX3 yX3_rightBorder yX3_rightBorder, Cond.code yX3_rightBorder cX3_rightBorder 1 (some .int), Cond.methodLink RX3 28 yX3_lowerBorder, Cond.instanceMethod yX3_lowerBorder, Cond.selects RX3 yX3_lowerBorder yX3_lowerBorder, Cond.code yX3_lowerBorder cX3_lowerBorder 1 (some .int), Cond.methodLink RX3 49 yX2_set, Cond.instanceMethod yX2_set, Cond.selects RX2 yX2_set yX2_set]
def wsX7_isFirstOfItsPiece_r3 : List Cond := [Cond.initialized RX2, Cond.code yX2_set cX2_set 5 none, Cond.fieldLink RX2 7 "Groutline$Frame" "left" "I", Cond.fieldLink RX2 13 "Groutline$Frame" "right" "I", Cond.fieldLink RX2 16 "Groutline$Frame" "top" "I", Cond.fieldLink RX2 19 "Groutline$Frame" "bottom" "I", Cond.methodLink RX3 35 yX3_courseOfRow, Cond.instanceMethod yX3_courseOfRow, Cond.selects RX3 yX3_courseOfRow yX3_courseOfRow, Cond.code yX3_courseOfRow cX3_courseOfRow 2 (some .int), Cond.static yX7_timesIn, Cond.code yX7_timesIn cX7_timesIn 2 (some .int)]
def wsX7_isFirstOfItsPiece : List Cond := .code yX7_isFirstOfItsPiece cX7_isFirstOfItsPiece 6 (some .boolean) :: ((wsX7_isFirstOfItsPiece_r1 ++ (wsX7_isFirstOfItsPiece_r2 ++ wsX7_isFirstOfItsPiece_r3)) ++ wsX70 ++ wsX20 ++ wsX00 ++ wsX30)
def wsX7_piecesAnew_r1 : List Cond := [Cond.methodLink RX7 146 yX7_isFirstOfItsPiece, Cond.instanceMethod yX7_isFirstOfItsPiece, Cond.selects RX7 yX7_isFirstOfItsPiece yX7_isFirstOfItsPiece, Cond.initialized RX7, Cond.code yX7_isFirstOfItsPiece cX7_isFirstOfItsPiece 6 (some .boolean), Cond.fieldLink RX7 19 "Groutline" "bars" "LGroutline$Bars;", Cond.fieldLink RX7 12 "Groutline" "layout" "LGroutline$Layout;", Cond.fieldLink RX7 54 "Groutline" "frame" "LGroutline$Frame;", Cond.fieldLink RX7 231 "Groutline$Frame" "top" "I", Cond.fieldLink RX7 234 "Groutline$Frame" "left" "I", Cond.fieldLink RX7 237 "Groutline$Frame" "right" "I", Cond.methodLink RX7 225 yX0_areAt, Cond.instanceMethod yX0_areAt, Cond.selects RX0 yX0_areAt yX0_areAt, Cond.initialized RX0, Cond.code yX0_areAt cX0_areAt 3 (some .boolean), Cond.fieldLink RX0 15 "Groutline$Bars" "barred" "[Z", Cond.static yX7_isCell, Cond.code yX7_isCell cX7_isCell 2 (some .boolean), Cond.static yX7_cellAt, Cond.code yX7_cellAt cX7_cellAt 2 (some .int), Cond.methodLink RX7 228 yX3_frame, Cond.instanceMethod yX3_frame, Cond.selects RX3 yX3_frame yX3_frame]
def wsX7_piecesAnew_r2 : List Cond := [Cond.initialized RX3, Cond.code yX3_frame cX3_frame 9 none, Cond.fieldLink RX3 21 "Groutline$Layout" "pattern" "I", Cond.fieldLink RX3 18 "Groutline$Layout" "border" "I", Cond.fieldLink RX3 9 "Groutline$Layout" "wide" "I", Cond.fieldLink RX3 15 "Groutline$Layout" "high" "I", Cond.methodLink RX3 55 Lib.Math.max.name, Cond.static Lib.Math.max.name, Cond.initialized "java/lang/Math", Cond.code Lib.Math.max.name Lib.Math.max.code 2 (some .int), Cond.methodLink RX3 60 Lib.Math.min.name, Cond.static Lib.Math.min.name, Cond.code Lib.Math.min.name Lib.Math.min.code 2 (some .int), Cond.methodLink RX3 45 yX3_isBorder, Cond.instanceMethod yX3_isBorder, Cond.selects RX3 yX3_isBorder yX3_isBorder, Cond.code yX3_isBorder cX3_isBorder 3 (some .boolean), Cond.methodLink RX3 24 yX3_rightBorder, Cond.instanceMethod yX3_rightBorder, Cond.selects RX3 yX3_rightBorder yX3_rightBorder, Cond.code yX3_rightBorder cX3_rightBorder 1 (some .int), Cond.methodLink RX3 28 yX3_lowerBorder, Cond.instanceMethod yX3_lowerBorder, Cond.selects RX3 yX3_lowerBorder yX3_lowerBorder]
def wsX7_piecesAnew_r3 : List Cond := [Cond.code yX3_lowerBorder cX3_lowerBorder 1 (some .int), Cond.methodLink RX3 49 yX2_set, Cond.instanceMethod yX2_set, Cond.selects RX2 yX2_set yX2_set, Cond.initialized RX2, Cond.code yX2_set cX2_set 5 none, Cond.fieldLink RX2 7 "Groutline$Frame" "left" "I", Cond.fieldLink RX2 13 "Groutline$Frame" "right" "I", Cond.fieldLink RX2 16 "Groutline$Frame" "top" "I", Cond.fieldLink RX2 19 "Groutline$Frame" "bottom" "I", Cond.methodLink RX3 35 yX3_courseOfRow, Cond.instanceMethod yX3_courseOfRow, Cond.selects RX3 yX3_courseOfRow yX3_courseOfRow, Cond.code yX3_courseOfRow cX3_courseOfRow 2 (some .int), Cond.static yX7_timesIn, Cond.code yX7_timesIn cX7_timesIn 2 (some .int)]
def wsX7_piecesAnew : List Cond := .code yX7_piecesAnew cX7_piecesAnew 4 (some .int) :: ((wsX7_piecesAnew_r1 ++ (wsX7_piecesAnew_r2 ++ wsX7_piecesAnew_r3)) ++ wsX70 ++ wsX20 ++ wsX00 ++ wsX30)
def wsX7_tiles : List Cond := .code yX7_tiles cX7_tiles 1 (some .int) :: ([.fieldLink RX7 33 "Groutline" "cuts" "LGroutline$Cuts;", .fieldLink RX7 149 "Groutline$Cuts" "newTiles" "I"] ++ wsX70 ++ wsX10)
def wsX7_rest : List Cond := .code yX7_rest cX7_rest 2 (some .int) :: ([.classLink RX7 97 "java/lang/IndexOutOfBoundsException", .initialized "java/lang/IndexOutOfBoundsException", .fieldLink RX7 33 "Groutline" "cuts" "LGroutline$Cuts;", .methodLink RX7 154 yX1_sizeOfRest, .instanceMethod yX1_sizeOfRest, .selects RX1 yX1_sizeOfRest yX1_sizeOfRest, .initialized RX1, .code yX1_sizeOfRest cX1_sizeOfRest 2 (some .int), .fieldLink RX1 22 "Groutline$Cuts" "restWides" "[I", .fieldLink RX1 25 "Groutline$Cuts" "restHighs" "[I", .methodLink RX1 31 yX1_hasRest, .instanceMethod yX1_hasRest, .selects RX1 yX1_hasRest yX1_hasRest, .code yX1_hasRest cX1_hasRest 2 (some .boolean), .fieldLink RX1 19 "Groutline$Cuts" "restCount" "I"] ++ wsX70 ++ wsX10 ++ (vx_atS RX7 101 "java/lang/IndexOutOfBoundsException" ["java/lang/RuntimeException", "java/lang/Exception"]).filter goodWord)
def wsX7_isFloor : List Cond := .code yX7_isFloor cX7_isFloor 1 (some .boolean) :: ([.methodLink RX7 61 yX7_isWithin, .static yX7_isWithin, .initialized RX7, .code yX7_isWithin cX7_isWithin 3 (some .boolean)])
def wsX7_crate_r1 : List Cond := [Cond.classLink RX7 65 "java/lang/IllegalArgumentException", Cond.initialized "java/lang/IllegalArgumentException", Cond.classLink RX7 80 "java/lang/IllegalStateException", Cond.initialized "java/lang/IllegalStateException", Cond.fieldLink RX7 40 "Groutline" "stack" "LGroutline$Stack;", Cond.fieldLink RX7 174 "Groutline$Stack" "count" "I", Cond.methodLink RX7 157 yX7_isFloor, Cond.static yX7_isFloor, Cond.initialized RX7, Cond.code yX7_isFloor cX7_isFloor 1 (some .boolean), Cond.methodLink RX7 61 yX7_isWithin, Cond.static yX7_isWithin, Cond.code yX7_isWithin cX7_isWithin 3 (some .boolean), Cond.methodLink RX7 164 yX5_isFull, Cond.instanceMethod yX5_isFull, Cond.selects RX5 yX5_isFull yX5_isFull, Cond.initialized RX5, Cond.code yX5_isFull cX5_isFull 1 (some .boolean), Cond.fieldLink RX5 9 "Groutline$Stack" "count" "I", Cond.methodLink RX7 170 yX5_put, Cond.instanceMethod yX5_put, Cond.selects RX5 yX5_put yX5_put, Cond.code yX5_put cX5_put 3 none, Cond.fieldLink RX5 18 "Groutline$Stack" "crateFloors" "[I"]
def wsX7_crate_r2 : List Cond := [Cond.fieldLink RX5 22 "Groutline$Stack" "crateTiles" "[I"]
def wsX7_crate : List Cond := .code yX7_crate cX7_crate 3 (some .int) :: ((wsX7_crate_r1 ++ wsX7_crate_r2) ++ wsX70 ++ wsX50 ++ (vx_atS RX7 69 "java/lang/IllegalArgumentException" ["java/lang/RuntimeException", "java/lang/Exception"]).filter goodWord ++ (vx_atS RX7 84 "java/lang/IllegalStateException" ["java/lang/RuntimeException", "java/lang/Exception"]).filter goodWord)
def wsX7_fetch_r1 : List Cond := [Cond.classLink RX7 65 "java/lang/IllegalArgumentException", Cond.initialized "java/lang/IllegalArgumentException", Cond.fieldLink RX7 40 "Groutline" "stack" "LGroutline$Stack;", Cond.methodLink RX7 157 yX7_isFloor, Cond.static yX7_isFloor, Cond.initialized RX7, Cond.code yX7_isFloor cX7_isFloor 1 (some .boolean), Cond.methodLink RX7 61 yX7_isWithin, Cond.static yX7_isWithin, Cond.code yX7_isWithin cX7_isWithin 3 (some .boolean), Cond.methodLink RX7 175 yX5_takeTopmostFor, Cond.instanceMethod yX5_takeTopmostFor, Cond.selects RX5 yX5_takeTopmostFor yX5_takeTopmostFor, Cond.initialized RX5, Cond.code yX5_takeTopmostFor cX5_takeTopmostFor 4 (some .int), Cond.fieldLink RX5 9 "Groutline$Stack" "count" "I", Cond.fieldLink RX5 18 "Groutline$Stack" "crateFloors" "[I", Cond.fieldLink RX5 22 "Groutline$Stack" "crateTiles" "[I", Cond.methodLink RX5 25 yX5_has, Cond.instanceMethod yX5_has, Cond.selects RX5 yX5_has yX5_has, Cond.code yX5_has cX5_has 2 (some .boolean), Cond.methodLink RX5 29 yX5_remove, Cond.instanceMethod yX5_remove]
def wsX7_fetch_r2 : List Cond := [Cond.selects RX5 yX5_remove yX5_remove, Cond.code yX5_remove cX5_remove 3 none, Cond.fieldLink RX5 15 "Groutline$Stack" "moved" "I"]
def wsX7_fetch : List Cond := .code yX7_fetch cX7_fetch 2 (some .int) :: ((wsX7_fetch_r1 ++ wsX7_fetch_r2) ++ wsX70 ++ wsX50 ++ (vx_atS RX7 69 "java/lang/IllegalArgumentException" ["java/lang/RuntimeException", "java/lang/Exception"]).filter goodWord)
def wsX7_moves : List Cond := .code yX7_moves cX7_moves 1 (some .int) :: ([.fieldLink RX7 40 "Groutline" "stack" "LGroutline$Stack;", .fieldLink RX7 178 "Groutline$Stack" "moved" "I"] ++ wsX70 ++ wsX50)
def wsX7_grout : List Cond := .code yX7_grout cX7_grout 3 (some .int) :: ([.classLink RX7 65 "java/lang/IllegalArgumentException", .initialized "java/lang/IllegalArgumentException", .fieldLink RX7 47 "Groutline" "work" "LGroutline$Work;", .fieldLink RX7 183 "Groutline$Work" "groutHours" "I", .methodLink RX7 61 yX7_isWithin, .static yX7_isWithin, .initialized RX7, .code yX7_isWithin cX7_isWithin 3 (some .boolean)] ++ wsX70 ++ wsX60 ++ (vx_atS RX7 69 "java/lang/IllegalArgumentException" ["java/lang/RuntimeException", "java/lang/Exception"]).filter goodWord)
def wsX7_piecesOfStrip_r1 : List Cond := [Cond.fieldLink RX7 26 "Groutline" "pieces" "LGroutline$Pieces;", Cond.fieldLink RX7 12 "Groutline" "layout" "LGroutline$Layout;", Cond.fieldLink RX7 126 "Groutline$Pieces" "rows" "[I", Cond.methodLink RX7 111 yX4_has, Cond.instanceMethod yX4_has, Cond.selects RX4 yX4_has yX4_has, Cond.initialized RX4, Cond.code yX4_has cX4_has 2 (some .boolean), Cond.fieldLink RX4 9 "Groutline$Pieces" "count" "I", Cond.methodLink RX7 132 yX3_stripOfRow, Cond.instanceMethod yX3_stripOfRow, Cond.selects RX3 yX3_stripOfRow yX3_stripOfRow, Cond.initialized RX3, Cond.code yX3_stripOfRow cX3_stripOfRow 2 (some .int), Cond.fieldLink RX3 18 "Groutline$Layout" "border" "I", Cond.methodLink RX3 28 yX3_lowerBorder, Cond.instanceMethod yX3_lowerBorder, Cond.selects RX3 yX3_lowerBorder yX3_lowerBorder, Cond.code yX3_lowerBorder cX3_lowerBorder 1 (some .int), Cond.methodLink RX3 39 yX3_countCourses, Cond.instanceMethod yX3_countCourses, Cond.selects RX3 yX3_countCourses yX3_countCourses, Cond.code yX3_countCourses cX3_countCourses 1 (some .int), Cond.methodLink RX3 35 yX3_courseOfRow]
def wsX7_piecesOfStrip_r2 : List Cond := [Cond.instanceMethod yX3_courseOfRow, Cond.selects RX3 yX3_courseOfRow yX3_courseOfRow, Cond.code yX3_courseOfRow cX3_courseOfRow 2 (some .int), Cond.fieldLink RX3 15 "Groutline$Layout" "high" "I", Cond.static yX7_timesIn, Cond.initialized RX7, Cond.code yX7_timesIn cX7_timesIn 2 (some .int)]
def wsX7_piecesOfStrip : List Cond := .code yX7_piecesOfStrip cX7_piecesOfStrip 4 (some .int) :: ((wsX7_piecesOfStrip_r1 ++ wsX7_piecesOfStrip_r2) ++ wsX70 ++ wsX40 ++ wsX30)
def wsX7_lay_r1 : List Cond := [Cond.classLink RX7 97 "java/lang/IndexOutOfBoundsException", Cond.initialized "java/lang/IndexOutOfBoundsException", Cond.classLink RX7 80 "java/lang/IllegalStateException", Cond.initialized "java/lang/IllegalStateException", Cond.fieldLink RX7 12 "Groutline" "layout" "LGroutline$Layout;", Cond.fieldLink RX7 47 "Groutline" "work" "LGroutline$Work;", Cond.fieldLink RX7 202 "Groutline$Work" "hour" "I", Cond.methodLink RX7 186 yX3_hasStrip, Cond.instanceMethod yX3_hasStrip, Cond.selects RX3 yX3_hasStrip yX3_hasStrip, Cond.initialized RX3, Cond.code yX3_hasStrip cX3_hasStrip 2 (some .boolean), Cond.methodLink RX3 42 yX3_countStrips, Cond.instanceMethod yX3_countStrips, Cond.selects RX3 yX3_countStrips yX3_countStrips, Cond.code yX3_countStrips cX3_countStrips 1 (some .int), Cond.fieldLink RX3 18 "Groutline$Layout" "border" "I", Cond.methodLink RX3 39 yX3_countCourses, Cond.instanceMethod yX3_countCourses, Cond.selects RX3 yX3_countCourses yX3_countCourses, Cond.code yX3_countCourses cX3_countCourses 1 (some .int), Cond.methodLink RX3 28 yX3_lowerBorder, Cond.instanceMethod yX3_lowerBorder, Cond.selects RX3 yX3_lowerBorder yX3_lowerBorder]
def wsX7_lay_r2 : List Cond := [Cond.code yX3_lowerBorder cX3_lowerBorder 1 (some .int), Cond.methodLink RX3 35 yX3_courseOfRow, Cond.instanceMethod yX3_courseOfRow, Cond.selects RX3 yX3_courseOfRow yX3_courseOfRow, Cond.code yX3_courseOfRow cX3_courseOfRow 2 (some .int), Cond.fieldLink RX3 15 "Groutline$Layout" "high" "I", Cond.static yX7_timesIn, Cond.initialized RX7, Cond.code yX7_timesIn cX7_timesIn 2 (some .int), Cond.methodLink RX7 191 yX6_canStart, Cond.instanceMethod yX6_canStart, Cond.selects RX6 yX6_canStart yX6_canStart, Cond.initialized RX6, Cond.code yX6_canStart cX6_canStart 3 (some .boolean), Cond.fieldLink RX6 22 "Groutline$Work" "laid" "[Z", Cond.fieldLink RX6 9 "Groutline$Work" "hour" "I", Cond.fieldLink RX6 26 "Groutline$Work" "dryHours" "[I", Cond.methodLink RX6 30 yX6_isLaid, Cond.instanceMethod yX6_isLaid, Cond.selects RX6 yX6_isLaid yX6_isLaid, Cond.code yX6_isLaid cX6_isLaid 2 (some .boolean), Cond.methodLink RX7 196 yX7_piecesOfStrip, Cond.instanceMethod yX7_piecesOfStrip, Cond.selects RX7 yX7_piecesOfStrip yX7_piecesOfStrip]
def wsX7_lay_r3 : List Cond := [Cond.code yX7_piecesOfStrip cX7_piecesOfStrip 4 (some .int), Cond.fieldLink RX7 26 "Groutline" "pieces" "LGroutline$Pieces;", Cond.fieldLink RX7 126 "Groutline$Pieces" "rows" "[I", Cond.methodLink RX7 111 yX4_has, Cond.instanceMethod yX4_has, Cond.selects RX4 yX4_has yX4_has, Cond.initialized RX4, Cond.code yX4_has cX4_has 2 (some .boolean), Cond.fieldLink RX4 9 "Groutline$Pieces" "count" "I", Cond.methodLink RX7 132 yX3_stripOfRow, Cond.instanceMethod yX3_stripOfRow, Cond.selects RX3 yX3_stripOfRow yX3_stripOfRow, Cond.code yX3_stripOfRow cX3_stripOfRow 2 (some .int), Cond.methodLink RX7 199 yX6_finish, Cond.instanceMethod yX6_finish, Cond.selects RX6 yX6_finish yX6_finish, Cond.code yX6_finish cX6_finish 3 none, Cond.fieldLink RX6 15 "Groutline$Work" "groutHours" "I", Cond.fieldLink RX6 18 "Groutline$Work" "hasBegun" "Z"]
def wsX7_lay : List Cond := .code yX7_lay cX7_lay 2 (some .int) :: ((wsX7_lay_r1 ++ (wsX7_lay_r2 ++ wsX7_lay_r3)) ++ wsX70 ++ wsX60 ++ wsX30 ++ wsX40 ++ (vx_atS RX7 101 "java/lang/IndexOutOfBoundsException" ["java/lang/RuntimeException", "java/lang/Exception"]).filter goodWord ++ (vx_atS RX7 84 "java/lang/IllegalStateException" ["java/lang/RuntimeException", "java/lang/Exception"]).filter goodWord)
def wsX7_dry_r1 : List Cond := [Cond.classLink RX7 97 "java/lang/IndexOutOfBoundsException", Cond.initialized "java/lang/IndexOutOfBoundsException", Cond.fieldLink RX7 12 "Groutline" "layout" "LGroutline$Layout;", Cond.fieldLink RX7 47 "Groutline" "work" "LGroutline$Work;", Cond.methodLink RX7 186 yX3_hasStrip, Cond.instanceMethod yX3_hasStrip, Cond.selects RX3 yX3_hasStrip yX3_hasStrip, Cond.initialized RX3, Cond.code yX3_hasStrip cX3_hasStrip 2 (some .boolean), Cond.methodLink RX3 42 yX3_countStrips, Cond.instanceMethod yX3_countStrips, Cond.selects RX3 yX3_countStrips yX3_countStrips, Cond.code yX3_countStrips cX3_countStrips 1 (some .int), Cond.fieldLink RX3 18 "Groutline$Layout" "border" "I", Cond.methodLink RX3 39 yX3_countCourses, Cond.instanceMethod yX3_countCourses, Cond.selects RX3 yX3_countCourses yX3_countCourses, Cond.code yX3_countCourses cX3_countCourses 1 (some .int), Cond.methodLink RX3 28 yX3_lowerBorder, Cond.instanceMethod yX3_lowerBorder, Cond.selects RX3 yX3_lowerBorder yX3_lowerBorder, Cond.code yX3_lowerBorder cX3_lowerBorder 1 (some .int), Cond.methodLink RX3 35 yX3_courseOfRow, Cond.instanceMethod yX3_courseOfRow]
def wsX7_dry_r2 : List Cond := [Cond.selects RX3 yX3_courseOfRow yX3_courseOfRow, Cond.code yX3_courseOfRow cX3_courseOfRow 2 (some .int), Cond.fieldLink RX3 15 "Groutline$Layout" "high" "I", Cond.static yX7_timesIn, Cond.initialized RX7, Cond.code yX7_timesIn cX7_timesIn 2 (some .int), Cond.methodLink RX7 205 yX6_dryHourOf, Cond.instanceMethod yX6_dryHourOf, Cond.selects RX6 yX6_dryHourOf yX6_dryHourOf, Cond.initialized RX6, Cond.code yX6_dryHourOf cX6_dryHourOf 2 (some .int), Cond.fieldLink RX6 26 "Groutline$Work" "dryHours" "[I", Cond.methodLink RX6 30 yX6_isLaid, Cond.instanceMethod yX6_isLaid, Cond.selects RX6 yX6_isLaid yX6_isLaid, Cond.code yX6_isLaid cX6_isLaid 2 (some .boolean), Cond.fieldLink RX6 22 "Groutline$Work" "laid" "[Z"]
def wsX7_dry : List Cond := .code yX7_dry cX7_dry 2 (some .int) :: ((wsX7_dry_r1 ++ wsX7_dry_r2) ++ wsX70 ++ wsX30 ++ wsX60 ++ (vx_atS RX7 101 "java/lang/IndexOutOfBoundsException" ["java/lang/RuntimeException", "java/lang/Exception"]).filter goodWord)
def wsX7_strips : List Cond := .code yX7_strips cX7_strips 1 (some .int) :: ([.fieldLink RX7 12 "Groutline" "layout" "LGroutline$Layout;", .methodLink RX7 208 yX3_countStrips, .instanceMethod yX3_countStrips, .selects RX3 yX3_countStrips yX3_countStrips, .initialized RX3, .code yX3_countStrips cX3_countStrips 1 (some .int), .fieldLink RX3 18 "Groutline$Layout" "border" "I", .methodLink RX3 39 yX3_countCourses, .instanceMethod yX3_countCourses, .selects RX3 yX3_countCourses yX3_countCourses, .code yX3_countCourses cX3_countCourses 1 (some .int), .methodLink RX3 28 yX3_lowerBorder, .instanceMethod yX3_lowerBorder, .selects RX3 yX3_lowerBorder yX3_lowerBorder, .code yX3_lowerBorder cX3_lowerBorder 1 (some .int), .methodLink RX3 35 yX3_courseOfRow, .instanceMethod yX3_courseOfRow, .selects RX3 yX3_courseOfRow yX3_courseOfRow, .code yX3_courseOfRow cX3_courseOfRow 2 (some .int), .fieldLink RX3 15 "Groutline$Layout" "high" "I", .static yX7_timesIn, .initialized RX7, .code yX7_timesIn cX7_timesIn 2 (some .int)] ++ wsX70 ++ wsX30)
def wsX7_pass : List Cond := .code yX7_pass cX7_pass 2 (some .int) :: ([.classLink RX7 65 "java/lang/IllegalArgumentException", .initialized "java/lang/IllegalArgumentException", .fieldLink RX7 47 "Groutline" "work" "LGroutline$Work;", .fieldLink RX7 202 "Groutline$Work" "hour" "I", .methodLink RX7 61 yX7_isWithin, .static yX7_isWithin, .initialized RX7, .code yX7_isWithin cX7_isWithin 3 (some .boolean)] ++ wsX70 ++ wsX60 ++ (vx_atS RX7 69 "java/lang/IllegalArgumentException" ["java/lang/RuntimeException", "java/lang/Exception"]).filter goodWord)
def wsX8_unlay : List Cond := .code yX8_unlay cX8_unlay 2 none :: ([.fieldLink RX8 65 "GroutlineModel" "dry" "[I"] ++ wsX80)
def wsX8_isBarred : List Cond := .code yX8_isBarred cX8_isBarred 2 (some .boolean) :: ([.fieldLink RX8 16 "GroutlineModel" "pillar" "[I", .fieldLink RX8 20 "GroutlineModel" "shut" "[I"] ++ wsX80)
def wsX8_isEdge : List Cond := .code yX8_isEdge cX8_isEdge 4 (some .boolean) :: ([.fieldLink RX8 80 "GroutlineModel" "border" "I"] ++ wsX80)
def wsX8_tileOf : List Cond := .code yX8_tileOf cX8_tileOf 4 (some .int) :: ([.fieldLink RX8 80 "GroutlineModel" "border" "I", .fieldLink RX8 13 "GroutlineModel" "high" "I", .fieldLink RX8 83 "GroutlineModel" "pattern" "I", .fieldLink RX8 7 "GroutlineModel" "wide" "I"] ++ wsX80)
def wsX8_isSame : List Cond := .code yX8_isSame cX8_isSame 3 (some .boolean) :: ([.methodLink RX8 86 yX8_isEdge, .instanceMethod yX8_isEdge, .selects RX8 yX8_isEdge yX8_isEdge, .initialized RX8, .code yX8_isEdge cX8_isEdge 4 (some .boolean), .fieldLink RX8 80 "GroutlineModel" "border" "I", .methodLink RX8 90 yX8_tileOf, .instanceMethod yX8_tileOf, .selects RX8 yX8_tileOf yX8_tileOf, .code yX8_tileOf cX8_tileOf 4 (some .int), .fieldLink RX8 13 "GroutlineModel" "high" "I", .fieldLink RX8 83 "GroutlineModel" "pattern" "I", .fieldLink RX8 7 "GroutlineModel" "wide" "I"] ++ wsX80)
def wsX8_bestRest : List Cond := .code yX8_bestRest cX8_bestRest 6 (some .int) :: ([.fieldLink RX8 107 "GroutlineModel" "rests" "I", .fieldLink RX8 50 "GroutlineModel" "rw" "[I", .fieldLink RX8 53 "GroutlineModel" "rh" "[I"] ++ wsX80)
def wsX8_takeOut : List Cond := .code yX8_takeOut cX8_takeOut 3 none :: ([.fieldLink RX8 107 "GroutlineModel" "rests" "I", .fieldLink RX8 50 "GroutlineModel" "rw" "[I", .fieldLink RX8 53 "GroutlineModel" "rh" "[I", .fieldLink RX8 56 "GroutlineModel" "rp" "[I"] ++ wsX80)
def wsX8_cuts : List Cond := .code yX8_cuts cX8_cuts 9 none :: ([.fieldLink RX8 107 "GroutlineModel" "rests" "I", .fieldLink RX8 110 "GroutlineModel" "tiles" "I", .fieldLink RX8 94 "GroutlineModel" "pieces" "I", .fieldLink RX8 32 "GroutlineModel" "pr" "[I", .fieldLink RX8 23 "GroutlineModel" "pk" "[I", .fieldLink RX8 38 "GroutlineModel" "right" "[I", .fieldLink RX8 35 "GroutlineModel" "left" "[I", .fieldLink RX8 44 "GroutlineModel" "bottom" "[I", .fieldLink RX8 41 "GroutlineModel" "top" "[I", .fieldLink RX8 7 "GroutlineModel" "wide" "I", .fieldLink RX8 13 "GroutlineModel" "high" "I", .fieldLink RX8 56 "GroutlineModel" "rp" "[I", .fieldLink RX8 50 "GroutlineModel" "rw" "[I", .fieldLink RX8 53 "GroutlineModel" "rh" "[I", .methodLink RX8 113 yX8_bestRest, .instanceMethod yX8_bestRest, .selects RX8 yX8_bestRest yX8_bestRest, .initialized RX8, .code yX8_bestRest cX8_bestRest 6 (some .int), .methodLink RX8 117 yX8_takeOut, .instanceMethod yX8_takeOut, .selects RX8 yX8_takeOut yX8_takeOut, .code yX8_takeOut cX8_takeOut 3 none] ++ wsX80)
def wsX8_plans_r1 : List Cond := [Cond.fieldLink RX8 94 "GroutlineModel" "pieces" "I", Cond.fieldLink RX8 47 "GroutlineModel" "at" "[I", Cond.fieldLink RX8 26 "GroutlineModel" "pf" "[I", Cond.fieldLink RX8 29 "GroutlineModel" "pn" "[I", Cond.fieldLink RX8 35 "GroutlineModel" "left" "[I", Cond.fieldLink RX8 38 "GroutlineModel" "right" "[I", Cond.fieldLink RX8 41 "GroutlineModel" "top" "[I", Cond.fieldLink RX8 44 "GroutlineModel" "bottom" "[I", Cond.fieldLink RX8 23 "GroutlineModel" "pk" "[I", Cond.fieldLink RX8 7 "GroutlineModel" "wide" "I", Cond.fieldLink RX8 13 "GroutlineModel" "high" "I", Cond.methodLink RX8 97 yX8_isBarred, Cond.instanceMethod yX8_isBarred, Cond.selects RX8 yX8_isBarred yX8_isBarred, Cond.initialized RX8, Cond.code yX8_isBarred cX8_isBarred 2 (some .boolean), Cond.fieldLink RX8 16 "GroutlineModel" "pillar" "[I", Cond.fieldLink RX8 20 "GroutlineModel" "shut" "[I", Cond.methodLink RX8 100 yX8_isSame, Cond.instanceMethod yX8_isSame, Cond.selects RX8 yX8_isSame yX8_isSame, Cond.code yX8_isSame cX8_isSame 3 (some .boolean), Cond.methodLink RX8 86 yX8_isEdge, Cond.instanceMethod yX8_isEdge]
def wsX8_plans_r2 : List Cond := [Cond.selects RX8 yX8_isEdge yX8_isEdge, Cond.code yX8_isEdge cX8_isEdge 4 (some .boolean), Cond.fieldLink RX8 80 "GroutlineModel" "border" "I", Cond.methodLink RX8 90 yX8_tileOf, Cond.instanceMethod yX8_tileOf, Cond.selects RX8 yX8_tileOf yX8_tileOf, Cond.code yX8_tileOf cX8_tileOf 4 (some .int), Cond.fieldLink RX8 83 "GroutlineModel" "pattern" "I", Cond.methodLink RX8 104 yX8_cuts, Cond.instanceMethod yX8_cuts, Cond.selects RX8 yX8_cuts yX8_cuts, Cond.code yX8_cuts cX8_cuts 9 none, Cond.fieldLink RX8 107 "GroutlineModel" "rests" "I", Cond.fieldLink RX8 110 "GroutlineModel" "tiles" "I", Cond.fieldLink RX8 32 "GroutlineModel" "pr" "[I", Cond.fieldLink RX8 56 "GroutlineModel" "rp" "[I", Cond.fieldLink RX8 50 "GroutlineModel" "rw" "[I", Cond.fieldLink RX8 53 "GroutlineModel" "rh" "[I", Cond.methodLink RX8 113 yX8_bestRest, Cond.instanceMethod yX8_bestRest, Cond.selects RX8 yX8_bestRest yX8_bestRest, Cond.code yX8_bestRest cX8_bestRest 6 (some .int), Cond.methodLink RX8 117 yX8_takeOut, Cond.instanceMethod yX8_takeOut]
def wsX8_plans_r3 : List Cond := [Cond.selects RX8 yX8_takeOut yX8_takeOut, Cond.code yX8_takeOut cX8_takeOut 3 none]
def wsX8_plans : List Cond := .code yX8_plans cX8_plans 4 none :: ((wsX8_plans_r1 ++ (wsX8_plans_r2 ++ wsX8_plans_r3)) ++ wsX80)
def wsX8_init_r1 : List Cond := [Cond.methodLink RX8 1 objectInit, Cond.instanceMethod objectInit, Cond.code objectInit ⟨#[0xb1]⟩ 1 none, Cond.fieldLink RX8 7 "GroutlineModel" "wide" "I", Cond.fieldLink RX8 13 "GroutlineModel" "high" "I", Cond.arrayClass .int, Cond.fieldLink RX8 16 "GroutlineModel" "pillar" "[I", Cond.fieldLink RX8 20 "GroutlineModel" "shut" "[I", Cond.fieldLink RX8 23 "GroutlineModel" "pk" "[I", Cond.fieldLink RX8 26 "GroutlineModel" "pf" "[I", Cond.fieldLink RX8 29 "GroutlineModel" "pn" "[I", Cond.fieldLink RX8 32 "GroutlineModel" "pr" "[I", Cond.fieldLink RX8 35 "GroutlineModel" "left" "[I", Cond.fieldLink RX8 38 "GroutlineModel" "right" "[I", Cond.fieldLink RX8 41 "GroutlineModel" "top" "[I", Cond.fieldLink RX8 44 "GroutlineModel" "bottom" "[I", Cond.fieldLink RX8 47 "GroutlineModel" "at" "[I", Cond.fieldLink RX8 50 "GroutlineModel" "rw" "[I", Cond.fieldLink RX8 53 "GroutlineModel" "rh" "[I", Cond.fieldLink RX8 56 "GroutlineModel" "rp" "[I", Cond.fieldLink RX8 59 "GroutlineModel" "cf" "[I", Cond.fieldLink RX8 62 "GroutlineModel" "cn" "[I", Cond.fieldLink RX8 65 "GroutlineModel" "dry" "[I", Cond.fieldLink RX8 68 "GroutlineModel" "grout" "I"]
def wsX8_init_r2 : List Cond := [Cond.methodLink RX8 71 yX8_unlay, Cond.instanceMethod yX8_unlay, Cond.selects RX8 yX8_unlay yX8_unlay, Cond.initialized RX8, Cond.code yX8_unlay cX8_unlay 2 none, Cond.methodLink RX8 74 yX8_plans, Cond.instanceMethod yX8_plans, Cond.selects RX8 yX8_plans yX8_plans, Cond.code yX8_plans cX8_plans 4 none, Cond.fieldLink RX8 94 "GroutlineModel" "pieces" "I", Cond.methodLink RX8 97 yX8_isBarred, Cond.instanceMethod yX8_isBarred, Cond.selects RX8 yX8_isBarred yX8_isBarred, Cond.code yX8_isBarred cX8_isBarred 2 (some .boolean), Cond.methodLink RX8 100 yX8_isSame, Cond.instanceMethod yX8_isSame, Cond.selects RX8 yX8_isSame yX8_isSame, Cond.code yX8_isSame cX8_isSame 3 (some .boolean), Cond.methodLink RX8 86 yX8_isEdge, Cond.instanceMethod yX8_isEdge, Cond.selects RX8 yX8_isEdge yX8_isEdge, Cond.code yX8_isEdge cX8_isEdge 4 (some .boolean), Cond.fieldLink RX8 80 "GroutlineModel" "border" "I", Cond.methodLink RX8 90 yX8_tileOf]
def wsX8_init_r3 : List Cond := [Cond.instanceMethod yX8_tileOf, Cond.selects RX8 yX8_tileOf yX8_tileOf, Cond.code yX8_tileOf cX8_tileOf 4 (some .int), Cond.fieldLink RX8 83 "GroutlineModel" "pattern" "I", Cond.methodLink RX8 104 yX8_cuts, Cond.instanceMethod yX8_cuts, Cond.selects RX8 yX8_cuts yX8_cuts, Cond.code yX8_cuts cX8_cuts 9 none, Cond.fieldLink RX8 107 "GroutlineModel" "rests" "I", Cond.fieldLink RX8 110 "GroutlineModel" "tiles" "I", Cond.methodLink RX8 113 yX8_bestRest, Cond.instanceMethod yX8_bestRest, Cond.selects RX8 yX8_bestRest yX8_bestRest, Cond.code yX8_bestRest cX8_bestRest 6 (some .int), Cond.methodLink RX8 117 yX8_takeOut, Cond.instanceMethod yX8_takeOut, Cond.selects RX8 yX8_takeOut yX8_takeOut, Cond.code yX8_takeOut cX8_takeOut 3 none]
def wsX8_init : List Cond := .code yX8_init cX8_init 1 none :: ((wsX8_init_r1 ++ (wsX8_init_r2 ++ wsX8_init_r3)) ++ wsX80)
def wsX8_thrown : List Cond := .code yX8_thrown cX8_thrown 1 (some .int) :: ([.fieldLink RX8 77 "GroutlineModel" "thrown" "I"] ++ wsX80)
def wsX8_holds : List Cond := .code yX8_holds cX8_holds 2 (some .boolean) :: ([.fieldLink RX8 77 "GroutlineModel" "thrown" "I"] ++ wsX80)
def wsX8_in : List Cond := .code yX8_in cX8_in 4 (some .boolean) :: ([])
def wsX8_courses : List Cond := .code yX8_courses cX8_courses 1 (some .int) :: ([.fieldLink RX8 80 "GroutlineModel" "border" "I", .fieldLink RX8 13 "GroutlineModel" "high" "I"] ++ wsX80)
def wsX8_stripOfRow : List Cond := .code yX8_stripOfRow cX8_stripOfRow 2 (some .int) :: ([.fieldLink RX8 80 "GroutlineModel" "border" "I", .fieldLink RX8 13 "GroutlineModel" "high" "I", .methodLink RX8 121 yX8_courses, .instanceMethod yX8_courses, .selects RX8 yX8_courses yX8_courses, .initialized RX8, .code yX8_courses cX8_courses 1 (some .int)] ++ wsX80)
def wsX8_stripCount : List Cond := .code yX8_stripCount cX8_stripCount 1 (some .int) :: ([.fieldLink RX8 80 "GroutlineModel" "border" "I", .methodLink RX8 121 yX8_courses, .instanceMethod yX8_courses, .selects RX8 yX8_courses yX8_courses, .initialized RX8, .code yX8_courses cX8_courses 1 (some .int), .fieldLink RX8 13 "GroutlineModel" "high" "I"] ++ wsX80)
def wsX8_plan_r1 : List Cond := [Cond.fieldLink RX8 129 "GroutlineModel" "anyLaid" "Z", Cond.fieldLink RX8 7 "GroutlineModel" "wide" "I", Cond.fieldLink RX8 13 "GroutlineModel" "high" "I", Cond.fieldLink RX8 80 "GroutlineModel" "border" "I", Cond.fieldLink RX8 83 "GroutlineModel" "pattern" "I", Cond.fieldLink RX8 94 "GroutlineModel" "pieces" "I", Cond.methodLink RX8 125 yX8_in, Cond.instanceMethod yX8_in, Cond.selects RX8 yX8_in yX8_in, Cond.initialized RX8, Cond.code yX8_in cX8_in 4 (some .boolean), Cond.methodLink RX8 133 yX8_holds, Cond.instanceMethod yX8_holds, Cond.selects RX8 yX8_holds yX8_holds, Cond.code yX8_holds cX8_holds 2 (some .boolean), Cond.fieldLink RX8 77 "GroutlineModel" "thrown" "I", Cond.methodLink RX8 74 yX8_plans, Cond.instanceMethod yX8_plans, Cond.selects RX8 yX8_plans yX8_plans, Cond.code yX8_plans cX8_plans 4 none, Cond.fieldLink RX8 47 "GroutlineModel" "at" "[I", Cond.fieldLink RX8 26 "GroutlineModel" "pf" "[I", Cond.fieldLink RX8 29 "GroutlineModel" "pn" "[I", Cond.fieldLink RX8 35 "GroutlineModel" "left" "[I"]
def wsX8_plan_r2 : List Cond := [Cond.fieldLink RX8 38 "GroutlineModel" "right" "[I", Cond.fieldLink RX8 41 "GroutlineModel" "top" "[I", Cond.fieldLink RX8 44 "GroutlineModel" "bottom" "[I", Cond.fieldLink RX8 23 "GroutlineModel" "pk" "[I", Cond.methodLink RX8 97 yX8_isBarred, Cond.instanceMethod yX8_isBarred, Cond.selects RX8 yX8_isBarred yX8_isBarred, Cond.code yX8_isBarred cX8_isBarred 2 (some .boolean), Cond.fieldLink RX8 16 "GroutlineModel" "pillar" "[I", Cond.fieldLink RX8 20 "GroutlineModel" "shut" "[I", Cond.methodLink RX8 100 yX8_isSame, Cond.instanceMethod yX8_isSame, Cond.selects RX8 yX8_isSame yX8_isSame, Cond.code yX8_isSame cX8_isSame 3 (some .boolean), Cond.methodLink RX8 86 yX8_isEdge, Cond.instanceMethod yX8_isEdge, Cond.selects RX8 yX8_isEdge yX8_isEdge, Cond.code yX8_isEdge cX8_isEdge 4 (some .boolean), Cond.methodLink RX8 90 yX8_tileOf, Cond.instanceMethod yX8_tileOf, Cond.selects RX8 yX8_tileOf yX8_tileOf, Cond.code yX8_tileOf cX8_tileOf 4 (some .int), Cond.methodLink RX8 104 yX8_cuts, Cond.instanceMethod yX8_cuts]
def wsX8_plan_r3 : List Cond := [Cond.selects RX8 yX8_cuts yX8_cuts, Cond.code yX8_cuts cX8_cuts 9 none, Cond.fieldLink RX8 107 "GroutlineModel" "rests" "I", Cond.fieldLink RX8 110 "GroutlineModel" "tiles" "I", Cond.fieldLink RX8 32 "GroutlineModel" "pr" "[I", Cond.fieldLink RX8 56 "GroutlineModel" "rp" "[I", Cond.fieldLink RX8 50 "GroutlineModel" "rw" "[I", Cond.fieldLink RX8 53 "GroutlineModel" "rh" "[I", Cond.methodLink RX8 113 yX8_bestRest, Cond.instanceMethod yX8_bestRest, Cond.selects RX8 yX8_bestRest yX8_bestRest, Cond.code yX8_bestRest cX8_bestRest 6 (some .int), Cond.methodLink RX8 117 yX8_takeOut, Cond.instanceMethod yX8_takeOut, Cond.selects RX8 yX8_takeOut yX8_takeOut, Cond.code yX8_takeOut cX8_takeOut 3 none]
def wsX8_plan : List Cond := .code yX8_plan cX8_plan 6 (some .int) :: ((wsX8_plan_r1 ++ (wsX8_plan_r2 ++ wsX8_plan_r3)) ++ wsX80)
def wsX8_pillar_r1 : List Cond := [Cond.fieldLink RX8 129 "GroutlineModel" "anyLaid" "Z", Cond.fieldLink RX8 16 "GroutlineModel" "pillar" "[I", Cond.methodLink RX8 125 yX8_in, Cond.instanceMethod yX8_in, Cond.selects RX8 yX8_in yX8_in, Cond.initialized RX8, Cond.code yX8_in cX8_in 4 (some .boolean), Cond.methodLink RX8 133 yX8_holds, Cond.instanceMethod yX8_holds, Cond.selects RX8 yX8_holds yX8_holds, Cond.code yX8_holds cX8_holds 2 (some .boolean), Cond.fieldLink RX8 77 "GroutlineModel" "thrown" "I", Cond.methodLink RX8 74 yX8_plans, Cond.instanceMethod yX8_plans, Cond.selects RX8 yX8_plans yX8_plans, Cond.code yX8_plans cX8_plans 4 none, Cond.fieldLink RX8 94 "GroutlineModel" "pieces" "I", Cond.fieldLink RX8 47 "GroutlineModel" "at" "[I", Cond.fieldLink RX8 26 "GroutlineModel" "pf" "[I", Cond.fieldLink RX8 29 "GroutlineModel" "pn" "[I", Cond.fieldLink RX8 35 "GroutlineModel" "left" "[I", Cond.fieldLink RX8 38 "GroutlineModel" "right" "[I", Cond.fieldLink RX8 41 "GroutlineModel" "top" "[I", Cond.fieldLink RX8 44 "GroutlineModel" "bottom" "[I"]
def wsX8_pillar_r2 : List Cond := [Cond.fieldLink RX8 23 "GroutlineModel" "pk" "[I", Cond.fieldLink RX8 7 "GroutlineModel" "wide" "I", Cond.fieldLink RX8 13 "GroutlineModel" "high" "I", Cond.methodLink RX8 97 yX8_isBarred, Cond.instanceMethod yX8_isBarred, Cond.selects RX8 yX8_isBarred yX8_isBarred, Cond.code yX8_isBarred cX8_isBarred 2 (some .boolean), Cond.fieldLink RX8 20 "GroutlineModel" "shut" "[I", Cond.methodLink RX8 100 yX8_isSame, Cond.instanceMethod yX8_isSame, Cond.selects RX8 yX8_isSame yX8_isSame, Cond.code yX8_isSame cX8_isSame 3 (some .boolean), Cond.methodLink RX8 86 yX8_isEdge, Cond.instanceMethod yX8_isEdge, Cond.selects RX8 yX8_isEdge yX8_isEdge, Cond.code yX8_isEdge cX8_isEdge 4 (some .boolean), Cond.fieldLink RX8 80 "GroutlineModel" "border" "I", Cond.methodLink RX8 90 yX8_tileOf, Cond.instanceMethod yX8_tileOf, Cond.selects RX8 yX8_tileOf yX8_tileOf, Cond.code yX8_tileOf cX8_tileOf 4 (some .int), Cond.fieldLink RX8 83 "GroutlineModel" "pattern" "I", Cond.methodLink RX8 104 yX8_cuts, Cond.instanceMethod yX8_cuts]
def wsX8_pillar_r3 : List Cond := [Cond.selects RX8 yX8_cuts yX8_cuts, Cond.code yX8_cuts cX8_cuts 9 none, Cond.fieldLink RX8 107 "GroutlineModel" "rests" "I", Cond.fieldLink RX8 110 "GroutlineModel" "tiles" "I", Cond.fieldLink RX8 32 "GroutlineModel" "pr" "[I", Cond.fieldLink RX8 56 "GroutlineModel" "rp" "[I", Cond.fieldLink RX8 50 "GroutlineModel" "rw" "[I", Cond.fieldLink RX8 53 "GroutlineModel" "rh" "[I", Cond.methodLink RX8 113 yX8_bestRest, Cond.instanceMethod yX8_bestRest, Cond.selects RX8 yX8_bestRest yX8_bestRest, Cond.code yX8_bestRest cX8_bestRest 6 (some .int), Cond.methodLink RX8 117 yX8_takeOut, Cond.instanceMethod yX8_takeOut, Cond.selects RX8 yX8_takeOut yX8_takeOut, Cond.code yX8_takeOut cX8_takeOut 3 none]
def wsX8_pillar : List Cond := .code yX8_pillar cX8_pillar 6 (some .boolean) :: ((wsX8_pillar_r1 ++ (wsX8_pillar_r2 ++ wsX8_pillar_r3)) ++ wsX80)
def wsX8_door_r1 : List Cond := [Cond.fieldLink RX8 136 "GroutlineModel" "door" "I", Cond.fieldLink RX8 65 "GroutlineModel" "dry" "[I", Cond.fieldLink RX8 20 "GroutlineModel" "shut" "[I", Cond.fieldLink RX8 94 "GroutlineModel" "pieces" "I", Cond.methodLink RX8 125 yX8_in, Cond.instanceMethod yX8_in, Cond.selects RX8 yX8_in yX8_in, Cond.initialized RX8, Cond.code yX8_in cX8_in 4 (some .boolean), Cond.methodLink RX8 133 yX8_holds, Cond.instanceMethod yX8_holds, Cond.selects RX8 yX8_holds yX8_holds, Cond.code yX8_holds cX8_holds 2 (some .boolean), Cond.fieldLink RX8 77 "GroutlineModel" "thrown" "I", Cond.methodLink RX8 74 yX8_plans, Cond.instanceMethod yX8_plans, Cond.selects RX8 yX8_plans yX8_plans, Cond.code yX8_plans cX8_plans 4 none, Cond.fieldLink RX8 47 "GroutlineModel" "at" "[I", Cond.fieldLink RX8 26 "GroutlineModel" "pf" "[I", Cond.fieldLink RX8 29 "GroutlineModel" "pn" "[I", Cond.fieldLink RX8 35 "GroutlineModel" "left" "[I", Cond.fieldLink RX8 38 "GroutlineModel" "right" "[I", Cond.fieldLink RX8 41 "GroutlineModel" "top" "[I"]
def wsX8_door_r2 : List Cond := [Cond.fieldLink RX8 44 "GroutlineModel" "bottom" "[I", Cond.fieldLink RX8 23 "GroutlineModel" "pk" "[I", Cond.fieldLink RX8 7 "GroutlineModel" "wide" "I", Cond.fieldLink RX8 13 "GroutlineModel" "high" "I", Cond.methodLink RX8 97 yX8_isBarred, Cond.instanceMethod yX8_isBarred, Cond.selects RX8 yX8_isBarred yX8_isBarred, Cond.code yX8_isBarred cX8_isBarred 2 (some .boolean), Cond.fieldLink RX8 16 "GroutlineModel" "pillar" "[I", Cond.methodLink RX8 100 yX8_isSame, Cond.instanceMethod yX8_isSame, Cond.selects RX8 yX8_isSame yX8_isSame, Cond.code yX8_isSame cX8_isSame 3 (some .boolean), Cond.methodLink RX8 86 yX8_isEdge, Cond.instanceMethod yX8_isEdge, Cond.selects RX8 yX8_isEdge yX8_isEdge, Cond.code yX8_isEdge cX8_isEdge 4 (some .boolean), Cond.fieldLink RX8 80 "GroutlineModel" "border" "I", Cond.methodLink RX8 90 yX8_tileOf, Cond.instanceMethod yX8_tileOf, Cond.selects RX8 yX8_tileOf yX8_tileOf, Cond.code yX8_tileOf cX8_tileOf 4 (some .int), Cond.fieldLink RX8 83 "GroutlineModel" "pattern" "I", Cond.methodLink RX8 104 yX8_cuts]
def wsX8_door_r3 : List Cond := [Cond.instanceMethod yX8_cuts, Cond.selects RX8 yX8_cuts yX8_cuts, Cond.code yX8_cuts cX8_cuts 9 none, Cond.fieldLink RX8 107 "GroutlineModel" "rests" "I", Cond.fieldLink RX8 110 "GroutlineModel" "tiles" "I", Cond.fieldLink RX8 32 "GroutlineModel" "pr" "[I", Cond.fieldLink RX8 56 "GroutlineModel" "rp" "[I", Cond.fieldLink RX8 50 "GroutlineModel" "rw" "[I", Cond.fieldLink RX8 53 "GroutlineModel" "rh" "[I", Cond.methodLink RX8 113 yX8_bestRest, Cond.instanceMethod yX8_bestRest, Cond.selects RX8 yX8_bestRest yX8_bestRest, Cond.code yX8_bestRest cX8_bestRest 6 (some .int), Cond.methodLink RX8 117 yX8_takeOut, Cond.instanceMethod yX8_takeOut, Cond.selects RX8 yX8_takeOut yX8_takeOut, Cond.code yX8_takeOut cX8_takeOut 3 none]
def wsX8_door : List Cond := .code yX8_door cX8_door 3 (some .int) :: ((wsX8_door_r1 ++ (wsX8_door_r2 ++ wsX8_door_r3)) ++ wsX80)
def wsX8_ofPiece_r1 : List Cond := [Cond.fieldLink RX8 94 "GroutlineModel" "pieces" "I", Cond.fieldLink RX8 23 "GroutlineModel" "pk" "[I", Cond.fieldLink RX8 26 "GroutlineModel" "pf" "[I", Cond.fieldLink RX8 29 "GroutlineModel" "pn" "[I", Cond.fieldLink RX8 32 "GroutlineModel" "pr" "[I", Cond.methodLink RX8 125 yX8_in, Cond.instanceMethod yX8_in, Cond.selects RX8 yX8_in yX8_in, Cond.initialized RX8, Cond.code yX8_in cX8_in 4 (some .boolean), Cond.methodLink RX8 133 yX8_holds, Cond.instanceMethod yX8_holds, Cond.selects RX8 yX8_holds yX8_holds, Cond.code yX8_holds cX8_holds 2 (some .boolean), Cond.fieldLink RX8 77 "GroutlineModel" "thrown" "I", Cond.methodLink RX8 139 yX8_stripOfRow, Cond.instanceMethod yX8_stripOfRow, Cond.selects RX8 yX8_stripOfRow yX8_stripOfRow, Cond.code yX8_stripOfRow cX8_stripOfRow 2 (some .int), Cond.fieldLink RX8 80 "GroutlineModel" "border" "I", Cond.fieldLink RX8 13 "GroutlineModel" "high" "I", Cond.methodLink RX8 121 yX8_courses, Cond.instanceMethod yX8_courses, Cond.selects RX8 yX8_courses yX8_courses]
def wsX8_ofPiece_r2 : List Cond := [Cond.code yX8_courses cX8_courses 1 (some .int)]
def wsX8_ofPiece : List Cond := .code yX8_ofPiece cX8_ofPiece 3 (some .int) :: ((wsX8_ofPiece_r1 ++ wsX8_ofPiece_r2) ++ wsX80)
def wsX8_pieceAt : List Cond := .code yX8_pieceAt cX8_pieceAt 3 (some .int) :: ([.fieldLink RX8 47 "GroutlineModel" "at" "[I", .methodLink RX8 125 yX8_in, .instanceMethod yX8_in, .selects RX8 yX8_in yX8_in, .initialized RX8, .code yX8_in cX8_in 4 (some .boolean), .methodLink RX8 133 yX8_holds, .instanceMethod yX8_holds, .selects RX8 yX8_holds yX8_holds, .code yX8_holds cX8_holds 2 (some .boolean), .fieldLink RX8 77 "GroutlineModel" "thrown" "I"] ++ wsX80)
def wsX8_piecesAnew : List Cond := .code yX8_piecesAnew cX8_piecesAnew 1 (some .int) :: ([.fieldLink RX8 94 "GroutlineModel" "pieces" "I", .methodLink RX8 133 yX8_holds, .instanceMethod yX8_holds, .selects RX8 yX8_holds yX8_holds, .initialized RX8, .code yX8_holds cX8_holds 2 (some .boolean), .fieldLink RX8 77 "GroutlineModel" "thrown" "I"] ++ wsX80)
def wsX8_tiles : List Cond := .code yX8_tiles cX8_tiles 1 (some .int) :: ([.fieldLink RX8 110 "GroutlineModel" "tiles" "I", .methodLink RX8 133 yX8_holds, .instanceMethod yX8_holds, .selects RX8 yX8_holds yX8_holds, .initialized RX8, .code yX8_holds cX8_holds 2 (some .boolean), .fieldLink RX8 77 "GroutlineModel" "thrown" "I"] ++ wsX80)
def wsX8_rest : List Cond := .code yX8_rest cX8_rest 2 (some .int) :: ([.fieldLink RX8 107 "GroutlineModel" "rests" "I", .fieldLink RX8 50 "GroutlineModel" "rw" "[I", .fieldLink RX8 53 "GroutlineModel" "rh" "[I", .methodLink RX8 133 yX8_holds, .instanceMethod yX8_holds, .selects RX8 yX8_holds yX8_holds, .initialized RX8, .code yX8_holds cX8_holds 2 (some .boolean), .fieldLink RX8 77 "GroutlineModel" "thrown" "I"] ++ wsX80)
def wsX8_crate : List Cond := .code yX8_crate cX8_crate 3 (some .int) :: ([.fieldLink RX8 142 "GroutlineModel" "crates" "I", .fieldLink RX8 59 "GroutlineModel" "cf" "[I", .fieldLink RX8 62 "GroutlineModel" "cn" "[I", .methodLink RX8 125 yX8_in, .instanceMethod yX8_in, .selects RX8 yX8_in yX8_in, .initialized RX8, .code yX8_in cX8_in 4 (some .boolean), .methodLink RX8 133 yX8_holds, .instanceMethod yX8_holds, .selects RX8 yX8_holds yX8_holds, .code yX8_holds cX8_holds 2 (some .boolean), .fieldLink RX8 77 "GroutlineModel" "thrown" "I"] ++ wsX80)
def wsX8_fetch : List Cond := .code yX8_fetch cX8_fetch 5 (some .int) :: ([.fieldLink RX8 142 "GroutlineModel" "crates" "I", .fieldLink RX8 59 "GroutlineModel" "cf" "[I", .fieldLink RX8 62 "GroutlineModel" "cn" "[I", .fieldLink RX8 145 "GroutlineModel" "moves" "I", .methodLink RX8 125 yX8_in, .instanceMethod yX8_in, .selects RX8 yX8_in yX8_in, .initialized RX8, .code yX8_in cX8_in 4 (some .boolean), .methodLink RX8 133 yX8_holds, .instanceMethod yX8_holds, .selects RX8 yX8_holds yX8_holds, .code yX8_holds cX8_holds 2 (some .boolean), .fieldLink RX8 77 "GroutlineModel" "thrown" "I"] ++ wsX80)
def wsX8_moves : List Cond := .code yX8_moves cX8_moves 1 (some .int) :: ([.fieldLink RX8 145 "GroutlineModel" "moves" "I", .methodLink RX8 133 yX8_holds, .instanceMethod yX8_holds, .selects RX8 yX8_holds yX8_holds, .initialized RX8, .code yX8_holds cX8_holds 2 (some .boolean), .fieldLink RX8 77 "GroutlineModel" "thrown" "I"] ++ wsX80)
def wsX8_grout : List Cond := .code yX8_grout cX8_grout 3 (some .int) :: ([.fieldLink RX8 68 "GroutlineModel" "grout" "I", .methodLink RX8 125 yX8_in, .instanceMethod yX8_in, .selects RX8 yX8_in yX8_in, .initialized RX8, .code yX8_in cX8_in 4 (some .boolean), .methodLink RX8 133 yX8_holds, .instanceMethod yX8_holds, .selects RX8 yX8_holds yX8_holds, .code yX8_holds cX8_holds 2 (some .boolean), .fieldLink RX8 77 "GroutlineModel" "thrown" "I"] ++ wsX80)
def wsX8_isWet : List Cond := .code yX8_isWet cX8_isWet 4 (some .boolean) :: ([.fieldLink RX8 65 "GroutlineModel" "dry" "[I", .fieldLink RX8 148 "GroutlineModel" "hour" "I"] ++ wsX80)
def wsX8_piecesOf : List Cond := .code yX8_piecesOf cX8_piecesOf 4 (some .int) :: ([.fieldLink RX8 94 "GroutlineModel" "pieces" "I", .fieldLink RX8 26 "GroutlineModel" "pf" "[I", .methodLink RX8 139 yX8_stripOfRow, .instanceMethod yX8_stripOfRow, .selects RX8 yX8_stripOfRow yX8_stripOfRow, .initialized RX8, .code yX8_stripOfRow cX8_stripOfRow 2 (some .int), .fieldLink RX8 80 "GroutlineModel" "border" "I", .fieldLink RX8 13 "GroutlineModel" "high" "I", .methodLink RX8 121 yX8_courses, .instanceMethod yX8_courses, .selects RX8 yX8_courses yX8_courses, .code yX8_courses cX8_courses 1 (some .int)] ++ wsX80)
def wsX8_isStrip : List Cond := .code yX8_isStrip cX8_isStrip 2 (some .boolean) :: ([.methodLink RX8 151 yX8_stripCount, .instanceMethod yX8_stripCount, .selects RX8 yX8_stripCount yX8_stripCount, .initialized RX8, .code yX8_stripCount cX8_stripCount 1 (some .int), .fieldLink RX8 80 "GroutlineModel" "border" "I", .methodLink RX8 121 yX8_courses, .instanceMethod yX8_courses, .selects RX8 yX8_courses yX8_courses, .code yX8_courses cX8_courses 1 (some .int), .fieldLink RX8 13 "GroutlineModel" "high" "I", .methodLink RX8 125 yX8_in, .instanceMethod yX8_in, .selects RX8 yX8_in yX8_in, .code yX8_in cX8_in 4 (some .boolean)] ++ wsX80)
def wsX8_lay_r1 : List Cond := [Cond.fieldLink RX8 65 "GroutlineModel" "dry" "[I", Cond.fieldLink RX8 148 "GroutlineModel" "hour" "I", Cond.fieldLink RX8 68 "GroutlineModel" "grout" "I", Cond.fieldLink RX8 129 "GroutlineModel" "anyLaid" "Z", Cond.methodLink RX8 154 yX8_isStrip, Cond.instanceMethod yX8_isStrip, Cond.selects RX8 yX8_isStrip yX8_isStrip, Cond.initialized RX8, Cond.code yX8_isStrip cX8_isStrip 2 (some .boolean), Cond.methodLink RX8 151 yX8_stripCount, Cond.instanceMethod yX8_stripCount, Cond.selects RX8 yX8_stripCount yX8_stripCount, Cond.code yX8_stripCount cX8_stripCount 1 (some .int), Cond.fieldLink RX8 80 "GroutlineModel" "border" "I", Cond.methodLink RX8 121 yX8_courses, Cond.instanceMethod yX8_courses, Cond.selects RX8 yX8_courses yX8_courses, Cond.code yX8_courses cX8_courses 1 (some .int), Cond.fieldLink RX8 13 "GroutlineModel" "high" "I", Cond.methodLink RX8 125 yX8_in, Cond.instanceMethod yX8_in, Cond.selects RX8 yX8_in yX8_in, Cond.code yX8_in cX8_in 4 (some .boolean), Cond.methodLink RX8 157 yX8_isWet]
def wsX8_lay_r2 : List Cond := [Cond.instanceMethod yX8_isWet, Cond.selects RX8 yX8_isWet yX8_isWet, Cond.code yX8_isWet cX8_isWet 4 (some .boolean), Cond.methodLink RX8 133 yX8_holds, Cond.instanceMethod yX8_holds, Cond.selects RX8 yX8_holds yX8_holds, Cond.code yX8_holds cX8_holds 2 (some .boolean), Cond.fieldLink RX8 77 "GroutlineModel" "thrown" "I", Cond.methodLink RX8 160 yX8_piecesOf, Cond.instanceMethod yX8_piecesOf, Cond.selects RX8 yX8_piecesOf yX8_piecesOf, Cond.code yX8_piecesOf cX8_piecesOf 4 (some .int), Cond.fieldLink RX8 94 "GroutlineModel" "pieces" "I", Cond.fieldLink RX8 26 "GroutlineModel" "pf" "[I", Cond.methodLink RX8 139 yX8_stripOfRow, Cond.instanceMethod yX8_stripOfRow, Cond.selects RX8 yX8_stripOfRow yX8_stripOfRow, Cond.code yX8_stripOfRow cX8_stripOfRow 2 (some .int)]
def wsX8_lay : List Cond := .code yX8_lay cX8_lay 3 (some .int) :: ((wsX8_lay_r1 ++ wsX8_lay_r2) ++ wsX80)
def wsX8_dry_r1 : List Cond := [Cond.fieldLink RX8 65 "GroutlineModel" "dry" "[I", Cond.methodLink RX8 154 yX8_isStrip, Cond.instanceMethod yX8_isStrip, Cond.selects RX8 yX8_isStrip yX8_isStrip, Cond.initialized RX8, Cond.code yX8_isStrip cX8_isStrip 2 (some .boolean), Cond.methodLink RX8 151 yX8_stripCount, Cond.instanceMethod yX8_stripCount, Cond.selects RX8 yX8_stripCount yX8_stripCount, Cond.code yX8_stripCount cX8_stripCount 1 (some .int), Cond.fieldLink RX8 80 "GroutlineModel" "border" "I", Cond.methodLink RX8 121 yX8_courses, Cond.instanceMethod yX8_courses, Cond.selects RX8 yX8_courses yX8_courses, Cond.code yX8_courses cX8_courses 1 (some .int), Cond.fieldLink RX8 13 "GroutlineModel" "high" "I", Cond.methodLink RX8 125 yX8_in, Cond.instanceMethod yX8_in, Cond.selects RX8 yX8_in yX8_in, Cond.code yX8_in cX8_in 4 (some .boolean), Cond.methodLink RX8 133 yX8_holds, Cond.instanceMethod yX8_holds, Cond.selects RX8 yX8_holds yX8_holds, Cond.code yX8_holds cX8_holds 2 (some .boolean)]
def wsX8_dry_r2 : List Cond := [Cond.fieldLink RX8 77 "GroutlineModel" "thrown" "I"]
def wsX8_dry : List Cond := .code yX8_dry cX8_dry 2 (some .int) :: ((wsX8_dry_r1 ++ wsX8_dry_r2) ++ wsX80)
def wsX8_strips : List Cond := .code yX8_strips cX8_strips 1 (some .int) :: ([.methodLink RX8 133 yX8_holds, .instanceMethod yX8_holds, .selects RX8 yX8_holds yX8_holds, .initialized RX8, .code yX8_holds cX8_holds 2 (some .boolean), .fieldLink RX8 77 "GroutlineModel" "thrown" "I", .methodLink RX8 151 yX8_stripCount, .instanceMethod yX8_stripCount, .selects RX8 yX8_stripCount yX8_stripCount, .code yX8_stripCount cX8_stripCount 1 (some .int), .fieldLink RX8 80 "GroutlineModel" "border" "I", .methodLink RX8 121 yX8_courses, .instanceMethod yX8_courses, .selects RX8 yX8_courses yX8_courses, .code yX8_courses cX8_courses 1 (some .int), .fieldLink RX8 13 "GroutlineModel" "high" "I"] ++ wsX80)
def wsX8_pass : List Cond := .code yX8_pass cX8_pass 2 (some .int) :: ([.fieldLink RX8 148 "GroutlineModel" "hour" "I", .methodLink RX8 125 yX8_in, .instanceMethod yX8_in, .selects RX8 yX8_in yX8_in, .initialized RX8, .code yX8_in cX8_in 4 (some .boolean), .methodLink RX8 133 yX8_holds, .instanceMethod yX8_holds, .selects RX8 yX8_holds yX8_holds, .code yX8_holds cX8_holds 2 (some .boolean), .fieldLink RX8 77 "GroutlineModel" "thrown" "I"] ++ wsX80)
def wsJ9_max_7cf53 : List Cond := .code yJ9_max_7cf53 cJ9_max_7cf53 2 (some .int) :: ([])
def wsJ9_min_7cf53 : List Cond := .code yJ9_min_7cf53 cJ9_min_7cf53 2 (some .int) :: ([])
def wsL_plan_r1 : List Cond := [Cond.classLink RL 13 "java/lang/IllegalArgumentException", Cond.classLink RL 15 "java/lang/IllegalStateException", Cond.methodLink RL 7 yX7_plan, Cond.instanceMethod yX7_plan, Cond.selects RX7 yX7_plan yX7_plan, Cond.initialized RX7, Cond.code yX7_plan cX7_plan 5 (some .int), Cond.classLink RX7 65 "java/lang/IllegalArgumentException", Cond.initialized "java/lang/IllegalArgumentException", Cond.classLink RX7 80 "java/lang/IllegalStateException", Cond.initialized "java/lang/IllegalStateException", Cond.fieldLink RX7 47 "Groutline" "work" "LGroutline$Work;", Cond.fieldLink RX7 76 "Groutline$Work" "hasBegun" "Z", Cond.fieldLink RX7 12 "Groutline" "layout" "LGroutline$Layout;", Cond.fieldLink RX7 26 "Groutline" "pieces" "LGroutline$Pieces;", Cond.fieldLink RX7 89 "Groutline$Pieces" "count" "I", Cond.methodLink RX7 61 yX7_isWithin, Cond.static yX7_isWithin, Cond.code yX7_isWithin cX7_isWithin 3 (some .boolean), Cond.methodLink RX7 85 yX3_set, Cond.instanceMethod yX3_set, Cond.selects RX3 yX3_set yX3_set, Cond.initialized RX3, Cond.code yX3_set cX3_set 5 none]
def wsL_plan_r2 : List Cond := [Cond.fieldLink RX3 9 "Groutline$Layout" "wide" "I", Cond.fieldLink RX3 15 "Groutline$Layout" "high" "I", Cond.fieldLink RX3 18 "Groutline$Layout" "border" "I", Cond.fieldLink RX3 21 "Groutline$Layout" "pattern" "I", Cond.methodLink RX7 58 yX7_renew, Cond.instanceMethod yX7_renew, Cond.selects RX7 yX7_renew yX7_renew, Cond.code yX7_renew cX7_renew 1 none, Cond.fieldLink RX7 19 "Groutline" "bars" "LGroutline$Bars;", Cond.fieldLink RX7 33 "Groutline" "cuts" "LGroutline$Cuts;", Cond.methodLink RX7 214 yX0_renew, Cond.instanceMethod yX0_renew, Cond.selects RX0 yX0_renew yX0_renew, Cond.initialized RX0, Cond.code yX0_renew cX0_renew 4 none, Cond.methodLink RX0 30 yX3_stripOfRow, Cond.instanceMethod yX3_stripOfRow, Cond.selects RX3 yX3_stripOfRow yX3_stripOfRow, Cond.code yX3_stripOfRow cX3_stripOfRow 2 (some .int), Cond.methodLink RX3 28 yX3_lowerBorder, Cond.instanceMethod yX3_lowerBorder, Cond.selects RX3 yX3_lowerBorder yX3_lowerBorder, Cond.code yX3_lowerBorder cX3_lowerBorder 1 (some .int), Cond.methodLink RX3 39 yX3_countCourses]
def wsL_plan_r3 : List Cond := [Cond.instanceMethod yX3_countCourses, Cond.selects RX3 yX3_countCourses yX3_countCourses, Cond.code yX3_countCourses cX3_countCourses 1 (some .int), Cond.methodLink RX3 35 yX3_courseOfRow, Cond.instanceMethod yX3_courseOfRow, Cond.selects RX3 yX3_courseOfRow yX3_courseOfRow, Cond.code yX3_courseOfRow cX3_courseOfRow 2 (some .int), Cond.static yX7_timesIn, Cond.code yX7_timesIn cX7_timesIn 2 (some .int), Cond.methodLink RX0 36 yX6_isLaid, Cond.instanceMethod yX6_isLaid, Cond.selects RX6 yX6_isLaid yX6_isLaid, Cond.initialized RX6, Cond.code yX6_isLaid cX6_isLaid 2 (some .boolean), Cond.fieldLink RX6 22 "Groutline$Work" "laid" "[Z", Cond.methodLink RX0 42 yX0_renewRow, Cond.instanceMethod yX0_renewRow, Cond.selects RX0 yX0_renewRow yX0_renewRow, Cond.code yX0_renewRow cX0_renewRow 4 none, Cond.fieldLink RX0 15 "Groutline$Bars" "barred" "[Z", Cond.fieldLink RX0 9 "Groutline$Bars" "pillars" "[Z", Cond.static yX7_isCell, Cond.code yX7_isCell cX7_isCell 2 (some .boolean), Cond.static yX7_cellAt]
def wsL_plan_r4 : List Cond := [Cond.code yX7_cellAt cX7_cellAt 2 (some .int), Cond.methodLink RX0 46 yX0_isDoor, Cond.instanceMethod yX0_isDoor, Cond.selects RX0 yX0_isDoor yX0_isDoor, Cond.code yX0_isDoor cX0_isDoor 3 (some .boolean), Cond.fieldLink RX0 18 "Groutline$Bars" "doorColumn" "I", Cond.methodLink RX7 217 yX4_find, Cond.instanceMethod yX4_find, Cond.selects RX4 yX4_find yX4_find, Cond.initialized RX4, Cond.code yX4_find cX4_find 6 none, Cond.fieldLink RX4 9 "Groutline$Pieces" "count" "I", Cond.fieldLink RX4 15 "Groutline$Pieces" "ofCells" "[I", Cond.methodLink RX4 44 yJ7_fill_53178, Cond.static yJ7_fill_53178, Cond.initialized RJ7, Cond.code yJ7_fill_53178 cJ7_fill_53178 4 none, Cond.methodLink RX4 54 yX0_areAt, Cond.instanceMethod yX0_areAt, Cond.selects RX0 yX0_areAt yX0_areAt, Cond.code yX0_areAt cX0_areAt 3 (some .boolean), Cond.methodLink RX4 60 yX4_add, Cond.instanceMethod yX4_add, Cond.selects RX4 yX4_add yX4_add]
def wsL_plan_r5 : List Cond := [Cond.code yX4_add cX4_add 6 none, Cond.fieldLink RX4 22 "Groutline$Pieces" "columns" "[I", Cond.fieldLink RX4 25 "Groutline$Pieces" "rows" "[I", Cond.fieldLink RX4 40 "Groutline$Pieces" "frame" "LGroutline$Frame;", Cond.fieldLink RX4 19 "Groutline$Pieces" "kinds" "[I", Cond.fieldLink RX4 28 "Groutline$Pieces" "sizes" "[I", Cond.fieldLink RX4 80 "Groutline$Layout" "wide" "I", Cond.fieldLink RX4 83 "Groutline$Layout" "high" "I", Cond.methodLink RX4 64 yX4_has, Cond.instanceMethod yX4_has, Cond.selects RX4 yX4_has yX4_has, Cond.code yX4_has cX4_has 2 (some .boolean), Cond.methodLink RX4 68 yX3_frame, Cond.instanceMethod yX3_frame, Cond.selects RX3 yX3_frame yX3_frame, Cond.code yX3_frame cX3_frame 9 none, Cond.methodLink RX3 55 Lib.Math.max.name, Cond.static Lib.Math.max.name, Cond.initialized "java/lang/Math", Cond.code Lib.Math.max.name Lib.Math.max.code 2 (some .int), Cond.methodLink RX3 60 Lib.Math.min.name, Cond.static Lib.Math.min.name, Cond.code Lib.Math.min.name Lib.Math.min.code 2 (some .int), Cond.methodLink RX3 45 yX3_isBorder]
def wsL_plan_r6 : List Cond := [Cond.instanceMethod yX3_isBorder, Cond.selects RX3 yX3_isBorder yX3_isBorder, Cond.code yX3_isBorder cX3_isBorder 3 (some .boolean), Cond.methodLink RX3 24 yX3_rightBorder, Cond.instanceMethod yX3_rightBorder, Cond.selects RX3 yX3_rightBorder yX3_rightBorder, Cond.code yX3_rightBorder cX3_rightBorder 1 (some .int), Cond.methodLink RX3 49 yX2_set, Cond.instanceMethod yX2_set, Cond.selects RX2 yX2_set yX2_set, Cond.initialized RX2, Cond.code yX2_set cX2_set 5 none, Cond.fieldLink RX2 7 "Groutline$Frame" "left" "I", Cond.fieldLink RX2 13 "Groutline$Frame" "right" "I", Cond.fieldLink RX2 16 "Groutline$Frame" "top" "I", Cond.fieldLink RX2 19 "Groutline$Frame" "bottom" "I", Cond.methodLink RX4 73 yX4_measure, Cond.instanceMethod yX4_measure, Cond.selects RX4 yX4_measure yX4_measure, Cond.code yX4_measure cX4_measure 9 none, Cond.fieldLink RX4 86 "Groutline$Frame" "right" "I", Cond.fieldLink RX4 89 "Groutline$Frame" "left" "I", Cond.fieldLink RX4 92 "Groutline$Frame" "top" "I", Cond.fieldLink RX4 95 "Groutline$Frame" "bottom" "I"]
def wsL_plan_r7 : List Cond := [Cond.methodLink RX4 101 Lib.Math.min.name, Cond.methodLink RX4 106 Lib.Math.max.name, Cond.fieldLink RX4 31 "Groutline$Pieces" "boxWides" "[I", Cond.fieldLink RX4 34 "Groutline$Pieces" "boxHighs" "[I", Cond.methodLink RX4 77 yX3_isBorder, Cond.methodLink RX7 221 yX1_cutAll, Cond.instanceMethod yX1_cutAll, Cond.selects RX1 yX1_cutAll yX1_cutAll, Cond.initialized RX1, Cond.code yX1_cutAll cX1_cutAll 4 none, Cond.fieldLink RX1 9 "Groutline$Cuts" "newTiles" "I", Cond.fieldLink RX1 19 "Groutline$Cuts" "restCount" "I", Cond.fieldLink RX1 15 "Groutline$Cuts" "sources" "[I", Cond.fieldLink RX1 46 "Groutline$Pieces" "kinds" "[I", Cond.fieldLink RX1 49 "Groutline$Pieces" "boxWides" "[I", Cond.fieldLink RX1 52 "Groutline$Pieces" "boxHighs" "[I", Cond.methodLink RX1 35 yJ7_fill_53178, Cond.methodLink RX1 41 yX4_has, Cond.methodLink RX1 55 yX1_cut, Cond.instanceMethod yX1_cut, Cond.selects RX1 yX1_cut yX1_cut, Cond.code yX1_cut cX1_cut 8 none, Cond.fieldLink RX1 63 "Groutline$Layout" "wide" "I", Cond.fieldLink RX1 68 "Groutline$Layout" "high" "I"]
def wsL_plan_r8 : List Cond := [Cond.fieldLink RX1 22 "Groutline$Cuts" "restWides" "[I", Cond.fieldLink RX1 25 "Groutline$Cuts" "restHighs" "[I", Cond.fieldLink RX1 28 "Groutline$Cuts" "restMakers" "[I", Cond.methodLink RX1 59 yX1_bestRestFor, Cond.instanceMethod yX1_bestRestFor, Cond.selects RX1 yX1_bestRestFor yX1_bestRestFor, Cond.code yX1_bestRestFor cX1_bestRestFor 8 (some .int), Cond.methodLink RX1 31 yX1_hasRest, Cond.instanceMethod yX1_hasRest, Cond.selects RX1 yX1_hasRest yX1_hasRest, Cond.code yX1_hasRest cX1_hasRest 2 (some .boolean), Cond.methodLink RX1 71 yX1_leave, Cond.instanceMethod yX1_leave, Cond.selects RX1 yX1_leave yX1_leave, Cond.code yX1_leave cX1_leave 8 none, Cond.methodLink RX1 79 yX1_addRest, Cond.instanceMethod yX1_addRest, Cond.selects RX1 yX1_addRest yX1_addRest, Cond.code yX1_addRest cX1_addRest 5 none, Cond.methodLink RX1 75 yX1_removeRest, Cond.instanceMethod yX1_removeRest, Cond.selects RX1 yX1_removeRest yX1_removeRest, Cond.code yX1_removeRest cX1_removeRest 3 none]
def wsL_plan : List Cond := .codeWith yL_plan cL_plan 7 (some .int) [(0, 14, 17, 13), (0, 14, 21, 15)] :: ((wsL_plan_r1 ++ (wsL_plan_r2 ++ (wsL_plan_r3 ++ (wsL_plan_r4 ++ (wsL_plan_r5 ++ (wsL_plan_r6 ++ (wsL_plan_r7 ++ wsL_plan_r8))))))) ++ wsX70 ++ wsX60 ++ wsX40 ++ wsX30 ++ wsX00 ++ wsX20 ++ wsX10 ++ (vx_atS RX7 69 "java/lang/IllegalArgumentException" ["java/lang/RuntimeException", "java/lang/Exception"]).filter goodWord ++ (vx_atS RX7 84 "java/lang/IllegalStateException" ["java/lang/RuntimeException", "java/lang/Exception"]).filter goodWord)
def wsL_pillar_r1 : List Cond := [Cond.classLink RL 21 "java/lang/IndexOutOfBoundsException", Cond.classLink RL 15 "java/lang/IllegalStateException", Cond.methodLink RL 17 yX7_pillar, Cond.instanceMethod yX7_pillar, Cond.selects RX7 yX7_pillar yX7_pillar, Cond.initialized RX7, Cond.code yX7_pillar cX7_pillar 5 (some .boolean), Cond.classLink RX7 97 "java/lang/IndexOutOfBoundsException", Cond.initialized "java/lang/IndexOutOfBoundsException", Cond.classLink RX7 80 "java/lang/IllegalStateException", Cond.initialized "java/lang/IllegalStateException", Cond.fieldLink RX7 47 "Groutline" "work" "LGroutline$Work;", Cond.fieldLink RX7 76 "Groutline$Work" "hasBegun" "Z", Cond.fieldLink RX7 19 "Groutline" "bars" "LGroutline$Bars;", Cond.methodLink RX7 93 yX7_isCell, Cond.static yX7_isCell, Cond.code yX7_isCell cX7_isCell 2 (some .boolean), Cond.methodLink RX7 102 yX0_setPillar, Cond.instanceMethod yX0_setPillar, Cond.selects RX0 yX0_setPillar yX0_setPillar, Cond.initialized RX0, Cond.code yX0_setPillar cX0_setPillar 5 (some .boolean), Cond.fieldLink RX0 9 "Groutline$Bars" "pillars" "[Z", Cond.static yX7_cellAt]
def wsL_pillar_r2 : List Cond := [Cond.code yX7_cellAt cX7_cellAt 2 (some .int), Cond.methodLink RX7 58 yX7_renew, Cond.instanceMethod yX7_renew, Cond.selects RX7 yX7_renew yX7_renew, Cond.code yX7_renew cX7_renew 1 none, Cond.fieldLink RX7 12 "Groutline" "layout" "LGroutline$Layout;", Cond.fieldLink RX7 26 "Groutline" "pieces" "LGroutline$Pieces;", Cond.fieldLink RX7 33 "Groutline" "cuts" "LGroutline$Cuts;", Cond.methodLink RX7 214 yX0_renew, Cond.instanceMethod yX0_renew, Cond.selects RX0 yX0_renew yX0_renew, Cond.code yX0_renew cX0_renew 4 none, Cond.methodLink RX0 30 yX3_stripOfRow, Cond.instanceMethod yX3_stripOfRow, Cond.selects RX3 yX3_stripOfRow yX3_stripOfRow, Cond.initialized RX3, Cond.code yX3_stripOfRow cX3_stripOfRow 2 (some .int), Cond.fieldLink RX3 18 "Groutline$Layout" "border" "I", Cond.methodLink RX3 28 yX3_lowerBorder, Cond.instanceMethod yX3_lowerBorder, Cond.selects RX3 yX3_lowerBorder yX3_lowerBorder, Cond.code yX3_lowerBorder cX3_lowerBorder 1 (some .int), Cond.methodLink RX3 39 yX3_countCourses, Cond.instanceMethod yX3_countCourses]
def wsL_pillar_r3 : List Cond := [Cond.selects RX3 yX3_countCourses yX3_countCourses, Cond.code yX3_countCourses cX3_countCourses 1 (some .int), Cond.methodLink RX3 35 yX3_courseOfRow, Cond.instanceMethod yX3_courseOfRow, Cond.selects RX3 yX3_courseOfRow yX3_courseOfRow, Cond.code yX3_courseOfRow cX3_courseOfRow 2 (some .int), Cond.fieldLink RX3 15 "Groutline$Layout" "high" "I", Cond.static yX7_timesIn, Cond.code yX7_timesIn cX7_timesIn 2 (some .int), Cond.methodLink RX0 36 yX6_isLaid, Cond.instanceMethod yX6_isLaid, Cond.selects RX6 yX6_isLaid yX6_isLaid, Cond.initialized RX6, Cond.code yX6_isLaid cX6_isLaid 2 (some .boolean), Cond.fieldLink RX6 22 "Groutline$Work" "laid" "[Z", Cond.methodLink RX0 42 yX0_renewRow, Cond.instanceMethod yX0_renewRow, Cond.selects RX0 yX0_renewRow yX0_renewRow, Cond.code yX0_renewRow cX0_renewRow 4 none, Cond.fieldLink RX0 15 "Groutline$Bars" "barred" "[Z", Cond.methodLink RX0 46 yX0_isDoor, Cond.instanceMethod yX0_isDoor, Cond.selects RX0 yX0_isDoor yX0_isDoor, Cond.code yX0_isDoor cX0_isDoor 3 (some .boolean)]
def wsL_pillar_r4 : List Cond := [Cond.fieldLink RX0 18 "Groutline$Bars" "doorColumn" "I", Cond.methodLink RX7 217 yX4_find, Cond.instanceMethod yX4_find, Cond.selects RX4 yX4_find yX4_find, Cond.initialized RX4, Cond.code yX4_find cX4_find 6 none, Cond.fieldLink RX4 9 "Groutline$Pieces" "count" "I", Cond.fieldLink RX4 15 "Groutline$Pieces" "ofCells" "[I", Cond.methodLink RX4 44 yJ7_fill_53178, Cond.static yJ7_fill_53178, Cond.initialized RJ7, Cond.code yJ7_fill_53178 cJ7_fill_53178 4 none, Cond.methodLink RX4 54 yX0_areAt, Cond.instanceMethod yX0_areAt, Cond.selects RX0 yX0_areAt yX0_areAt, Cond.code yX0_areAt cX0_areAt 3 (some .boolean), Cond.methodLink RX4 60 yX4_add, Cond.instanceMethod yX4_add, Cond.selects RX4 yX4_add yX4_add, Cond.code yX4_add cX4_add 6 none, Cond.fieldLink RX4 22 "Groutline$Pieces" "columns" "[I", Cond.fieldLink RX4 25 "Groutline$Pieces" "rows" "[I", Cond.fieldLink RX4 40 "Groutline$Pieces" "frame" "LGroutline$Frame;", Cond.fieldLink RX4 19 "Groutline$Pieces" "kinds" "[I"]
def wsL_pillar_r5 : List Cond := [Cond.fieldLink RX4 28 "Groutline$Pieces" "sizes" "[I", Cond.fieldLink RX4 80 "Groutline$Layout" "wide" "I", Cond.fieldLink RX4 83 "Groutline$Layout" "high" "I", Cond.methodLink RX4 64 yX4_has, Cond.instanceMethod yX4_has, Cond.selects RX4 yX4_has yX4_has, Cond.code yX4_has cX4_has 2 (some .boolean), Cond.methodLink RX4 68 yX3_frame, Cond.instanceMethod yX3_frame, Cond.selects RX3 yX3_frame yX3_frame, Cond.code yX3_frame cX3_frame 9 none, Cond.fieldLink RX3 21 "Groutline$Layout" "pattern" "I", Cond.fieldLink RX3 9 "Groutline$Layout" "wide" "I", Cond.methodLink RX3 55 Lib.Math.max.name, Cond.static Lib.Math.max.name, Cond.initialized "java/lang/Math", Cond.code Lib.Math.max.name Lib.Math.max.code 2 (some .int), Cond.methodLink RX3 60 Lib.Math.min.name, Cond.static Lib.Math.min.name, Cond.code Lib.Math.min.name Lib.Math.min.code 2 (some .int), Cond.methodLink RX3 45 yX3_isBorder, Cond.instanceMethod yX3_isBorder, Cond.selects RX3 yX3_isBorder yX3_isBorder, Cond.code yX3_isBorder cX3_isBorder 3 (some .boolean)]
def wsL_pillar_r6 : List Cond := [Cond.methodLink RX3 24 yX3_rightBorder, Cond.instanceMethod yX3_rightBorder, Cond.selects RX3 yX3_rightBorder yX3_rightBorder, Cond.code yX3_rightBorder cX3_rightBorder 1 (some .int), Cond.methodLink RX3 49 yX2_set, Cond.instanceMethod yX2_set, Cond.selects RX2 yX2_set yX2_set, Cond.initialized RX2, Cond.code yX2_set cX2_set 5 none, Cond.fieldLink RX2 7 "Groutline$Frame" "left" "I", Cond.fieldLink RX2 13 "Groutline$Frame" "right" "I", Cond.fieldLink RX2 16 "Groutline$Frame" "top" "I", Cond.fieldLink RX2 19 "Groutline$Frame" "bottom" "I", Cond.methodLink RX4 73 yX4_measure, Cond.instanceMethod yX4_measure, Cond.selects RX4 yX4_measure yX4_measure, Cond.code yX4_measure cX4_measure 9 none, Cond.fieldLink RX4 86 "Groutline$Frame" "right" "I", Cond.fieldLink RX4 89 "Groutline$Frame" "left" "I", Cond.fieldLink RX4 92 "Groutline$Frame" "top" "I", Cond.fieldLink RX4 95 "Groutline$Frame" "bottom" "I", Cond.methodLink RX4 101 Lib.Math.min.name, Cond.methodLink RX4 106 Lib.Math.max.name, Cond.fieldLink RX4 31 "Groutline$Pieces" "boxWides" "[I"]
def wsL_pillar_r7 : List Cond := [Cond.fieldLink RX4 34 "Groutline$Pieces" "boxHighs" "[I", Cond.methodLink RX4 77 yX3_isBorder, Cond.methodLink RX7 221 yX1_cutAll, Cond.instanceMethod yX1_cutAll, Cond.selects RX1 yX1_cutAll yX1_cutAll, Cond.initialized RX1, Cond.code yX1_cutAll cX1_cutAll 4 none, Cond.fieldLink RX1 9 "Groutline$Cuts" "newTiles" "I", Cond.fieldLink RX1 19 "Groutline$Cuts" "restCount" "I", Cond.fieldLink RX1 15 "Groutline$Cuts" "sources" "[I", Cond.fieldLink RX1 46 "Groutline$Pieces" "kinds" "[I", Cond.fieldLink RX1 49 "Groutline$Pieces" "boxWides" "[I", Cond.fieldLink RX1 52 "Groutline$Pieces" "boxHighs" "[I", Cond.methodLink RX1 35 yJ7_fill_53178, Cond.methodLink RX1 41 yX4_has, Cond.methodLink RX1 55 yX1_cut, Cond.instanceMethod yX1_cut, Cond.selects RX1 yX1_cut yX1_cut, Cond.code yX1_cut cX1_cut 8 none, Cond.fieldLink RX1 63 "Groutline$Layout" "wide" "I", Cond.fieldLink RX1 68 "Groutline$Layout" "high" "I", Cond.fieldLink RX1 22 "Groutline$Cuts" "restWides" "[I", Cond.fieldLink RX1 25 "Groutline$Cuts" "restHighs" "[I", Cond.fieldLink RX1 28 "Groutline$Cuts" "restMakers" "[I"]
def wsL_pillar_r8 : List Cond := [Cond.methodLink RX1 59 yX1_bestRestFor, Cond.instanceMethod yX1_bestRestFor, Cond.selects RX1 yX1_bestRestFor yX1_bestRestFor, Cond.code yX1_bestRestFor cX1_bestRestFor 8 (some .int), Cond.methodLink RX1 31 yX1_hasRest, Cond.instanceMethod yX1_hasRest, Cond.selects RX1 yX1_hasRest yX1_hasRest, Cond.code yX1_hasRest cX1_hasRest 2 (some .boolean), Cond.methodLink RX1 71 yX1_leave, Cond.instanceMethod yX1_leave, Cond.selects RX1 yX1_leave yX1_leave, Cond.code yX1_leave cX1_leave 8 none, Cond.methodLink RX1 79 yX1_addRest, Cond.instanceMethod yX1_addRest, Cond.selects RX1 yX1_addRest yX1_addRest, Cond.code yX1_addRest cX1_addRest 5 none, Cond.methodLink RX1 75 yX1_removeRest, Cond.instanceMethod yX1_removeRest, Cond.selects RX1 yX1_removeRest yX1_removeRest, Cond.code yX1_removeRest cX1_removeRest 3 none]
def wsL_pillar : List Cond := .codeWith yL_pillar cL_pillar 6 (some .int) [(0, 19, 22, 21), (0, 19, 26, 15)] :: ((wsL_pillar_r1 ++ (wsL_pillar_r2 ++ (wsL_pillar_r3 ++ (wsL_pillar_r4 ++ (wsL_pillar_r5 ++ (wsL_pillar_r6 ++ (wsL_pillar_r7 ++ wsL_pillar_r8))))))) ++ wsX70 ++ wsX60 ++ wsX00 ++ wsX30 ++ wsX40 ++ wsX20 ++ wsX10 ++ (vx_atS RX7 101 "java/lang/IndexOutOfBoundsException" ["java/lang/RuntimeException", "java/lang/Exception"]).filter goodWord ++ (vx_atS RX7 84 "java/lang/IllegalStateException" ["java/lang/RuntimeException", "java/lang/Exception"]).filter goodWord)
def wsL_door_r1 : List Cond := [Cond.classLink RL 21 "java/lang/IndexOutOfBoundsException", Cond.methodLink RL 23 yX7_door, Cond.instanceMethod yX7_door, Cond.selects RX7 yX7_door yX7_door, Cond.initialized RX7, Cond.code yX7_door cX7_door 2 (some .int), Cond.classLink RX7 97 "java/lang/IndexOutOfBoundsException", Cond.initialized "java/lang/IndexOutOfBoundsException", Cond.fieldLink RX7 19 "Groutline" "bars" "LGroutline$Bars;", Cond.fieldLink RX7 108 "Groutline$Bars" "doorColumn" "I", Cond.fieldLink RX7 26 "Groutline" "pieces" "LGroutline$Pieces;", Cond.fieldLink RX7 89 "Groutline$Pieces" "count" "I", Cond.methodLink RX7 61 yX7_isWithin, Cond.static yX7_isWithin, Cond.code yX7_isWithin cX7_isWithin 3 (some .boolean), Cond.methodLink RX7 58 yX7_renew, Cond.instanceMethod yX7_renew, Cond.selects RX7 yX7_renew yX7_renew, Cond.code yX7_renew cX7_renew 1 none, Cond.fieldLink RX7 12 "Groutline" "layout" "LGroutline$Layout;", Cond.fieldLink RX7 47 "Groutline" "work" "LGroutline$Work;", Cond.fieldLink RX7 33 "Groutline" "cuts" "LGroutline$Cuts;", Cond.methodLink RX7 214 yX0_renew, Cond.instanceMethod yX0_renew]
def wsL_door_r2 : List Cond := [Cond.selects RX0 yX0_renew yX0_renew, Cond.initialized RX0, Cond.code yX0_renew cX0_renew 4 none, Cond.methodLink RX0 30 yX3_stripOfRow, Cond.instanceMethod yX3_stripOfRow, Cond.selects RX3 yX3_stripOfRow yX3_stripOfRow, Cond.initialized RX3, Cond.code yX3_stripOfRow cX3_stripOfRow 2 (some .int), Cond.fieldLink RX3 18 "Groutline$Layout" "border" "I", Cond.methodLink RX3 28 yX3_lowerBorder, Cond.instanceMethod yX3_lowerBorder, Cond.selects RX3 yX3_lowerBorder yX3_lowerBorder, Cond.code yX3_lowerBorder cX3_lowerBorder 1 (some .int), Cond.methodLink RX3 39 yX3_countCourses, Cond.instanceMethod yX3_countCourses, Cond.selects RX3 yX3_countCourses yX3_countCourses, Cond.code yX3_countCourses cX3_countCourses 1 (some .int), Cond.methodLink RX3 35 yX3_courseOfRow, Cond.instanceMethod yX3_courseOfRow, Cond.selects RX3 yX3_courseOfRow yX3_courseOfRow, Cond.code yX3_courseOfRow cX3_courseOfRow 2 (some .int), Cond.fieldLink RX3 15 "Groutline$Layout" "high" "I", Cond.static yX7_timesIn, Cond.code yX7_timesIn cX7_timesIn 2 (some .int)]
def wsL_door_r3 : List Cond := [Cond.methodLink RX0 36 yX6_isLaid, Cond.instanceMethod yX6_isLaid, Cond.selects RX6 yX6_isLaid yX6_isLaid, Cond.initialized RX6, Cond.code yX6_isLaid cX6_isLaid 2 (some .boolean), Cond.fieldLink RX6 22 "Groutline$Work" "laid" "[Z", Cond.methodLink RX0 42 yX0_renewRow, Cond.instanceMethod yX0_renewRow, Cond.selects RX0 yX0_renewRow yX0_renewRow, Cond.code yX0_renewRow cX0_renewRow 4 none, Cond.fieldLink RX0 15 "Groutline$Bars" "barred" "[Z", Cond.fieldLink RX0 9 "Groutline$Bars" "pillars" "[Z", Cond.static yX7_isCell, Cond.code yX7_isCell cX7_isCell 2 (some .boolean), Cond.static yX7_cellAt, Cond.code yX7_cellAt cX7_cellAt 2 (some .int), Cond.methodLink RX0 46 yX0_isDoor, Cond.instanceMethod yX0_isDoor, Cond.selects RX0 yX0_isDoor yX0_isDoor, Cond.code yX0_isDoor cX0_isDoor 3 (some .boolean), Cond.fieldLink RX0 18 "Groutline$Bars" "doorColumn" "I", Cond.methodLink RX7 217 yX4_find, Cond.instanceMethod yX4_find, Cond.selects RX4 yX4_find yX4_find]
def wsL_door_r4 : List Cond := [Cond.initialized RX4, Cond.code yX4_find cX4_find 6 none, Cond.fieldLink RX4 9 "Groutline$Pieces" "count" "I", Cond.fieldLink RX4 15 "Groutline$Pieces" "ofCells" "[I", Cond.methodLink RX4 44 yJ7_fill_53178, Cond.static yJ7_fill_53178, Cond.initialized RJ7, Cond.code yJ7_fill_53178 cJ7_fill_53178 4 none, Cond.methodLink RX4 54 yX0_areAt, Cond.instanceMethod yX0_areAt, Cond.selects RX0 yX0_areAt yX0_areAt, Cond.code yX0_areAt cX0_areAt 3 (some .boolean), Cond.methodLink RX4 60 yX4_add, Cond.instanceMethod yX4_add, Cond.selects RX4 yX4_add yX4_add, Cond.code yX4_add cX4_add 6 none, Cond.fieldLink RX4 22 "Groutline$Pieces" "columns" "[I", Cond.fieldLink RX4 25 "Groutline$Pieces" "rows" "[I", Cond.fieldLink RX4 40 "Groutline$Pieces" "frame" "LGroutline$Frame;", Cond.fieldLink RX4 19 "Groutline$Pieces" "kinds" "[I", Cond.fieldLink RX4 28 "Groutline$Pieces" "sizes" "[I", Cond.fieldLink RX4 80 "Groutline$Layout" "wide" "I", Cond.fieldLink RX4 83 "Groutline$Layout" "high" "I", Cond.methodLink RX4 64 yX4_has]
def wsL_door_r5 : List Cond := [Cond.instanceMethod yX4_has, Cond.selects RX4 yX4_has yX4_has, Cond.code yX4_has cX4_has 2 (some .boolean), Cond.methodLink RX4 68 yX3_frame, Cond.instanceMethod yX3_frame, Cond.selects RX3 yX3_frame yX3_frame, Cond.code yX3_frame cX3_frame 9 none, Cond.fieldLink RX3 21 "Groutline$Layout" "pattern" "I", Cond.fieldLink RX3 9 "Groutline$Layout" "wide" "I", Cond.methodLink RX3 55 Lib.Math.max.name, Cond.static Lib.Math.max.name, Cond.initialized "java/lang/Math", Cond.code Lib.Math.max.name Lib.Math.max.code 2 (some .int), Cond.methodLink RX3 60 Lib.Math.min.name, Cond.static Lib.Math.min.name, Cond.code Lib.Math.min.name Lib.Math.min.code 2 (some .int), Cond.methodLink RX3 45 yX3_isBorder, Cond.instanceMethod yX3_isBorder, Cond.selects RX3 yX3_isBorder yX3_isBorder, Cond.code yX3_isBorder cX3_isBorder 3 (some .boolean), Cond.methodLink RX3 24 yX3_rightBorder, Cond.instanceMethod yX3_rightBorder, Cond.selects RX3 yX3_rightBorder yX3_rightBorder, Cond.code yX3_rightBorder cX3_rightBorder 1 (some .int)]
def wsL_door_r6 : List Cond := [Cond.methodLink RX3 49 yX2_set, Cond.instanceMethod yX2_set, Cond.selects RX2 yX2_set yX2_set, Cond.initialized RX2, Cond.code yX2_set cX2_set 5 none, Cond.fieldLink RX2 7 "Groutline$Frame" "left" "I", Cond.fieldLink RX2 13 "Groutline$Frame" "right" "I", Cond.fieldLink RX2 16 "Groutline$Frame" "top" "I", Cond.fieldLink RX2 19 "Groutline$Frame" "bottom" "I", Cond.methodLink RX4 73 yX4_measure, Cond.instanceMethod yX4_measure, Cond.selects RX4 yX4_measure yX4_measure, Cond.code yX4_measure cX4_measure 9 none, Cond.fieldLink RX4 86 "Groutline$Frame" "right" "I", Cond.fieldLink RX4 89 "Groutline$Frame" "left" "I", Cond.fieldLink RX4 92 "Groutline$Frame" "top" "I", Cond.fieldLink RX4 95 "Groutline$Frame" "bottom" "I", Cond.methodLink RX4 101 Lib.Math.min.name, Cond.methodLink RX4 106 Lib.Math.max.name, Cond.fieldLink RX4 31 "Groutline$Pieces" "boxWides" "[I", Cond.fieldLink RX4 34 "Groutline$Pieces" "boxHighs" "[I", Cond.methodLink RX4 77 yX3_isBorder, Cond.methodLink RX7 221 yX1_cutAll, Cond.instanceMethod yX1_cutAll]
def wsL_door_r7 : List Cond := [Cond.selects RX1 yX1_cutAll yX1_cutAll, Cond.initialized RX1, Cond.code yX1_cutAll cX1_cutAll 4 none, Cond.fieldLink RX1 9 "Groutline$Cuts" "newTiles" "I", Cond.fieldLink RX1 19 "Groutline$Cuts" "restCount" "I", Cond.fieldLink RX1 15 "Groutline$Cuts" "sources" "[I", Cond.fieldLink RX1 46 "Groutline$Pieces" "kinds" "[I", Cond.fieldLink RX1 49 "Groutline$Pieces" "boxWides" "[I", Cond.fieldLink RX1 52 "Groutline$Pieces" "boxHighs" "[I", Cond.methodLink RX1 35 yJ7_fill_53178, Cond.methodLink RX1 41 yX4_has, Cond.methodLink RX1 55 yX1_cut, Cond.instanceMethod yX1_cut, Cond.selects RX1 yX1_cut yX1_cut, Cond.code yX1_cut cX1_cut 8 none, Cond.fieldLink RX1 63 "Groutline$Layout" "wide" "I", Cond.fieldLink RX1 68 "Groutline$Layout" "high" "I", Cond.fieldLink RX1 22 "Groutline$Cuts" "restWides" "[I", Cond.fieldLink RX1 25 "Groutline$Cuts" "restHighs" "[I", Cond.fieldLink RX1 28 "Groutline$Cuts" "restMakers" "[I", Cond.methodLink RX1 59 yX1_bestRestFor, Cond.instanceMethod yX1_bestRestFor, Cond.selects RX1 yX1_bestRestFor yX1_bestRestFor, Cond.code yX1_bestRestFor cX1_bestRestFor 8 (some .int)]
def wsL_door_r8 : List Cond := [Cond.methodLink RX1 31 yX1_hasRest, Cond.instanceMethod yX1_hasRest, Cond.selects RX1 yX1_hasRest yX1_hasRest, Cond.code yX1_hasRest cX1_hasRest 2 (some .boolean), Cond.methodLink RX1 71 yX1_leave, Cond.instanceMethod yX1_leave, Cond.selects RX1 yX1_leave yX1_leave, Cond.code yX1_leave cX1_leave 8 none, Cond.methodLink RX1 79 yX1_addRest, Cond.instanceMethod yX1_addRest, Cond.selects RX1 yX1_addRest yX1_addRest, Cond.code yX1_addRest cX1_addRest 5 none, Cond.methodLink RX1 75 yX1_removeRest, Cond.instanceMethod yX1_removeRest, Cond.selects RX1 yX1_removeRest yX1_removeRest, Cond.code yX1_removeRest cX1_removeRest 3 none]
def wsL_door : List Cond := .codeWith yL_door cL_door 4 (some .int) [(0, 9, 12, 21)] :: ((wsL_door_r1 ++ (wsL_door_r2 ++ (wsL_door_r3 ++ (wsL_door_r4 ++ (wsL_door_r5 ++ (wsL_door_r6 ++ (wsL_door_r7 ++ wsL_door_r8))))))) ++ wsX70 ++ wsX00 ++ wsX40 ++ wsX30 ++ wsX60 ++ wsX20 ++ wsX10 ++ (vx_atS RX7 101 "java/lang/IndexOutOfBoundsException" ["java/lang/RuntimeException", "java/lang/Exception"]).filter goodWord)
def wsL_ofPiece_r1 : List Cond := [Cond.classLink RL 21 "java/lang/IndexOutOfBoundsException", Cond.classLink RL 13 "java/lang/IllegalArgumentException", Cond.methodLink RL 27 yX7_ofPiece, Cond.instanceMethod yX7_ofPiece, Cond.selects RX7 yX7_ofPiece yX7_ofPiece, Cond.initialized RX7, Cond.code yX7_ofPiece cX7_ofPiece 3 (some .int), Cond.classLink RX7 97 "java/lang/IndexOutOfBoundsException", Cond.initialized "java/lang/IndexOutOfBoundsException", Cond.classLink RX7 65 "java/lang/IllegalArgumentException", Cond.initialized "java/lang/IllegalArgumentException", Cond.fieldLink RX7 26 "Groutline" "pieces" "LGroutline$Pieces;", Cond.fieldLink RX7 119 "Groutline$Pieces" "kinds" "[I", Cond.fieldLink RX7 123 "Groutline$Pieces" "columns" "[I", Cond.fieldLink RX7 126 "Groutline$Pieces" "rows" "[I", Cond.fieldLink RX7 129 "Groutline$Pieces" "sizes" "[I", Cond.fieldLink RX7 12 "Groutline" "layout" "LGroutline$Layout;", Cond.fieldLink RX7 33 "Groutline" "cuts" "LGroutline$Cuts;", Cond.fieldLink RX7 136 "Groutline$Cuts" "sources" "[I", Cond.methodLink RX7 111 yX4_has, Cond.instanceMethod yX4_has, Cond.selects RX4 yX4_has yX4_has, Cond.initialized RX4, Cond.code yX4_has cX4_has 2 (some .boolean)]
def wsL_ofPiece_r2 : List Cond := [Cond.fieldLink RX4 9 "Groutline$Pieces" "count" "I", Cond.methodLink RX7 61 yX7_isWithin, Cond.static yX7_isWithin, Cond.code yX7_isWithin cX7_isWithin 3 (some .boolean), Cond.methodLink RX7 132 yX3_stripOfRow, Cond.instanceMethod yX3_stripOfRow, Cond.selects RX3 yX3_stripOfRow yX3_stripOfRow, Cond.initialized RX3, Cond.code yX3_stripOfRow cX3_stripOfRow 2 (some .int), Cond.fieldLink RX3 18 "Groutline$Layout" "border" "I", Cond.methodLink RX3 28 yX3_lowerBorder, Cond.instanceMethod yX3_lowerBorder, Cond.selects RX3 yX3_lowerBorder yX3_lowerBorder, Cond.code yX3_lowerBorder cX3_lowerBorder 1 (some .int), Cond.methodLink RX3 39 yX3_countCourses, Cond.instanceMethod yX3_countCourses, Cond.selects RX3 yX3_countCourses yX3_countCourses, Cond.code yX3_countCourses cX3_countCourses 1 (some .int), Cond.methodLink RX3 35 yX3_courseOfRow, Cond.instanceMethod yX3_courseOfRow, Cond.selects RX3 yX3_courseOfRow yX3_courseOfRow, Cond.code yX3_courseOfRow cX3_courseOfRow 2 (some .int), Cond.fieldLink RX3 15 "Groutline$Layout" "high" "I", Cond.static yX7_timesIn]
def wsL_ofPiece_r3 : List Cond := [Cond.code yX7_timesIn cX7_timesIn 2 (some .int)]
def wsL_ofPiece : List Cond := .codeWith yL_ofPiece cL_ofPiece 5 (some .int) [(0, 10, 13, 21), (0, 10, 17, 13)] :: ((wsL_ofPiece_r1 ++ (wsL_ofPiece_r2 ++ wsL_ofPiece_r3)) ++ wsX70 ++ wsX40 ++ wsX10 ++ wsX30 ++ (vx_atS RX7 101 "java/lang/IndexOutOfBoundsException" ["java/lang/RuntimeException", "java/lang/Exception"]).filter goodWord ++ (vx_atS RX7 69 "java/lang/IllegalArgumentException" ["java/lang/RuntimeException", "java/lang/Exception"]).filter goodWord)
def wsL_pieceAt : List Cond := .codeWith yL_pieceAt cL_pieceAt 5 (some .int) [(0, 10, 13, 21)] :: ([.classLink RL 21 "java/lang/IndexOutOfBoundsException", .methodLink RL 31 yX7_pieceAt, .instanceMethod yX7_pieceAt, .selects RX7 yX7_pieceAt yX7_pieceAt, .initialized RX7, .code yX7_pieceAt cX7_pieceAt 3 (some .int), .classLink RX7 97 "java/lang/IndexOutOfBoundsException", .initialized "java/lang/IndexOutOfBoundsException", .fieldLink RX7 26 "Groutline" "pieces" "LGroutline$Pieces;", .fieldLink RX7 139 "Groutline$Pieces" "ofCells" "[I", .methodLink RX7 93 yX7_isCell, .static yX7_isCell, .code yX7_isCell cX7_isCell 2 (some .boolean), .methodLink RX7 142 yX7_cellAt, .static yX7_cellAt, .code yX7_cellAt cX7_cellAt 2 (some .int)] ++ wsX70 ++ wsX40 ++ (vx_atS RX7 101 "java/lang/IndexOutOfBoundsException" ["java/lang/RuntimeException", "java/lang/Exception"]).filter goodWord)
def wsL_rest : List Cond := .codeWith yL_rest cL_rest 4 (some .int) [(0, 9, 12, 21)] :: ([.classLink RL 21 "java/lang/IndexOutOfBoundsException", .methodLink RL 34 yX7_rest, .instanceMethod yX7_rest, .selects RX7 yX7_rest yX7_rest, .initialized RX7, .code yX7_rest cX7_rest 2 (some .int), .classLink RX7 97 "java/lang/IndexOutOfBoundsException", .initialized "java/lang/IndexOutOfBoundsException", .fieldLink RX7 33 "Groutline" "cuts" "LGroutline$Cuts;", .methodLink RX7 154 yX1_sizeOfRest, .instanceMethod yX1_sizeOfRest, .selects RX1 yX1_sizeOfRest yX1_sizeOfRest, .initialized RX1, .code yX1_sizeOfRest cX1_sizeOfRest 2 (some .int), .fieldLink RX1 22 "Groutline$Cuts" "restWides" "[I", .fieldLink RX1 25 "Groutline$Cuts" "restHighs" "[I", .methodLink RX1 31 yX1_hasRest, .instanceMethod yX1_hasRest, .selects RX1 yX1_hasRest yX1_hasRest, .code yX1_hasRest cX1_hasRest 2 (some .boolean), .fieldLink RX1 19 "Groutline$Cuts" "restCount" "I"] ++ wsX70 ++ wsX10 ++ (vx_atS RX7 101 "java/lang/IndexOutOfBoundsException" ["java/lang/RuntimeException", "java/lang/Exception"]).filter goodWord)
def wsL_crate_r1 : List Cond := [Cond.classLink RL 13 "java/lang/IllegalArgumentException", Cond.classLink RL 15 "java/lang/IllegalStateException", Cond.methodLink RL 37 yX7_crate, Cond.instanceMethod yX7_crate, Cond.selects RX7 yX7_crate yX7_crate, Cond.initialized RX7, Cond.code yX7_crate cX7_crate 3 (some .int), Cond.classLink RX7 65 "java/lang/IllegalArgumentException", Cond.initialized "java/lang/IllegalArgumentException", Cond.classLink RX7 80 "java/lang/IllegalStateException", Cond.initialized "java/lang/IllegalStateException", Cond.fieldLink RX7 40 "Groutline" "stack" "LGroutline$Stack;", Cond.fieldLink RX7 174 "Groutline$Stack" "count" "I", Cond.methodLink RX7 157 yX7_isFloor, Cond.static yX7_isFloor, Cond.code yX7_isFloor cX7_isFloor 1 (some .boolean), Cond.methodLink RX7 61 yX7_isWithin, Cond.static yX7_isWithin, Cond.code yX7_isWithin cX7_isWithin 3 (some .boolean), Cond.methodLink RX7 164 yX5_isFull, Cond.instanceMethod yX5_isFull, Cond.selects RX5 yX5_isFull yX5_isFull, Cond.initialized RX5, Cond.code yX5_isFull cX5_isFull 1 (some .boolean)]
def wsL_crate_r2 : List Cond := [Cond.fieldLink RX5 9 "Groutline$Stack" "count" "I", Cond.methodLink RX7 170 yX5_put, Cond.instanceMethod yX5_put, Cond.selects RX5 yX5_put yX5_put, Cond.code yX5_put cX5_put 3 none, Cond.fieldLink RX5 18 "Groutline$Stack" "crateFloors" "[I", Cond.fieldLink RX5 22 "Groutline$Stack" "crateTiles" "[I"]
def wsL_crate : List Cond := .codeWith yL_crate cL_crate 5 (some .int) [(0, 10, 13, 13), (0, 10, 17, 15)] :: ((wsL_crate_r1 ++ wsL_crate_r2) ++ wsX70 ++ wsX50 ++ (vx_atS RX7 69 "java/lang/IllegalArgumentException" ["java/lang/RuntimeException", "java/lang/Exception"]).filter goodWord ++ (vx_atS RX7 84 "java/lang/IllegalStateException" ["java/lang/RuntimeException", "java/lang/Exception"]).filter goodWord)
def wsL_fetch_r1 : List Cond := [Cond.classLink RL 13 "java/lang/IllegalArgumentException", Cond.methodLink RL 40 yX7_fetch, Cond.instanceMethod yX7_fetch, Cond.selects RX7 yX7_fetch yX7_fetch, Cond.initialized RX7, Cond.code yX7_fetch cX7_fetch 2 (some .int), Cond.classLink RX7 65 "java/lang/IllegalArgumentException", Cond.initialized "java/lang/IllegalArgumentException", Cond.fieldLink RX7 40 "Groutline" "stack" "LGroutline$Stack;", Cond.methodLink RX7 157 yX7_isFloor, Cond.static yX7_isFloor, Cond.code yX7_isFloor cX7_isFloor 1 (some .boolean), Cond.methodLink RX7 61 yX7_isWithin, Cond.static yX7_isWithin, Cond.code yX7_isWithin cX7_isWithin 3 (some .boolean), Cond.methodLink RX7 175 yX5_takeTopmostFor, Cond.instanceMethod yX5_takeTopmostFor, Cond.selects RX5 yX5_takeTopmostFor yX5_takeTopmostFor, Cond.initialized RX5, Cond.code yX5_takeTopmostFor cX5_takeTopmostFor 4 (some .int), Cond.fieldLink RX5 9 "Groutline$Stack" "count" "I", Cond.fieldLink RX5 18 "Groutline$Stack" "crateFloors" "[I", Cond.fieldLink RX5 22 "Groutline$Stack" "crateTiles" "[I", Cond.methodLink RX5 25 yX5_has]
def wsL_fetch_r2 : List Cond := [Cond.instanceMethod yX5_has, Cond.selects RX5 yX5_has yX5_has, Cond.code yX5_has cX5_has 2 (some .boolean), Cond.methodLink RX5 29 yX5_remove, Cond.instanceMethod yX5_remove, Cond.selects RX5 yX5_remove yX5_remove, Cond.code yX5_remove cX5_remove 3 none, Cond.fieldLink RX5 15 "Groutline$Stack" "moved" "I"]
def wsL_fetch : List Cond := .codeWith yL_fetch cL_fetch 4 (some .int) [(0, 9, 12, 13)] :: ((wsL_fetch_r1 ++ wsL_fetch_r2) ++ wsX70 ++ wsX50 ++ (vx_atS RX7 69 "java/lang/IllegalArgumentException" ["java/lang/RuntimeException", "java/lang/Exception"]).filter goodWord)
def wsL_grout : List Cond := .codeWith yL_grout cL_grout 4 (some .int) [(0, 9, 12, 13)] :: ([.classLink RL 13 "java/lang/IllegalArgumentException", .methodLink RL 43 yX7_grout, .instanceMethod yX7_grout, .selects RX7 yX7_grout yX7_grout, .initialized RX7, .code yX7_grout cX7_grout 3 (some .int), .classLink RX7 65 "java/lang/IllegalArgumentException", .initialized "java/lang/IllegalArgumentException", .fieldLink RX7 47 "Groutline" "work" "LGroutline$Work;", .fieldLink RX7 183 "Groutline$Work" "groutHours" "I", .methodLink RX7 61 yX7_isWithin, .static yX7_isWithin, .code yX7_isWithin cX7_isWithin 3 (some .boolean)] ++ wsX70 ++ wsX60 ++ (vx_atS RX7 69 "java/lang/IllegalArgumentException" ["java/lang/RuntimeException", "java/lang/Exception"]).filter goodWord)
def wsL_lay_r1 : List Cond := [Cond.classLink RL 21 "java/lang/IndexOutOfBoundsException", Cond.classLink RL 15 "java/lang/IllegalStateException", Cond.methodLink RL 46 yX7_lay, Cond.instanceMethod yX7_lay, Cond.selects RX7 yX7_lay yX7_lay, Cond.initialized RX7, Cond.code yX7_lay cX7_lay 2 (some .int), Cond.classLink RX7 97 "java/lang/IndexOutOfBoundsException", Cond.initialized "java/lang/IndexOutOfBoundsException", Cond.classLink RX7 80 "java/lang/IllegalStateException", Cond.initialized "java/lang/IllegalStateException", Cond.fieldLink RX7 12 "Groutline" "layout" "LGroutline$Layout;", Cond.fieldLink RX7 47 "Groutline" "work" "LGroutline$Work;", Cond.fieldLink RX7 202 "Groutline$Work" "hour" "I", Cond.methodLink RX7 186 yX3_hasStrip, Cond.instanceMethod yX3_hasStrip, Cond.selects RX3 yX3_hasStrip yX3_hasStrip, Cond.initialized RX3, Cond.code yX3_hasStrip cX3_hasStrip 2 (some .boolean), Cond.methodLink RX3 42 yX3_countStrips, Cond.instanceMethod yX3_countStrips, Cond.selects RX3 yX3_countStrips yX3_countStrips, Cond.code yX3_countStrips cX3_countStrips 1 (some .int), Cond.fieldLink RX3 18 "Groutline$Layout" "border" "I"]
def wsL_lay_r2 : List Cond := [Cond.methodLink RX3 39 yX3_countCourses, Cond.instanceMethod yX3_countCourses, Cond.selects RX3 yX3_countCourses yX3_countCourses, Cond.code yX3_countCourses cX3_countCourses 1 (some .int), Cond.methodLink RX3 28 yX3_lowerBorder, Cond.instanceMethod yX3_lowerBorder, Cond.selects RX3 yX3_lowerBorder yX3_lowerBorder, Cond.code yX3_lowerBorder cX3_lowerBorder 1 (some .int), Cond.methodLink RX3 35 yX3_courseOfRow, Cond.instanceMethod yX3_courseOfRow, Cond.selects RX3 yX3_courseOfRow yX3_courseOfRow, Cond.code yX3_courseOfRow cX3_courseOfRow 2 (some .int), Cond.fieldLink RX3 15 "Groutline$Layout" "high" "I", Cond.static yX7_timesIn, Cond.code yX7_timesIn cX7_timesIn 2 (some .int), Cond.methodLink RX7 191 yX6_canStart, Cond.instanceMethod yX6_canStart, Cond.selects RX6 yX6_canStart yX6_canStart, Cond.initialized RX6, Cond.code yX6_canStart cX6_canStart 3 (some .boolean), Cond.fieldLink RX6 22 "Groutline$Work" "laid" "[Z", Cond.fieldLink RX6 9 "Groutline$Work" "hour" "I", Cond.fieldLink RX6 26 "Groutline$Work" "dryHours" "[I", Cond.methodLink RX6 30 yX6_isLaid]
def wsL_lay_r3 : List Cond := [Cond.instanceMethod yX6_isLaid, Cond.selects RX6 yX6_isLaid yX6_isLaid, Cond.code yX6_isLaid cX6_isLaid 2 (some .boolean), Cond.methodLink RX7 196 yX7_piecesOfStrip, Cond.instanceMethod yX7_piecesOfStrip, Cond.selects RX7 yX7_piecesOfStrip yX7_piecesOfStrip, Cond.code yX7_piecesOfStrip cX7_piecesOfStrip 4 (some .int), Cond.fieldLink RX7 26 "Groutline" "pieces" "LGroutline$Pieces;", Cond.fieldLink RX7 126 "Groutline$Pieces" "rows" "[I", Cond.methodLink RX7 111 yX4_has, Cond.instanceMethod yX4_has, Cond.selects RX4 yX4_has yX4_has, Cond.initialized RX4, Cond.code yX4_has cX4_has 2 (some .boolean), Cond.fieldLink RX4 9 "Groutline$Pieces" "count" "I", Cond.methodLink RX7 132 yX3_stripOfRow, Cond.instanceMethod yX3_stripOfRow, Cond.selects RX3 yX3_stripOfRow yX3_stripOfRow, Cond.code yX3_stripOfRow cX3_stripOfRow 2 (some .int), Cond.methodLink RX7 199 yX6_finish, Cond.instanceMethod yX6_finish, Cond.selects RX6 yX6_finish yX6_finish, Cond.code yX6_finish cX6_finish 3 none, Cond.fieldLink RX6 15 "Groutline$Work" "groutHours" "I"]
def wsL_lay_r4 : List Cond := [Cond.fieldLink RX6 18 "Groutline$Work" "hasBegun" "Z"]
def wsL_lay : List Cond := .codeWith yL_lay cL_lay 4 (some .int) [(0, 9, 12, 21), (0, 9, 15, 15)] :: ((wsL_lay_r1 ++ (wsL_lay_r2 ++ (wsL_lay_r3 ++ wsL_lay_r4))) ++ wsX70 ++ wsX60 ++ wsX30 ++ wsX40 ++ (vx_atS RX7 101 "java/lang/IndexOutOfBoundsException" ["java/lang/RuntimeException", "java/lang/Exception"]).filter goodWord ++ (vx_atS RX7 84 "java/lang/IllegalStateException" ["java/lang/RuntimeException", "java/lang/Exception"]).filter goodWord)
def wsL_dry_r1 : List Cond := [Cond.classLink RL 21 "java/lang/IndexOutOfBoundsException", Cond.methodLink RL 49 yX7_dry, Cond.instanceMethod yX7_dry, Cond.selects RX7 yX7_dry yX7_dry, Cond.initialized RX7, Cond.code yX7_dry cX7_dry 2 (some .int), Cond.classLink RX7 97 "java/lang/IndexOutOfBoundsException", Cond.initialized "java/lang/IndexOutOfBoundsException", Cond.fieldLink RX7 12 "Groutline" "layout" "LGroutline$Layout;", Cond.fieldLink RX7 47 "Groutline" "work" "LGroutline$Work;", Cond.methodLink RX7 186 yX3_hasStrip, Cond.instanceMethod yX3_hasStrip, Cond.selects RX3 yX3_hasStrip yX3_hasStrip, Cond.initialized RX3, Cond.code yX3_hasStrip cX3_hasStrip 2 (some .boolean), Cond.methodLink RX3 42 yX3_countStrips, Cond.instanceMethod yX3_countStrips, Cond.selects RX3 yX3_countStrips yX3_countStrips, Cond.code yX3_countStrips cX3_countStrips 1 (some .int), Cond.fieldLink RX3 18 "Groutline$Layout" "border" "I", Cond.methodLink RX3 39 yX3_countCourses, Cond.instanceMethod yX3_countCourses, Cond.selects RX3 yX3_countCourses yX3_countCourses, Cond.code yX3_countCourses cX3_countCourses 1 (some .int)]
def wsL_dry_r2 : List Cond := [Cond.methodLink RX3 28 yX3_lowerBorder, Cond.instanceMethod yX3_lowerBorder, Cond.selects RX3 yX3_lowerBorder yX3_lowerBorder, Cond.code yX3_lowerBorder cX3_lowerBorder 1 (some .int), Cond.methodLink RX3 35 yX3_courseOfRow, Cond.instanceMethod yX3_courseOfRow, Cond.selects RX3 yX3_courseOfRow yX3_courseOfRow, Cond.code yX3_courseOfRow cX3_courseOfRow 2 (some .int), Cond.fieldLink RX3 15 "Groutline$Layout" "high" "I", Cond.static yX7_timesIn, Cond.code yX7_timesIn cX7_timesIn 2 (some .int), Cond.methodLink RX7 205 yX6_dryHourOf, Cond.instanceMethod yX6_dryHourOf, Cond.selects RX6 yX6_dryHourOf yX6_dryHourOf, Cond.initialized RX6, Cond.code yX6_dryHourOf cX6_dryHourOf 2 (some .int), Cond.fieldLink RX6 26 "Groutline$Work" "dryHours" "[I", Cond.methodLink RX6 30 yX6_isLaid, Cond.instanceMethod yX6_isLaid, Cond.selects RX6 yX6_isLaid yX6_isLaid, Cond.code yX6_isLaid cX6_isLaid 2 (some .boolean), Cond.fieldLink RX6 22 "Groutline$Work" "laid" "[Z"]
def wsL_dry : List Cond := .codeWith yL_dry cL_dry 4 (some .int) [(0, 9, 12, 21)] :: ((wsL_dry_r1 ++ wsL_dry_r2) ++ wsX70 ++ wsX30 ++ wsX60 ++ (vx_atS RX7 101 "java/lang/IndexOutOfBoundsException" ["java/lang/RuntimeException", "java/lang/Exception"]).filter goodWord)
def wsL_pass : List Cond := .codeWith yL_pass cL_pass 4 (some .int) [(0, 9, 12, 13)] :: ([.classLink RL 13 "java/lang/IllegalArgumentException", .methodLink RL 52 yX7_pass, .instanceMethod yX7_pass, .selects RX7 yX7_pass yX7_pass, .initialized RX7, .code yX7_pass cX7_pass 2 (some .int), .classLink RX7 65 "java/lang/IllegalArgumentException", .initialized "java/lang/IllegalArgumentException", .fieldLink RX7 47 "Groutline" "work" "LGroutline$Work;", .fieldLink RX7 202 "Groutline$Work" "hour" "I", .methodLink RX7 61 yX7_isWithin, .static yX7_isWithin, .code yX7_isWithin cX7_isWithin 3 (some .boolean)] ++ wsX70 ++ wsX60 ++ (vx_atS RX7 69 "java/lang/IllegalArgumentException" ["java/lang/RuntimeException", "java/lang/Exception"]).filter goodWord)
def wsL_law0_r1 : List Cond := [Cond.classLink RL 8 RX7, Cond.instantiable RX7 7, Cond.initialized RX7, Cond.classLink RL 56 RX8, Cond.instantiable RX8 31, Cond.initialized RX8, Cond.arrayClass .long, Cond.methodLink RL 55 yX7_init, Cond.instanceMethod yX7_init, Cond.code yX7_init cX7_init 1 none, Cond.methodLink RX7 3 objectInit, Cond.instanceMethod objectInit, Cond.code objectInit ⟨#[0xb1]⟩ 1 none, Cond.classLink RX7 9 RX3, Cond.instantiable RX3 4, Cond.initialized RX3, Cond.fieldLink RX7 12 "Groutline" "layout" "LGroutline$Layout;", Cond.classLink RX7 16 RX0, Cond.instantiable RX0 3, Cond.initialized RX0, Cond.fieldLink RX7 19 "Groutline" "bars" "LGroutline$Bars;", Cond.classLink RX7 23 RX4, Cond.instantiable RX4 9, Cond.initialized RX4]
def wsL_law0_r2 : List Cond := [Cond.fieldLink RX7 26 "Groutline" "pieces" "LGroutline$Pieces;", Cond.classLink RX7 30 RX1, Cond.instantiable RX1 6, Cond.initialized RX1, Cond.fieldLink RX7 33 "Groutline" "cuts" "LGroutline$Cuts;", Cond.classLink RX7 37 RX5, Cond.instantiable RX5 4, Cond.initialized RX5, Cond.fieldLink RX7 40 "Groutline" "stack" "LGroutline$Stack;", Cond.classLink RX7 44 RX6, Cond.instantiable RX6 5, Cond.initialized RX6, Cond.fieldLink RX7 47 "Groutline" "work" "LGroutline$Work;", Cond.classLink RX7 51 RX2, Cond.instantiable RX2 4, Cond.initialized RX2, Cond.fieldLink RX7 54 "Groutline" "frame" "LGroutline$Frame;", Cond.instanceMethod yX3_init, Cond.code yX3_init cX3_init 1 none, Cond.methodLink RX3 3 objectInit, Cond.fieldLink RX3 9 "Groutline$Layout" "wide" "I", Cond.fieldLink RX3 15 "Groutline$Layout" "high" "I", Cond.fieldLink RX3 18 "Groutline$Layout" "border" "I", Cond.fieldLink RX3 21 "Groutline$Layout" "pattern" "I"]
def wsL_law0_r3 : List Cond := [Cond.instanceMethod yX0_init, Cond.code yX0_init cX0_init 1 none, Cond.methodLink RX0 3 objectInit, Cond.arrayClass .boolean, Cond.fieldLink RX0 9 "Groutline$Bars" "pillars" "[Z", Cond.fieldLink RX0 15 "Groutline$Bars" "barred" "[Z", Cond.fieldLink RX0 18 "Groutline$Bars" "doorColumn" "I", Cond.instanceMethod yX4_init, Cond.code yX4_init cX4_init 1 none, Cond.methodLink RX4 3 objectInit, Cond.fieldLink RX4 9 "Groutline$Pieces" "count" "I", Cond.arrayClass .int, Cond.fieldLink RX4 15 "Groutline$Pieces" "ofCells" "[I", Cond.fieldLink RX4 19 "Groutline$Pieces" "kinds" "[I", Cond.fieldLink RX4 22 "Groutline$Pieces" "columns" "[I", Cond.fieldLink RX4 25 "Groutline$Pieces" "rows" "[I", Cond.fieldLink RX4 28 "Groutline$Pieces" "sizes" "[I", Cond.fieldLink RX4 31 "Groutline$Pieces" "boxWides" "[I", Cond.fieldLink RX4 34 "Groutline$Pieces" "boxHighs" "[I", Cond.classLink RX4 37 RX2, Cond.fieldLink RX4 40 "Groutline$Pieces" "frame" "LGroutline$Frame;", Cond.instanceMethod yX2_init, Cond.code yX2_init cX2_init 1 none, Cond.methodLink RX2 1 objectInit]
def wsL_law0_r4 : List Cond := [Cond.fieldLink RX2 7 "Groutline$Frame" "left" "I", Cond.fieldLink RX2 13 "Groutline$Frame" "right" "I", Cond.fieldLink RX2 16 "Groutline$Frame" "top" "I", Cond.fieldLink RX2 19 "Groutline$Frame" "bottom" "I", Cond.instanceMethod yX1_init, Cond.code yX1_init cX1_init 1 none, Cond.methodLink RX1 3 objectInit, Cond.fieldLink RX1 9 "Groutline$Cuts" "newTiles" "I", Cond.fieldLink RX1 15 "Groutline$Cuts" "sources" "[I", Cond.fieldLink RX1 19 "Groutline$Cuts" "restCount" "I", Cond.fieldLink RX1 22 "Groutline$Cuts" "restWides" "[I", Cond.fieldLink RX1 25 "Groutline$Cuts" "restHighs" "[I", Cond.fieldLink RX1 28 "Groutline$Cuts" "restMakers" "[I", Cond.instanceMethod yX5_init, Cond.code yX5_init cX5_init 1 none, Cond.methodLink RX5 3 objectInit, Cond.fieldLink RX5 9 "Groutline$Stack" "count" "I", Cond.fieldLink RX5 15 "Groutline$Stack" "moved" "I", Cond.fieldLink RX5 18 "Groutline$Stack" "crateFloors" "[I", Cond.fieldLink RX5 22 "Groutline$Stack" "crateTiles" "[I", Cond.instanceMethod yX6_init, Cond.code yX6_init cX6_init 1 none, Cond.methodLink RX6 3 objectInit, Cond.fieldLink RX6 9 "Groutline$Work" "hour" "I"]
def wsL_law0_r5 : List Cond := [Cond.fieldLink RX6 15 "Groutline$Work" "groutHours" "I", Cond.fieldLink RX6 18 "Groutline$Work" "hasBegun" "Z", Cond.fieldLink RX6 22 "Groutline$Work" "laid" "[Z", Cond.fieldLink RX6 26 "Groutline$Work" "dryHours" "[I", Cond.methodLink RX7 58 yX7_renew, Cond.instanceMethod yX7_renew, Cond.selects RX7 yX7_renew yX7_renew, Cond.code yX7_renew cX7_renew 1 none, Cond.methodLink RX7 214 yX0_renew, Cond.instanceMethod yX0_renew, Cond.selects RX0 yX0_renew yX0_renew, Cond.code yX0_renew cX0_renew 4 none, Cond.methodLink RX0 30 yX3_stripOfRow, Cond.instanceMethod yX3_stripOfRow, Cond.selects RX3 yX3_stripOfRow yX3_stripOfRow, Cond.code yX3_stripOfRow cX3_stripOfRow 2 (some .int), Cond.methodLink RX3 28 yX3_lowerBorder, Cond.instanceMethod yX3_lowerBorder, Cond.selects RX3 yX3_lowerBorder yX3_lowerBorder, Cond.code yX3_lowerBorder cX3_lowerBorder 1 (some .int), Cond.methodLink RX3 39 yX3_countCourses, Cond.instanceMethod yX3_countCourses, Cond.selects RX3 yX3_countCourses yX3_countCourses, Cond.code yX3_countCourses cX3_countCourses 1 (some .int)]
def wsL_law0_r6 : List Cond := [Cond.methodLink RX3 35 yX3_courseOfRow, Cond.instanceMethod yX3_courseOfRow, Cond.selects RX3 yX3_courseOfRow yX3_courseOfRow, Cond.code yX3_courseOfRow cX3_courseOfRow 2 (some .int), Cond.static yX7_timesIn, Cond.code yX7_timesIn cX7_timesIn 2 (some .int), Cond.methodLink RX0 36 yX6_isLaid, Cond.instanceMethod yX6_isLaid, Cond.selects RX6 yX6_isLaid yX6_isLaid, Cond.code yX6_isLaid cX6_isLaid 2 (some .boolean), Cond.methodLink RX0 42 yX0_renewRow, Cond.instanceMethod yX0_renewRow, Cond.selects RX0 yX0_renewRow yX0_renewRow, Cond.code yX0_renewRow cX0_renewRow 4 none, Cond.static yX7_isCell, Cond.code yX7_isCell cX7_isCell 2 (some .boolean), Cond.static yX7_cellAt, Cond.code yX7_cellAt cX7_cellAt 2 (some .int), Cond.methodLink RX0 46 yX0_isDoor, Cond.instanceMethod yX0_isDoor, Cond.selects RX0 yX0_isDoor yX0_isDoor, Cond.code yX0_isDoor cX0_isDoor 3 (some .boolean), Cond.methodLink RX7 217 yX4_find, Cond.instanceMethod yX4_find]
def wsL_law0_r7 : List Cond := [Cond.selects RX4 yX4_find yX4_find, Cond.code yX4_find cX4_find 6 none, Cond.methodLink RX4 44 yJ7_fill_53178, Cond.static yJ7_fill_53178, Cond.initialized RJ7, Cond.code yJ7_fill_53178 cJ7_fill_53178 4 none, Cond.methodLink RX4 54 yX0_areAt, Cond.instanceMethod yX0_areAt, Cond.selects RX0 yX0_areAt yX0_areAt, Cond.code yX0_areAt cX0_areAt 3 (some .boolean), Cond.methodLink RX4 60 yX4_add, Cond.instanceMethod yX4_add, Cond.selects RX4 yX4_add yX4_add, Cond.code yX4_add cX4_add 6 none, Cond.fieldLink RX4 80 "Groutline$Layout" "wide" "I", Cond.fieldLink RX4 83 "Groutline$Layout" "high" "I", Cond.methodLink RX4 64 yX4_has, Cond.instanceMethod yX4_has, Cond.selects RX4 yX4_has yX4_has, Cond.code yX4_has cX4_has 2 (some .boolean), Cond.methodLink RX4 68 yX3_frame, Cond.instanceMethod yX3_frame, Cond.selects RX3 yX3_frame yX3_frame, Cond.code yX3_frame cX3_frame 9 none]
def wsL_law0_r8 : List Cond := [Cond.methodLink RX3 55 Lib.Math.max.name, Cond.static Lib.Math.max.name, Cond.initialized "java/lang/Math", Cond.code Lib.Math.max.name Lib.Math.max.code 2 (some .int), Cond.methodLink RX3 60 Lib.Math.min.name, Cond.static Lib.Math.min.name, Cond.code Lib.Math.min.name Lib.Math.min.code 2 (some .int), Cond.methodLink RX3 45 yX3_isBorder, Cond.instanceMethod yX3_isBorder, Cond.selects RX3 yX3_isBorder yX3_isBorder, Cond.code yX3_isBorder cX3_isBorder 3 (some .boolean), Cond.methodLink RX3 24 yX3_rightBorder, Cond.instanceMethod yX3_rightBorder, Cond.selects RX3 yX3_rightBorder yX3_rightBorder, Cond.code yX3_rightBorder cX3_rightBorder 1 (some .int), Cond.methodLink RX3 49 yX2_set, Cond.instanceMethod yX2_set, Cond.selects RX2 yX2_set yX2_set, Cond.code yX2_set cX2_set 5 none, Cond.methodLink RX4 73 yX4_measure, Cond.instanceMethod yX4_measure, Cond.selects RX4 yX4_measure yX4_measure, Cond.code yX4_measure cX4_measure 9 none, Cond.fieldLink RX4 86 "Groutline$Frame" "right" "I"]
def wsL_law0_r9 : List Cond := [Cond.fieldLink RX4 89 "Groutline$Frame" "left" "I", Cond.fieldLink RX4 92 "Groutline$Frame" "top" "I", Cond.fieldLink RX4 95 "Groutline$Frame" "bottom" "I", Cond.methodLink RX4 101 Lib.Math.min.name, Cond.methodLink RX4 106 Lib.Math.max.name, Cond.methodLink RX4 77 yX3_isBorder, Cond.methodLink RX7 221 yX1_cutAll, Cond.instanceMethod yX1_cutAll, Cond.selects RX1 yX1_cutAll yX1_cutAll, Cond.code yX1_cutAll cX1_cutAll 4 none, Cond.fieldLink RX1 46 "Groutline$Pieces" "kinds" "[I", Cond.fieldLink RX1 49 "Groutline$Pieces" "boxWides" "[I", Cond.fieldLink RX1 52 "Groutline$Pieces" "boxHighs" "[I", Cond.methodLink RX1 35 yJ7_fill_53178, Cond.methodLink RX1 41 yX4_has, Cond.methodLink RX1 55 yX1_cut, Cond.instanceMethod yX1_cut, Cond.selects RX1 yX1_cut yX1_cut, Cond.code yX1_cut cX1_cut 8 none, Cond.fieldLink RX1 63 "Groutline$Layout" "wide" "I", Cond.fieldLink RX1 68 "Groutline$Layout" "high" "I", Cond.methodLink RX1 59 yX1_bestRestFor, Cond.instanceMethod yX1_bestRestFor, Cond.selects RX1 yX1_bestRestFor yX1_bestRestFor]
def wsL_law0_r10 : List Cond := [Cond.code yX1_bestRestFor cX1_bestRestFor 8 (some .int), Cond.methodLink RX1 31 yX1_hasRest, Cond.instanceMethod yX1_hasRest, Cond.selects RX1 yX1_hasRest yX1_hasRest, Cond.code yX1_hasRest cX1_hasRest 2 (some .boolean), Cond.methodLink RX1 71 yX1_leave, Cond.instanceMethod yX1_leave, Cond.selects RX1 yX1_leave yX1_leave, Cond.code yX1_leave cX1_leave 8 none, Cond.methodLink RX1 79 yX1_addRest, Cond.instanceMethod yX1_addRest, Cond.selects RX1 yX1_addRest yX1_addRest, Cond.code yX1_addRest cX1_addRest 5 none, Cond.methodLink RX1 75 yX1_removeRest, Cond.instanceMethod yX1_removeRest, Cond.selects RX1 yX1_removeRest yX1_removeRest, Cond.code yX1_removeRest cX1_removeRest 3 none, Cond.methodLink RL 58 yX8_init, Cond.instanceMethod yX8_init, Cond.code yX8_init cX8_init 1 none, Cond.methodLink RX8 1 objectInit, Cond.fieldLink RX8 7 "GroutlineModel" "wide" "I", Cond.fieldLink RX8 13 "GroutlineModel" "high" "I", Cond.fieldLink RX8 16 "GroutlineModel" "pillar" "[I"]
def wsL_law0_r11 : List Cond := [Cond.fieldLink RX8 20 "GroutlineModel" "shut" "[I", Cond.fieldLink RX8 23 "GroutlineModel" "pk" "[I", Cond.fieldLink RX8 26 "GroutlineModel" "pf" "[I", Cond.fieldLink RX8 29 "GroutlineModel" "pn" "[I", Cond.fieldLink RX8 32 "GroutlineModel" "pr" "[I", Cond.fieldLink RX8 35 "GroutlineModel" "left" "[I", Cond.fieldLink RX8 38 "GroutlineModel" "right" "[I", Cond.fieldLink RX8 41 "GroutlineModel" "top" "[I", Cond.fieldLink RX8 44 "GroutlineModel" "bottom" "[I", Cond.fieldLink RX8 47 "GroutlineModel" "at" "[I", Cond.fieldLink RX8 50 "GroutlineModel" "rw" "[I", Cond.fieldLink RX8 53 "GroutlineModel" "rh" "[I", Cond.fieldLink RX8 56 "GroutlineModel" "rp" "[I", Cond.fieldLink RX8 59 "GroutlineModel" "cf" "[I", Cond.fieldLink RX8 62 "GroutlineModel" "cn" "[I", Cond.fieldLink RX8 65 "GroutlineModel" "dry" "[I", Cond.fieldLink RX8 68 "GroutlineModel" "grout" "I", Cond.methodLink RX8 71 yX8_unlay, Cond.instanceMethod yX8_unlay, Cond.selects RX8 yX8_unlay yX8_unlay, Cond.code yX8_unlay cX8_unlay 2 none, Cond.methodLink RX8 74 yX8_plans, Cond.instanceMethod yX8_plans, Cond.selects RX8 yX8_plans yX8_plans]
def wsL_law0_r12 : List Cond := [Cond.code yX8_plans cX8_plans 4 none, Cond.fieldLink RX8 94 "GroutlineModel" "pieces" "I", Cond.methodLink RX8 97 yX8_isBarred, Cond.instanceMethod yX8_isBarred, Cond.selects RX8 yX8_isBarred yX8_isBarred, Cond.code yX8_isBarred cX8_isBarred 2 (some .boolean), Cond.methodLink RX8 100 yX8_isSame, Cond.instanceMethod yX8_isSame, Cond.selects RX8 yX8_isSame yX8_isSame, Cond.code yX8_isSame cX8_isSame 3 (some .boolean), Cond.methodLink RX8 86 yX8_isEdge, Cond.instanceMethod yX8_isEdge, Cond.selects RX8 yX8_isEdge yX8_isEdge, Cond.code yX8_isEdge cX8_isEdge 4 (some .boolean), Cond.fieldLink RX8 80 "GroutlineModel" "border" "I", Cond.methodLink RX8 90 yX8_tileOf, Cond.instanceMethod yX8_tileOf, Cond.selects RX8 yX8_tileOf yX8_tileOf, Cond.code yX8_tileOf cX8_tileOf 4 (some .int), Cond.fieldLink RX8 83 "GroutlineModel" "pattern" "I", Cond.methodLink RX8 104 yX8_cuts, Cond.instanceMethod yX8_cuts, Cond.selects RX8 yX8_cuts yX8_cuts, Cond.code yX8_cuts cX8_cuts 9 none]
def wsL_law0_r13 : List Cond := [Cond.fieldLink RX8 107 "GroutlineModel" "rests" "I", Cond.fieldLink RX8 110 "GroutlineModel" "tiles" "I", Cond.methodLink RX8 113 yX8_bestRest, Cond.instanceMethod yX8_bestRest, Cond.selects RX8 yX8_bestRest yX8_bestRest, Cond.code yX8_bestRest cX8_bestRest 6 (some .int), Cond.methodLink RX8 117 yX8_takeOut, Cond.instanceMethod yX8_takeOut, Cond.selects RX8 yX8_takeOut yX8_takeOut, Cond.code yX8_takeOut cX8_takeOut 3 none, Cond.methodLink RL 59 yL_plan, Cond.static yL_plan, Cond.initialized RL, Cond.codeWith yL_plan cL_plan 7 (some .int) [(0, 14, 17, 13), (0, 14, 21, 15)], Cond.classLink RL 13 "java/lang/IllegalArgumentException", Cond.classLink RL 15 "java/lang/IllegalStateException", Cond.methodLink RL 7 yX7_plan, Cond.instanceMethod yX7_plan, Cond.selects RX7 yX7_plan yX7_plan, Cond.code yX7_plan cX7_plan 5 (some .int), Cond.classLink RX7 65 "java/lang/IllegalArgumentException", Cond.initialized "java/lang/IllegalArgumentException", Cond.classLink RX7 80 "java/lang/IllegalStateException", Cond.initialized "java/lang/IllegalStateException"]
def wsL_law0_r14 : List Cond := [Cond.fieldLink RX7 76 "Groutline$Work" "hasBegun" "Z", Cond.fieldLink RX7 89 "Groutline$Pieces" "count" "I", Cond.methodLink RX7 61 yX7_isWithin, Cond.static yX7_isWithin, Cond.code yX7_isWithin cX7_isWithin 3 (some .boolean), Cond.methodLink RX7 85 yX3_set, Cond.instanceMethod yX3_set, Cond.selects RX3 yX3_set yX3_set, Cond.code yX3_set cX3_set 5 none, Cond.methodLink RL 64 yX8_plan, Cond.instanceMethod yX8_plan, Cond.selects RX8 yX8_plan yX8_plan, Cond.code yX8_plan cX8_plan 6 (some .int), Cond.fieldLink RX8 129 "GroutlineModel" "anyLaid" "Z", Cond.methodLink RX8 125 yX8_in, Cond.instanceMethod yX8_in, Cond.selects RX8 yX8_in yX8_in, Cond.code yX8_in cX8_in 4 (some .boolean), Cond.methodLink RX8 133 yX8_holds, Cond.instanceMethod yX8_holds, Cond.selects RX8 yX8_holds yX8_holds, Cond.code yX8_holds cX8_holds 2 (some .boolean), Cond.fieldLink RX8 77 "GroutlineModel" "thrown" "I", Cond.methodLink RL 65 yX8_thrown]
def wsL_law0_r15 : List Cond := [Cond.instanceMethod yX8_thrown, Cond.selects RX8 yX8_thrown yX8_thrown, Cond.code yX8_thrown cX8_thrown 1 (some .int), Cond.methodLink RL 69 yL_pillar, Cond.static yL_pillar, Cond.codeWith yL_pillar cL_pillar 6 (some .int) [(0, 19, 22, 21), (0, 19, 26, 15)], Cond.classLink RL 21 "java/lang/IndexOutOfBoundsException", Cond.methodLink RL 17 yX7_pillar, Cond.instanceMethod yX7_pillar, Cond.selects RX7 yX7_pillar yX7_pillar, Cond.code yX7_pillar cX7_pillar 5 (some .boolean), Cond.classLink RX7 97 "java/lang/IndexOutOfBoundsException", Cond.initialized "java/lang/IndexOutOfBoundsException", Cond.methodLink RX7 93 yX7_isCell, Cond.methodLink RX7 102 yX0_setPillar, Cond.instanceMethod yX0_setPillar, Cond.selects RX0 yX0_setPillar yX0_setPillar, Cond.code yX0_setPillar cX0_setPillar 5 (some .boolean), Cond.methodLink RL 72 yX8_pillar, Cond.instanceMethod yX8_pillar, Cond.selects RX8 yX8_pillar yX8_pillar, Cond.code yX8_pillar cX8_pillar 6 (some .boolean), Cond.methodLink RL 73 yL_door, Cond.static yL_door]
def wsL_law0_r16 : List Cond := [Cond.codeWith yL_door cL_door 4 (some .int) [(0, 9, 12, 21)], Cond.methodLink RL 23 yX7_door, Cond.instanceMethod yX7_door, Cond.selects RX7 yX7_door yX7_door, Cond.code yX7_door cX7_door 2 (some .int), Cond.fieldLink RX7 108 "Groutline$Bars" "doorColumn" "I", Cond.methodLink RL 76 yX8_door, Cond.instanceMethod yX8_door, Cond.selects RX8 yX8_door yX8_door, Cond.code yX8_door cX8_door 3 (some .int), Cond.fieldLink RX8 136 "GroutlineModel" "door" "I", Cond.methodLink RL 77 yL_ofPiece, Cond.static yL_ofPiece, Cond.codeWith yL_ofPiece cL_ofPiece 5 (some .int) [(0, 10, 13, 21), (0, 10, 17, 13)], Cond.methodLink RL 27 yX7_ofPiece, Cond.instanceMethod yX7_ofPiece, Cond.selects RX7 yX7_ofPiece yX7_ofPiece, Cond.code yX7_ofPiece cX7_ofPiece 3 (some .int), Cond.fieldLink RX7 119 "Groutline$Pieces" "kinds" "[I", Cond.fieldLink RX7 123 "Groutline$Pieces" "columns" "[I", Cond.fieldLink RX7 126 "Groutline$Pieces" "rows" "[I", Cond.fieldLink RX7 129 "Groutline$Pieces" "sizes" "[I", Cond.fieldLink RX7 136 "Groutline$Cuts" "sources" "[I", Cond.methodLink RX7 111 yX4_has]
def wsL_law0_r17 : List Cond := [Cond.methodLink RX7 132 yX3_stripOfRow, Cond.methodLink RL 80 yX8_ofPiece, Cond.instanceMethod yX8_ofPiece, Cond.selects RX8 yX8_ofPiece yX8_ofPiece, Cond.code yX8_ofPiece cX8_ofPiece 3 (some .int), Cond.methodLink RX8 139 yX8_stripOfRow, Cond.instanceMethod yX8_stripOfRow, Cond.selects RX8 yX8_stripOfRow yX8_stripOfRow, Cond.code yX8_stripOfRow cX8_stripOfRow 2 (some .int), Cond.methodLink RX8 121 yX8_courses, Cond.instanceMethod yX8_courses, Cond.selects RX8 yX8_courses yX8_courses, Cond.code yX8_courses cX8_courses 1 (some .int), Cond.methodLink RL 81 yL_pieceAt, Cond.static yL_pieceAt, Cond.codeWith yL_pieceAt cL_pieceAt 5 (some .int) [(0, 10, 13, 21)], Cond.methodLink RL 31 yX7_pieceAt, Cond.instanceMethod yX7_pieceAt, Cond.selects RX7 yX7_pieceAt yX7_pieceAt, Cond.code yX7_pieceAt cX7_pieceAt 3 (some .int), Cond.fieldLink RX7 139 "Groutline$Pieces" "ofCells" "[I", Cond.methodLink RX7 142 yX7_cellAt, Cond.methodLink RL 83 yX8_pieceAt, Cond.instanceMethod yX8_pieceAt]
def wsL_law0_r18 : List Cond := [Cond.selects RX8 yX8_pieceAt yX8_pieceAt, Cond.code yX8_pieceAt cX8_pieceAt 3 (some .int), Cond.methodLink RL 84 yX7_piecesAnew, Cond.instanceMethod yX7_piecesAnew, Cond.selects RX7 yX7_piecesAnew yX7_piecesAnew, Cond.code yX7_piecesAnew cX7_piecesAnew 4 (some .int), Cond.methodLink RX7 146 yX7_isFirstOfItsPiece, Cond.instanceMethod yX7_isFirstOfItsPiece, Cond.selects RX7 yX7_isFirstOfItsPiece yX7_isFirstOfItsPiece, Cond.code yX7_isFirstOfItsPiece cX7_isFirstOfItsPiece 6 (some .boolean), Cond.fieldLink RX7 231 "Groutline$Frame" "top" "I", Cond.fieldLink RX7 234 "Groutline$Frame" "left" "I", Cond.fieldLink RX7 237 "Groutline$Frame" "right" "I", Cond.methodLink RX7 225 yX0_areAt, Cond.methodLink RX7 228 yX3_frame, Cond.methodLink RL 87 yX8_piecesAnew, Cond.instanceMethod yX8_piecesAnew, Cond.selects RX8 yX8_piecesAnew yX8_piecesAnew, Cond.code yX8_piecesAnew cX8_piecesAnew 1 (some .int), Cond.methodLink RL 88 yX7_tiles, Cond.instanceMethod yX7_tiles, Cond.selects RX7 yX7_tiles yX7_tiles, Cond.code yX7_tiles cX7_tiles 1 (some .int), Cond.fieldLink RX7 149 "Groutline$Cuts" "newTiles" "I"]
def wsL_law0_r19 : List Cond := [Cond.methodLink RL 91 yX8_tiles, Cond.instanceMethod yX8_tiles, Cond.selects RX8 yX8_tiles yX8_tiles, Cond.code yX8_tiles cX8_tiles 1 (some .int), Cond.methodLink RL 92 yL_rest, Cond.static yL_rest, Cond.codeWith yL_rest cL_rest 4 (some .int) [(0, 9, 12, 21)], Cond.methodLink RL 34 yX7_rest, Cond.instanceMethod yX7_rest, Cond.selects RX7 yX7_rest yX7_rest, Cond.code yX7_rest cX7_rest 2 (some .int), Cond.methodLink RX7 154 yX1_sizeOfRest, Cond.instanceMethod yX1_sizeOfRest, Cond.selects RX1 yX1_sizeOfRest yX1_sizeOfRest, Cond.code yX1_sizeOfRest cX1_sizeOfRest 2 (some .int), Cond.methodLink RL 94 yX8_rest, Cond.instanceMethod yX8_rest, Cond.selects RX8 yX8_rest yX8_rest, Cond.code yX8_rest cX8_rest 2 (some .int), Cond.methodLink RL 95 yL_crate, Cond.static yL_crate, Cond.codeWith yL_crate cL_crate 5 (some .int) [(0, 10, 13, 13), (0, 10, 17, 15)], Cond.methodLink RL 37 yX7_crate, Cond.instanceMethod yX7_crate]
def wsL_law0_r20 : List Cond := [Cond.selects RX7 yX7_crate yX7_crate, Cond.code yX7_crate cX7_crate 3 (some .int), Cond.fieldLink RX7 174 "Groutline$Stack" "count" "I", Cond.methodLink RX7 157 yX7_isFloor, Cond.static yX7_isFloor, Cond.code yX7_isFloor cX7_isFloor 1 (some .boolean), Cond.methodLink RX7 164 yX5_isFull, Cond.instanceMethod yX5_isFull, Cond.selects RX5 yX5_isFull yX5_isFull, Cond.code yX5_isFull cX5_isFull 1 (some .boolean), Cond.methodLink RX7 170 yX5_put, Cond.instanceMethod yX5_put, Cond.selects RX5 yX5_put yX5_put, Cond.code yX5_put cX5_put 3 none, Cond.methodLink RL 97 yX8_crate, Cond.instanceMethod yX8_crate, Cond.selects RX8 yX8_crate yX8_crate, Cond.code yX8_crate cX8_crate 3 (some .int), Cond.fieldLink RX8 142 "GroutlineModel" "crates" "I", Cond.methodLink RL 98 yL_fetch, Cond.static yL_fetch, Cond.codeWith yL_fetch cL_fetch 4 (some .int) [(0, 9, 12, 13)], Cond.methodLink RL 40 yX7_fetch, Cond.instanceMethod yX7_fetch]
def wsL_law0_r21 : List Cond := [Cond.selects RX7 yX7_fetch yX7_fetch, Cond.code yX7_fetch cX7_fetch 2 (some .int), Cond.methodLink RX7 175 yX5_takeTopmostFor, Cond.instanceMethod yX5_takeTopmostFor, Cond.selects RX5 yX5_takeTopmostFor yX5_takeTopmostFor, Cond.code yX5_takeTopmostFor cX5_takeTopmostFor 4 (some .int), Cond.methodLink RX5 25 yX5_has, Cond.instanceMethod yX5_has, Cond.selects RX5 yX5_has yX5_has, Cond.code yX5_has cX5_has 2 (some .boolean), Cond.methodLink RX5 29 yX5_remove, Cond.instanceMethod yX5_remove, Cond.selects RX5 yX5_remove yX5_remove, Cond.code yX5_remove cX5_remove 3 none, Cond.methodLink RL 100 yX8_fetch, Cond.instanceMethod yX8_fetch, Cond.selects RX8 yX8_fetch yX8_fetch, Cond.code yX8_fetch cX8_fetch 5 (some .int), Cond.fieldLink RX8 145 "GroutlineModel" "moves" "I", Cond.methodLink RL 101 yX7_moves, Cond.instanceMethod yX7_moves, Cond.selects RX7 yX7_moves yX7_moves, Cond.code yX7_moves cX7_moves 1 (some .int), Cond.fieldLink RX7 178 "Groutline$Stack" "moved" "I"]
def wsL_law0_r22 : List Cond := [Cond.methodLink RL 104 yX8_moves, Cond.instanceMethod yX8_moves, Cond.selects RX8 yX8_moves yX8_moves, Cond.code yX8_moves cX8_moves 1 (some .int), Cond.methodLink RL 105 yL_grout, Cond.static yL_grout, Cond.codeWith yL_grout cL_grout 4 (some .int) [(0, 9, 12, 13)], Cond.methodLink RL 43 yX7_grout, Cond.instanceMethod yX7_grout, Cond.selects RX7 yX7_grout yX7_grout, Cond.code yX7_grout cX7_grout 3 (some .int), Cond.fieldLink RX7 183 "Groutline$Work" "groutHours" "I", Cond.methodLink RL 107 yX8_grout, Cond.instanceMethod yX8_grout, Cond.selects RX8 yX8_grout yX8_grout, Cond.code yX8_grout cX8_grout 3 (some .int), Cond.methodLink RL 108 yL_lay, Cond.static yL_lay, Cond.codeWith yL_lay cL_lay 4 (some .int) [(0, 9, 12, 21), (0, 9, 15, 15)], Cond.methodLink RL 46 yX7_lay, Cond.instanceMethod yX7_lay, Cond.selects RX7 yX7_lay yX7_lay, Cond.code yX7_lay cX7_lay 2 (some .int), Cond.fieldLink RX7 202 "Groutline$Work" "hour" "I"]
def wsL_law0_r23 : List Cond := [Cond.methodLink RX7 186 yX3_hasStrip, Cond.instanceMethod yX3_hasStrip, Cond.selects RX3 yX3_hasStrip yX3_hasStrip, Cond.code yX3_hasStrip cX3_hasStrip 2 (some .boolean), Cond.methodLink RX3 42 yX3_countStrips, Cond.instanceMethod yX3_countStrips, Cond.selects RX3 yX3_countStrips yX3_countStrips, Cond.code yX3_countStrips cX3_countStrips 1 (some .int), Cond.methodLink RX7 191 yX6_canStart, Cond.instanceMethod yX6_canStart, Cond.selects RX6 yX6_canStart yX6_canStart, Cond.code yX6_canStart cX6_canStart 3 (some .boolean), Cond.methodLink RX6 30 yX6_isLaid, Cond.methodLink RX7 196 yX7_piecesOfStrip, Cond.instanceMethod yX7_piecesOfStrip, Cond.selects RX7 yX7_piecesOfStrip yX7_piecesOfStrip, Cond.code yX7_piecesOfStrip cX7_piecesOfStrip 4 (some .int), Cond.methodLink RX7 199 yX6_finish, Cond.instanceMethod yX6_finish, Cond.selects RX6 yX6_finish yX6_finish, Cond.code yX6_finish cX6_finish 3 none, Cond.methodLink RL 110 yX8_lay, Cond.instanceMethod yX8_lay, Cond.selects RX8 yX8_lay yX8_lay]
def wsL_law0_r24 : List Cond := [Cond.code yX8_lay cX8_lay 3 (some .int), Cond.fieldLink RX8 148 "GroutlineModel" "hour" "I", Cond.methodLink RX8 154 yX8_isStrip, Cond.instanceMethod yX8_isStrip, Cond.selects RX8 yX8_isStrip yX8_isStrip, Cond.code yX8_isStrip cX8_isStrip 2 (some .boolean), Cond.methodLink RX8 151 yX8_stripCount, Cond.instanceMethod yX8_stripCount, Cond.selects RX8 yX8_stripCount yX8_stripCount, Cond.code yX8_stripCount cX8_stripCount 1 (some .int), Cond.methodLink RX8 157 yX8_isWet, Cond.instanceMethod yX8_isWet, Cond.selects RX8 yX8_isWet yX8_isWet, Cond.code yX8_isWet cX8_isWet 4 (some .boolean), Cond.methodLink RX8 160 yX8_piecesOf, Cond.instanceMethod yX8_piecesOf, Cond.selects RX8 yX8_piecesOf yX8_piecesOf, Cond.code yX8_piecesOf cX8_piecesOf 4 (some .int), Cond.methodLink RL 111 yL_dry, Cond.static yL_dry, Cond.codeWith yL_dry cL_dry 4 (some .int) [(0, 9, 12, 21)], Cond.methodLink RL 49 yX7_dry, Cond.instanceMethod yX7_dry, Cond.selects RX7 yX7_dry yX7_dry]
def wsL_law0_r25 : List Cond := [Cond.code yX7_dry cX7_dry 2 (some .int), Cond.methodLink RX7 205 yX6_dryHourOf, Cond.instanceMethod yX6_dryHourOf, Cond.selects RX6 yX6_dryHourOf yX6_dryHourOf, Cond.code yX6_dryHourOf cX6_dryHourOf 2 (some .int), Cond.methodLink RL 113 yX8_dry, Cond.instanceMethod yX8_dry, Cond.selects RX8 yX8_dry yX8_dry, Cond.code yX8_dry cX8_dry 2 (some .int), Cond.methodLink RL 114 yX7_strips, Cond.instanceMethod yX7_strips, Cond.selects RX7 yX7_strips yX7_strips, Cond.code yX7_strips cX7_strips 1 (some .int), Cond.methodLink RX7 208 yX3_countStrips, Cond.methodLink RL 117 yX8_strips, Cond.instanceMethod yX8_strips, Cond.selects RX8 yX8_strips yX8_strips, Cond.code yX8_strips cX8_strips 1 (some .int), Cond.methodLink RL 118 yL_pass, Cond.static yL_pass, Cond.codeWith yL_pass cL_pass 4 (some .int) [(0, 9, 12, 13)], Cond.methodLink RL 52 yX7_pass, Cond.instanceMethod yX7_pass, Cond.selects RX7 yX7_pass yX7_pass]
def wsL_law0_r26 : List Cond := [Cond.code yX7_pass cX7_pass 2 (some .int), Cond.methodLink RL 120 yX8_pass, Cond.instanceMethod yX8_pass, Cond.selects RX8 yX8_pass yX8_pass, Cond.code yX8_pass cX8_pass 2 (some .int)]
def wsL_law0 : List Cond := (wsL_law0_r1 ++ (wsL_law0_r2 ++ (wsL_law0_r3 ++ (wsL_law0_r4 ++ (wsL_law0_r5 ++ (wsL_law0_r6 ++ (wsL_law0_r7 ++ (wsL_law0_r8 ++ (wsL_law0_r9 ++ (wsL_law0_r10 ++ (wsL_law0_r11 ++ (wsL_law0_r12 ++ (wsL_law0_r13 ++ (wsL_law0_r14 ++ (wsL_law0_r15 ++ (wsL_law0_r16 ++ (wsL_law0_r17 ++ (wsL_law0_r18 ++ (wsL_law0_r19 ++ (wsL_law0_r20 ++ (wsL_law0_r21 ++ (wsL_law0_r22 ++ (wsL_law0_r23 ++ (wsL_law0_r24 ++ (wsL_law0_r25 ++ wsL_law0_r26))))))))))))))))))))))))) ++ wsX70 ++ wsX80 ++ wsX30 ++ wsX00 ++ wsX40 ++ wsX10 ++ wsX50 ++ wsX60 ++ wsX20 ++ ([] : List Cond)
def wsL_law : List Cond := wsL_law0 ++ (vx_atS RX7 69 "java/lang/IllegalArgumentException" ["java/lang/RuntimeException", "java/lang/Exception"]).filter goodWord ++ (vx_atS RX7 84 "java/lang/IllegalStateException" ["java/lang/RuntimeException", "java/lang/Exception"]).filter goodWord ++ (vx_atS RX7 101 "java/lang/IndexOutOfBoundsException" ["java/lang/RuntimeException", "java/lang/Exception"]).filter goodWord
theorem inlX0 : ∀ w ∈ wsX00, w ∈ wsL_law := fun _ h => List.mem_append_left _ (List.mem_append_left _ (List.mem_append_left _ (List.mem_append_left _ (List.mem_append_left _ (List.mem_append_left _ (List.mem_append_left _ (List.mem_append_left _ (List.mem_append_left _ (List.mem_append_right _ h)))))))))
theorem inlX1 : ∀ w ∈ wsX10, w ∈ wsL_law := fun _ h => List.mem_append_left _ (List.mem_append_left _ (List.mem_append_left _ (List.mem_append_left _ (List.mem_append_left _ (List.mem_append_left _ (List.mem_append_left _ (List.mem_append_right _ h)))))))
theorem inlX2 : ∀ w ∈ wsX20, w ∈ wsL_law := fun _ h => List.mem_append_left _ (List.mem_append_left _ (List.mem_append_left _ (List.mem_append_left _ (List.mem_append_right _ h))))
theorem inlX3 : ∀ w ∈ wsX30, w ∈ wsL_law := fun _ h => List.mem_append_left _ (List.mem_append_left _ (List.mem_append_left _ (List.mem_append_left _ (List.mem_append_left _ (List.mem_append_left _ (List.mem_append_left _ (List.mem_append_left _ (List.mem_append_left _ (List.mem_append_left _ (List.mem_append_right _ h))))))))))
theorem inlX4 : ∀ w ∈ wsX40, w ∈ wsL_law := fun _ h => List.mem_append_left _ (List.mem_append_left _ (List.mem_append_left _ (List.mem_append_left _ (List.mem_append_left _ (List.mem_append_left _ (List.mem_append_left _ (List.mem_append_left _ (List.mem_append_right _ h))))))))
theorem inlX5 : ∀ w ∈ wsX50, w ∈ wsL_law := fun _ h => List.mem_append_left _ (List.mem_append_left _ (List.mem_append_left _ (List.mem_append_left _ (List.mem_append_left _ (List.mem_append_left _ (List.mem_append_right _ h))))))
theorem inlX6 : ∀ w ∈ wsX60, w ∈ wsL_law := fun _ h => List.mem_append_left _ (List.mem_append_left _ (List.mem_append_left _ (List.mem_append_left _ (List.mem_append_left _ (List.mem_append_right _ h)))))
theorem inlX7 : ∀ w ∈ wsX70, w ∈ wsL_law := fun _ h => List.mem_append_left _ (List.mem_append_left _ (List.mem_append_left _ (List.mem_append_left _ (List.mem_append_left _ (List.mem_append_left _ (List.mem_append_left _ (List.mem_append_left _ (List.mem_append_left _ (List.mem_append_left _ (List.mem_append_left _ (List.mem_append_left _ (List.mem_append_right _ h))))))))))))
theorem inlX8 : ∀ w ∈ wsX80, w ∈ wsL_law := fun _ h => List.mem_append_left _ (List.mem_append_left _ (List.mem_append_left _ (List.mem_append_left _ (List.mem_append_left _ (List.mem_append_left _ (List.mem_append_left _ (List.mem_append_left _ (List.mem_append_left _ (List.mem_append_left _ (List.mem_append_left _ (List.mem_append_right _ h)))))))))))
abbrev vwCl : List vw_C := [(RX0, TX0, 3), (RX1, TX1, 6), (RX2, TX2, 4), (RX3, TX3, 4), (RX4, TX4, 9), (RX5, TX5, 4), (RX6, TX6, 5), (RX7, TX7, 7), (RX8, TX8, 31)]

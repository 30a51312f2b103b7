section
-- ===== PART A: goes FIRST, ahead of the names: the tables' words, and 'selects' of the private methods out of them =====
/-- a private method of a class that the tables say can be made, by its rows of tables_1 -/
def lw_okq (q : MethodName × Nat) : Prop := (q.1.cls ≠ "java/lang/invoke/MethodHandle" ∧ q.1.cls ≠ "java/lang/invoke/VarHandle") ∧ Cond.instantiable q.1.cls q.2 ∈ tables_1 ∧ Cond.privateMethod q.1 ∈ tables_1 ∧ Cond.instanceMethod q.1 ∈ tables_1
theorem lw_p0 : lw_okq (⟨"TabledStore$Memory", "startRound", "()V"⟩, 11) := ⟨⟨by decide +kernel, by decide +kernel⟩, List.mem_of_getElem? (i := 22) (by decide +kernel), List.mem_of_getElem? (i := 82) (by decide +kernel), List.mem_of_getElem? (i := 83) (by decide +kernel)⟩
theorem lw_p1 : lw_okq (⟨"TabledStore$Memory", "reach", "(I)V"⟩, 11) := ⟨⟨by decide +kernel, by decide +kernel⟩, List.mem_of_getElem? (i := 22) (by decide +kernel), List.mem_of_getElem? (i := 86) (by decide +kernel), List.mem_of_getElem? (i := 87) (by decide +kernel)⟩
theorem lw_p2 : lw_okq (⟨"TabledStore$Memory", "isReached", "(I)Z"⟩, 11) := ⟨⟨by decide +kernel, by decide +kernel⟩, List.mem_of_getElem? (i := 22) (by decide +kernel), List.mem_of_getElem? (i := 99) (by decide +kernel), List.mem_of_getElem? (i := 100) (by decide +kernel)⟩
theorem lw_p3 : lw_okq (⟨"TabledStore$Memory", "spread", "()V"⟩, 11) := ⟨⟨by decide +kernel, by decide +kernel⟩, List.mem_of_getElem? (i := 22) (by decide +kernel), List.mem_of_getElem? (i := 103) (by decide +kernel), List.mem_of_getElem? (i := 104) (by decide +kernel)⟩
theorem lw_p4 : lw_okq (⟨"TabledStore$Memory", "endOfSlots", "(I)I"⟩, 11) := ⟨⟨by decide +kernel, by decide +kernel⟩, List.mem_of_getElem? (i := 22) (by decide +kernel), List.mem_of_getElem? (i := 107) (by decide +kernel), List.mem_of_getElem? (i := 108) (by decide +kernel)⟩
theorem lw_p5 : lw_okq (⟨"TabledStore$Memory", "slide", "()V"⟩, 11) := ⟨⟨by decide +kernel, by decide +kernel⟩, List.mem_of_getElem? (i := 22) (by decide +kernel), List.mem_of_getElem? (i := 117) (by decide +kernel), List.mem_of_getElem? (i := 118) (by decide +kernel)⟩
theorem lw_p6 : lw_okq (⟨"TabledStore$Memory", "bodyWordsAt", "(I)I"⟩, 11) := ⟨⟨by decide +kernel, by decide +kernel⟩, List.mem_of_getElem? (i := 22) (by decide +kernel), List.mem_of_getElem? (i := 121) (by decide +kernel), List.mem_of_getElem? (i := 122) (by decide +kernel)⟩
theorem lw_p7 : lw_okq (⟨"java/lang/Throwable", "fillInStackTrace", "(I)Ljava/lang/Throwable;"⟩, 6) := ⟨⟨by decide +kernel, by decide +kernel⟩, List.mem_of_getElem? (i := 192) (by decide +kernel), List.mem_of_getElem? (i := 190) (by decide +kernel), List.mem_of_getElem? (i := 191) (by decide +kernel)⟩
theorem lw_p8 : lw_okq (⟨"TabledStore", "setRegister", "(II)V"⟩, 2) := ⟨⟨by decide +kernel, by decide +kernel⟩, List.mem_of_getElem? (i := 14) (by decide +kernel), List.mem_of_getElem? (i := 231) (by decide +kernel), List.mem_of_getElem? (i := 232) (by decide +kernel)⟩
theorem lw_p9 : lw_okq (⟨"TabledStore$Memory", "fits", "(I)Z"⟩, 11) := ⟨⟨by decide +kernel, by decide +kernel⟩, List.mem_of_getElem? (i := 22) (by decide +kernel), List.mem_of_getElem? (i := 268) (by decide +kernel), List.mem_of_getElem? (i := 269) (by decide +kernel)⟩
theorem lw_p10 : lw_okq (⟨"TabledStore$Memory", "place", "(I)I"⟩, 11) := ⟨⟨by decide +kernel, by decide +kernel⟩, List.mem_of_getElem? (i := 22) (by decide +kernel), List.mem_of_getElem? (i := 300) (by decide +kernel), List.mem_of_getElem? (i := 301) (by decide +kernel)⟩
theorem lw_p11 : lw_okq (⟨"TabledStore", "needObject", "(I)V"⟩, 2) := ⟨⟨by decide +kernel, by decide +kernel⟩, List.mem_of_getElem? (i := 14) (by decide +kernel), List.mem_of_getElem? (i := 311) (by decide +kernel), List.mem_of_getElem? (i := 312) (by decide +kernel)⟩
theorem lw_p12 : lw_okq (⟨"TabledStore$Memory", "overwrite", "(II)V"⟩, 11) := ⟨⟨by decide +kernel, by decide +kernel⟩, List.mem_of_getElem? (i := 22) (by decide +kernel), List.mem_of_getElem? (i := 337) (by decide +kernel), List.mem_of_getElem? (i := 338) (by decide +kernel)⟩
theorem lw_p13 : lw_okq (⟨"TabledStore", "needSlots", "(I)V"⟩, 2) := ⟨⟨by decide +kernel, by decide +kernel⟩, List.mem_of_getElem? (i := 14) (by decide +kernel), List.mem_of_getElem? (i := 350) (by decide +kernel), List.mem_of_getElem? (i := 351) (by decide +kernel)⟩
theorem lw_p14 : lw_okq (⟨"TabledStore", "needIndex", "(II)V"⟩, 2) := ⟨⟨by decide +kernel, by decide +kernel⟩, List.mem_of_getElem? (i := 14) (by decide +kernel), List.mem_of_getElem? (i := 359) (by decide +kernel), List.mem_of_getElem? (i := 360) (by decide +kernel)⟩
theorem lw_p15 : lw_okq (⟨"TabledStore", "needBytes", "(I)V"⟩, 2) := ⟨⟨by decide +kernel, by decide +kernel⟩, List.mem_of_getElem? (i := 14) (by decide +kernel), List.mem_of_getElem? (i := 427) (by decide +kernel), List.mem_of_getElem? (i := 428) (by decide +kernel)⟩
def lw_privs_1 : List (MethodName × Nat) := [(⟨"TabledStore$Memory", "startRound", "()V"⟩, 11), (⟨"TabledStore$Memory", "reach", "(I)V"⟩, 11), (⟨"TabledStore$Memory", "isReached", "(I)Z"⟩, 11), (⟨"TabledStore$Memory", "spread", "()V"⟩, 11), (⟨"TabledStore$Memory", "endOfSlots", "(I)I"⟩, 11), (⟨"TabledStore$Memory", "slide", "()V"⟩, 11), (⟨"TabledStore$Memory", "bodyWordsAt", "(I)I"⟩, 11), (⟨"java/lang/Throwable", "fillInStackTrace", "(I)Ljava/lang/Throwable;"⟩, 6), (⟨"TabledStore", "setRegister", "(II)V"⟩, 2), (⟨"TabledStore$Memory", "fits", "(I)Z"⟩, 11), (⟨"TabledStore$Memory", "place", "(I)I"⟩, 11), (⟨"TabledStore", "needObject", "(I)V"⟩, 2), (⟨"TabledStore$Memory", "overwrite", "(II)V"⟩, 11), (⟨"TabledStore", "needSlots", "(I)V"⟩, 2), (⟨"TabledStore", "needIndex", "(II)V"⟩, 2), (⟨"TabledStore", "needBytes", "(I)V"⟩, 2)]
theorem lw_r1 : ∀ q ∈ lw_privs_1, lw_okq q := List.forall_mem_cons.mpr ⟨lw_p0, List.forall_mem_cons.mpr ⟨lw_p1, List.forall_mem_cons.mpr ⟨lw_p2, List.forall_mem_cons.mpr ⟨lw_p3, List.forall_mem_cons.mpr ⟨lw_p4, List.forall_mem_cons.mpr ⟨lw_p5, List.forall_mem_cons.mpr ⟨lw_p6, List.forall_mem_cons.mpr ⟨lw_p7, List.forall_mem_cons.mpr ⟨lw_p8, List.forall_mem_cons.mpr ⟨lw_p9, List.forall_mem_cons.mpr ⟨lw_p10, List.forall_mem_cons.mpr ⟨lw_p11, List.forall_mem_cons.mpr ⟨lw_p12, List.forall_mem_cons.mpr ⟨lw_p13, List.forall_mem_cons.mpr ⟨lw_p14, List.forall_mem_cons.mpr ⟨lw_p15, fun _ h => absurd h List.not_mem_nil⟩⟩⟩⟩⟩⟩⟩⟩⟩⟩⟩⟩⟩⟩⟩⟩
theorem lw_p16 : lw_okq (⟨"TabledStore$Memory", "seat", "(II)V"⟩, 11) := ⟨⟨by decide +kernel, by decide +kernel⟩, List.mem_of_getElem? (i := 22) (by decide +kernel), List.mem_of_getElem? (i := 493) (by decide +kernel), List.mem_of_getElem? (i := 494) (by decide +kernel)⟩
theorem lw_p17 : lw_okq (⟨"TabledStoreModel", "canMake", "(IZ)Z"⟩, 18) := ⟨⟨by decide +kernel, by decide +kernel⟩, List.mem_of_getElem? (i := 538) (by decide +kernel), List.mem_of_getElem? (i := 626) (by decide +kernel), List.mem_of_getElem? (i := 627) (by decide +kernel)⟩
theorem lw_p18 : lw_okq (⟨"TabledStoreModel", "reach", "()V"⟩, 18) := ⟨⟨by decide +kernel, by decide +kernel⟩, List.mem_of_getElem? (i := 538) (by decide +kernel), List.mem_of_getElem? (i := 630) (by decide +kernel), List.mem_of_getElem? (i := 631) (by decide +kernel)⟩
theorem lw_p19 : lw_okq (⟨"TabledStoreModel", "forget", "()V"⟩, 18) := ⟨⟨by decide +kernel, by decide +kernel⟩, List.mem_of_getElem? (i := 538) (by decide +kernel), List.mem_of_getElem? (i := 634) (by decide +kernel), List.mem_of_getElem? (i := 635) (by decide +kernel)⟩
theorem lw_p20 : lw_okq (⟨"TabledStoreModel", "meet", "(I)V"⟩, 18) := ⟨⟨by decide +kernel, by decide +kernel⟩, List.mem_of_getElem? (i := 538) (by decide +kernel), List.mem_of_getElem? (i := 638) (by decide +kernel), List.mem_of_getElem? (i := 639) (by decide +kernel)⟩
theorem lw_p21 : lw_okq (⟨"TabledStoreModel", "spread", "()V"⟩, 18) := ⟨⟨by decide +kernel, by decide +kernel⟩, List.mem_of_getElem? (i := 538) (by decide +kernel), List.mem_of_getElem? (i := 648) (by decide +kernel), List.mem_of_getElem? (i := 649) (by decide +kernel)⟩
theorem lw_p22 : lw_okq (⟨"TabledStoreModel", "giveBack", "()V"⟩, 18) := ⟨⟨by decide +kernel, by decide +kernel⟩, List.mem_of_getElem? (i := 538) (by decide +kernel), List.mem_of_getElem? (i := 655) (by decide +kernel), List.mem_of_getElem? (i := 656) (by decide +kernel)⟩
theorem lw_p23 : lw_okq (⟨"TabledStoreModel", "add", "(IIZ)I"⟩, 18) := ⟨⟨by decide +kernel, by decide +kernel⟩, List.mem_of_getElem? (i := 538) (by decide +kernel), List.mem_of_getElem? (i := 659) (by decide +kernel), List.mem_of_getElem? (i := 660) (by decide +kernel)⟩
theorem lw_p24 : lw_okq (⟨"TabledStoreModel", "has", "(I)Z"⟩, 18) := ⟨⟨by decide +kernel, by decide +kernel⟩, List.mem_of_getElem? (i := 538) (by decide +kernel), List.mem_of_getElem? (i := 670) (by decide +kernel), List.mem_of_getElem? (i := 671) (by decide +kernel)⟩
theorem lw_p25 : lw_okq (⟨"TabledStoreModel", "sizeOf", "(I)I"⟩, 18) := ⟨⟨by decide +kernel, by decide +kernel⟩, List.mem_of_getElem? (i := 538) (by decide +kernel), List.mem_of_getElem? (i := 674) (by decide +kernel), List.mem_of_getElem? (i := 675) (by decide +kernel)⟩
theorem lw_p26 : lw_okq (⟨"TabledStoreModel", "hasBytes", "(I)Z"⟩, 18) := ⟨⟨by decide +kernel, by decide +kernel⟩, List.mem_of_getElem? (i := 538) (by decide +kernel), List.mem_of_getElem? (i := 678) (by decide +kernel), List.mem_of_getElem? (i := 679) (by decide +kernel)⟩
theorem lw_p27 : lw_okq (⟨"TabledStoreModel", "hasSlots", "(I)Z"⟩, 18) := ⟨⟨by decide +kernel, by decide +kernel⟩, List.mem_of_getElem? (i := 538) (by decide +kernel), List.mem_of_getElem? (i := 690) (by decide +kernel), List.mem_of_getElem? (i := 691) (by decide +kernel)⟩
theorem lw_p28 : lw_okq (⟨"TabledStoreModel", "cellAt", "(II)I"⟩, 18) := ⟨⟨by decide +kernel, by decide +kernel⟩, List.mem_of_getElem? (i := 538) (by decide +kernel), List.mem_of_getElem? (i := 694) (by decide +kernel), List.mem_of_getElem? (i := 695) (by decide +kernel)⟩
theorem lw_p29 : lw_okq (⟨"TabledStoreModel", "byteOf", "(II)I"⟩, 18) := ⟨⟨by decide +kernel, by decide +kernel⟩, List.mem_of_getElem? (i := 538) (by decide +kernel), List.mem_of_getElem? (i := 718) (by decide +kernel), List.mem_of_getElem? (i := 719) (by decide +kernel)⟩
theorem lw_p30 : lw_okq (⟨"TabledStoreModel", "setByte", "(III)V"⟩, 18) := ⟨⟨by decide +kernel, by decide +kernel⟩, List.mem_of_getElem? (i := 538) (by decide +kernel), List.mem_of_getElem? (i := 727) (by decide +kernel), List.mem_of_getElem? (i := 728) (by decide +kernel)⟩
theorem lw_p31 : lw_okq (⟨"TabledStoreModel", "nextOf", "(II)I"⟩, 18) := ⟨⟨by decide +kernel, by decide +kernel⟩, List.mem_of_getElem? (i := 538) (by decide +kernel), List.mem_of_getElem? (i := 763) (by decide +kernel), List.mem_of_getElem? (i := 764) (by decide +kernel)⟩
def lw_privs_2 : List (MethodName × Nat) := [(⟨"TabledStore$Memory", "seat", "(II)V"⟩, 11), (⟨"TabledStoreModel", "canMake", "(IZ)Z"⟩, 18), (⟨"TabledStoreModel", "reach", "()V"⟩, 18), (⟨"TabledStoreModel", "forget", "()V"⟩, 18), (⟨"TabledStoreModel", "meet", "(I)V"⟩, 18), (⟨"TabledStoreModel", "spread", "()V"⟩, 18), (⟨"TabledStoreModel", "giveBack", "()V"⟩, 18), (⟨"TabledStoreModel", "add", "(IIZ)I"⟩, 18), (⟨"TabledStoreModel", "has", "(I)Z"⟩, 18), (⟨"TabledStoreModel", "sizeOf", "(I)I"⟩, 18), (⟨"TabledStoreModel", "hasBytes", "(I)Z"⟩, 18), (⟨"TabledStoreModel", "hasSlots", "(I)Z"⟩, 18), (⟨"TabledStoreModel", "cellAt", "(II)I"⟩, 18), (⟨"TabledStoreModel", "byteOf", "(II)I"⟩, 18), (⟨"TabledStoreModel", "setByte", "(III)V"⟩, 18), (⟨"TabledStoreModel", "nextOf", "(II)I"⟩, 18)]
theorem lw_r2 : ∀ q ∈ lw_privs_2, lw_okq q := List.forall_mem_cons.mpr ⟨lw_p16, List.forall_mem_cons.mpr ⟨lw_p17, List.forall_mem_cons.mpr ⟨lw_p18, List.forall_mem_cons.mpr ⟨lw_p19, List.forall_mem_cons.mpr ⟨lw_p20, List.forall_mem_cons.mpr ⟨lw_p21, List.forall_mem_cons.mpr ⟨lw_p22, List.forall_mem_cons.mpr ⟨lw_p23, List.forall_mem_cons.mpr ⟨lw_p24, List.forall_mem_cons.mpr ⟨lw_p25, List.forall_mem_cons.mpr ⟨lw_p26, List.forall_mem_cons.mpr ⟨lw_p27, List.forall_mem_cons.mpr ⟨lw_p28, List.forall_mem_cons.mpr ⟨lw_p29, List.forall_mem_cons.mpr ⟨lw_p30, List.forall_mem_cons.mpr ⟨lw_p31, fun _ h => absurd h List.not_mem_nil⟩⟩⟩⟩⟩⟩⟩⟩⟩⟩⟩⟩⟩⟩⟩⟩
def lw_privs : List (MethodName × Nat) := lw_privs_1 ++ (lw_privs_2)
def lw_tbl : List Cond := k2_sels lw_privs ++ tables_1
theorem lw_privs_ok : ∀ q ∈ lw_privs, lw_okq q := by
  show ∀ q ∈ lw_privs_1 ++ (lw_privs_2), lw_okq q
  exact List.forall_mem_append.mpr ⟨lw_r1, lw_r2⟩
end
section
/-! ===== BEGIN words of one list among another's, by their places ===== -/
theorem goodIn_r {big : List Cond} (ws : List Cond) (ps : List Nat) (hp : ws = ps.filterMap (fun i => big[i]?)) (h : ws.all goodWord = true) : GoodIn big ws := by
  intro w hw
  have h1 := List.all_eq_true.mp h w hw
  rw [hp] at hw
  obtain ⟨i, -, hi⟩ := List.mem_filterMap.mp hw
  have hm : w ∈ big := by first | exact List.mem_of_getElem? hi | exact List.getElem?_mem hi
  exact ⟨hm, good_of_word h1⟩
theorem goodIn_app {big a b : List Cond} (ha : GoodIn big a) (hb : GoodIn big b) : GoodIn big (a ++ b) := fun w h => (List.mem_append.mp h).elim (ha w) (hb w)
theorem goodIn_ca {big a b : List Cond} {c : Cond} (ha : GoodIn big (c :: a)) (hb : GoodIn big b) : GoodIn big (c :: (a ++ b)) := fun w h => (List.mem_cons.mp h).elim (fun e => ha w (List.mem_cons.mpr (Or.inl e))) (fun h => (List.mem_append.mp h).elim (fun h => ha w (List.mem_cons.mpr (Or.inr h))) (hb w))
theorem goodIn_sub {big ws : List Cond} (hm : ∀ w ∈ ws, w ∈ big) (h : ws.all goodWord = true) : GoodIn big ws := fun w hw => ⟨hm w hw, good_of_word (List.all_eq_true.mp h w hw)⟩
/-! ===== END ===== -/

/-! ===== BEGIN exceptions that leave a method, and their catching by the caller (launches without stack traces) ===== -/
section VXA
/-! The laws vx_back, vx_callV, vx_callS, vx_callSW, vx_throw0, vx_throwS follow proofs of the library, with one case more: JvmDerived/Free/Laws.lean (Back.of_free), Shelf42/LK1.lean (callV, callS), Shelf/KitTraced.lean (throwNew0V, throwNewS). -/
/-- where a method has thrown q: the class by its name, the cell, what was written, the world -/
def vx_T (XC : String → State → State → Prop) (st : State) (q : Addr) (t : State) (mc ms : Nat) (free : Addr → Prop) : Prop :=
  ∃ (E : String) (ce : Cell) (L : List Loc), XC E st t ∧ t.heap[q]? = some ce ∧ ce.vm = .none ∧ st.vm.findClass E = some ce.cls ∧ st.WarmedH t.vm ∧ st.sameButNew ({ t with vm := st.vm } : State) L mc ms ∧ ∀ z ∈ L, free z.base
def vx_Q (Qc : Array Value → State → Outcome → State → Prop) (XC : String → State → State → Prop) (mc ms : Nat) (free : Addr → Prop) : Array Value → State → Outcome → State → Prop := fun a st o t =>
  (Qc a st o t ∧ ∃ L, FrameEnd st o t L mc ms ∧ ∀ q ∈ L, free q.base) ∨ ∃ q, o = .threw q ∧ vx_T XC st q t mc ms free
/-- a callee that returns or throws -/
def vx_Met (l : Launch) (y : MethodName) (ws : List Cond) (rm : Room) (Pc : Array Value → State → Prop) (Qc : Array Value → State → Outcome → State → Prop) (XC : String → State → State → Prop) (mc ms : Nat) (free : Addr → Prop) : Prop :=
  MetFree l y (headSpec ws rm) Pc (fun _ _ _ _ _ => True) (vx_Q Qc XC mc ms free)
def vx_Post (XC : String → State → State → Prop) (mc ms : Nat) (free : Addr → Prop) : Pt → Array Value → Addr → Pt → Prop := fun A a q B =>
  ∃ (g : JFrame) (mk : MethodId) (t : State) (L : List Loc) (E : String) (ce : Cell), B.U.heap = t.heap ∧ B.U.vm = t.vm ∧ XC E (A.U.calling g mk a) t ∧ t.heap[q]? = some ce ∧ ce.vm = .none ∧ A.U.vm.findClass E = some ce.cls ∧ B.locs = A.locs ++ L ∧ (∀ z ∈ L, free z.base) ∧ B.cells = A.cells + mc ∧ B.slots = A.slots + ms
def vx_Back (l : Launch) (R : Room) (p : Program) (e : Env) (below : List Frame) (s : State) (sargs : Array Value) (y : MethodName) (len W9 : Nat)
    (Pre : Pt → Array Value → Prop) (Post : Pt → Array Value → Option Value → Pt → Prop) (PostX : Pt → Array Value → Addr → Pt → Prop) : Prop :=
  ∀ (m : MethodId) (meth : Method) (c : Code) (A : Pt) (g : JFrame) (ig : Instr) (mk : MethodId) (a : Array Value),
    Stand p l e R s m sargs below meth c A.U A.locs A.cells A.slots → g.method = m → g.locals.size = c.maxLocals → decode c.code g.pc = .ok (ig, len) →
    2 * g.monitorRoom + (g.stack.map fun v => v.category).sum ≤ W9 → A.U.methodNamed? y = some mk → Pre A a →
    (∃ (v : Option Value) (B : Pt), Stand p l e R s m sargs below meth c B.U B.locs B.cells B.slots ∧ Post A a v B ∧
      Steps p.tables e below (doInvoke e (A.U.setTop g) [] mk a).1 (B.U.setTop { g with pc := g.pc + len, stack := v.toList ++ g.stack })) ∨
    (∃ (q : Addr) (B : Pt), Stand p l e R s m sargs below meth c B.U B.locs B.cells B.slots ∧ PostX A a q B ∧
      Steps p.tables e below (doInvoke e (A.U.setTop g) [] mk a).1 ((B.U.setTop g).pushFrame (.throwing q)))
section Payer
variable {l : Launch} {R : Room} {p : Program} {e : Env} {below : List Frame} {s : State} {sargs : Array Value} {y : MethodName} {len W9 : Nat}
theorem vx_back {ws : List Cond} {rm : Room} {Pc : Array Value → State → Prop} {Qc : Array Value → State → Outcome → State → Prop} {XC : String → State → State → Prop} {mc ms : Nat} {free : Addr → Prop} {bytes : ByteArray} {maxL : Nat} {ret : Option FieldType}
    (hM : vx_Met l y ws rm Pc Qc XC mc ms free) (hblind : FrameBlind Pc) (hrc : rm.cells = mc) (hrs : rm.slots = ms)
    (hframes : rm.frames + 1 ≤ R.frames) (hlocals : W9 + (maxL + 11) + rm.locals ≤ R.locals)
    (hws : ∀ w ∈ ws, ∀ a' U, s.WarmedH U.vm → w.before a' U = true) (hcode : Cond.code y bytes maxL ret ∈ ws) (hinit : ∀ a' U, s.WarmedH U.vm → (Cond.initialized y.cls).before a' U = true) :
    vx_Back l R p e below s sargs y len W9 (PreOf R mc ms Pc) (PostOf Qc mc ms free) (vx_Post XC mc ms free) := by
  intro m meth c A g ig mk a X hg hsize hdg hW hn hp
  have h1 : (headSpec ws rm).pre.before a A.U = true := atoms_intro fun w hw => hws w hw _ _ X.warmed
  have h2 : (Cond.code y bytes maxL ret).before a A.U = true := hws _ hcode _ _ X.warmed
  have h3 : (Cond.initialized y.cls).before a A.U = true := hinit _ _ X.warmed
  have h4 : A.cells + (headSpec ws rm).room.cells ≤ R.cells := by rw [show (headSpec ws rm).room.cells = mc from hrc]; exact hp.1
  have h5 : A.slots + (headSpec ws rm).room.slots ≤ R.slots := by rw [show (headSpec ws rm).room.slots = ms from hrs]; exact hp.2.1
  have hPc : Pc a (A.U.calling g mk a) := hblind _ _ _ _ hp.2.2
  obtain ⟨U, Ls, c0, s0⟩ := A
  dsimp only [Pt.U, Pt.locs, Pt.cells, Pt.slots] at h1 h2 h3 h4 h5 X hn hPc ⊢
  obtain ⟨methY, cY, hmY, hcY, -, hlY, -, -, -, -⟩ := Cond.code_spec hn h2
  obtain ⟨kY, hkY, -⟩ := className_of_methodNamed hn
  have hinitY : kY.init = .initialized := Cond.initialized_spec (findClass_of_methodNamed hn) hkY h3
  have h : At U g.method c below := by rw [hg]; exact X.here
  have hlocals9 : W9 + (maxL + 11) + (headSpec ws rm).room.locals ≤ R.locals := hlocals
  have happ : (headSpec ws rm).appliesLoose y e.platform (U.calling g mk a) = true :=
    Spec.appliesLoose_calling (g := g) h hdg hn hkY hinitY
      (X.room_calling (g := g) (R' := (headSpec ws rm).room) hsize hmY hcY hframes (by rw [hlY]; omega) h4 h5) h1
  obtain ⟨mid, hmid⟩ := h.above
  have hfr : (U.setTop g).frames = (.java g :: mid) ++ below := by rw [State.frames_setTop' g h.top, hmid]; rfl
  obtain ⟨o, s₂, hsteps, -, hend, hq⟩ := Steps.callFree hM p X.admits X.cas X.clock (acts := []) hfr happ hPc trivial
  have hq' : vx_Q Qc XC mc ms free a (U.calling g mk a) o s₂ := hq
  rw [State.frames_setTop' g h.top] at hend
  obtain ⟨g₀, hg0⟩ := Option.isSome_iff_exists.mp h.top
  obtain ⟨r, hr⟩ := State.topJava?_eq_some.mp hg0
  have hr' : (({ U with heap := s₂.heap, slotsUsed := s₂.slotsUsed } : State).setVm s₂.vm).frames = .java g₀ :: r := hr
  rcases hq' with ⟨hqc, L, hfe, hL⟩ | ⟨q, rfl, E, ce, L, hx, hce, hcv, hcl, hW₂, hsm, hL⟩
  · obtain ⟨⟨v, rfl⟩, hW₂, e2, q2, q3, q4, q5, q6⟩ := id hfe
    have e3 : s₂ = ({ (U.calling g mk a).setFrames s₂.frames with heap := s₂.heap, slotsUsed := s₂.slotsUsed } : State).setVm s₂.vm := by
      have : s₂ = ({ s₂ with vm := (U.calling g mk a).vm } : State).setVm s₂.vm := rfl
      rw [e2] at this
      exact this
    obtain ⟨c₂, i₂, len₂, hc₂, hd₂, hf₂⟩ := hend
    have hW' : U.WarmedH s₂.vm := hW₂
    have hcc : c₂ = c := by
      have h1 : s₂.code? g.method = U.code? g.method := by
        rw [State.code?_eq, State.code?_eq, hW'.alike.method?]
      exact Option.some.inj (hc₂.symm.trans (h1.trans h.code))
    subst hcc
    have hlen : len₂ = len := by rw [hdg] at hd₂; cases hd₂; rfl
    subst hlen
    have hs₂ : s₂ = (({ U with heap := s₂.heap, slotsUsed := s₂.slotsUsed } : State).setVm s₂.vm).setTop { g with pc := g.pc + len₂, stack := v.toList ++ g.stack } := by
      refine e3.trans ?_
      rw [hf₂, State.calling_eq h.top, State.setFrames_setFrames, State.setTop_of_frames _ hr', hr]
      rfl
    have hsame : U.sameButNew ({ U with heap := s₂.heap, slotsUsed := s₂.slotsUsed } : State) L mc ms := by
      refine ⟨?_, q2, q3, q4, q5, q6⟩
      obtain ⟨t, ht, -⟩ := State.frames_cons hr
      show ({ U with heap := s₂.heap, slotsUsed := s₂.slotsUsed } : State) = { U.setFrames U.frames with heap := s₂.heap, slotsUsed := s₂.slotsUsed }
      rw [State.setFrames_self ht]
    subst hg
    refine Or.inl ⟨v, ⟨(({ U with heap := s₂.heap, slotsUsed := s₂.slotsUsed } : State).setVm s₂.vm), Ls ++ L, c0 + mc, s0 + ms⟩,
      ⟨X.admits, X.cas, X.clock, X.frames, X.room, X.hears, X.method, X.code, (X.here.setHeapUsed s₂.heap s₂.slotsUsed).setVm hW'.alike, X.tail, State.WarmedH.trans X.warmed hW', X.limits, X.bytes, X.same.trans (hsame.setVm s.vm)⟩,
      ⟨g, mk, s₂, L, rfl, rfl, hqc, rfl, hL, rfl, rfl⟩, ?_⟩
    show Steps p.tables e below _ ((({ U with heap := s₂.heap, slotsUsed := s₂.slotsUsed } : State).setVm s₂.vm).setTop { g with pc := g.pc + len₂, stack := v.toList ++ g.stack })
    rw [← hs₂]
    exact hsteps
  · obtain ⟨e2, q2, q3, q4, q5, q6⟩ := id hsm
    have e3 : s₂ = ({ (U.calling g mk a).setFrames s₂.frames with heap := s₂.heap, slotsUsed := s₂.slotsUsed } : State).setVm s₂.vm := by
      have : s₂ = ({ s₂ with vm := (U.calling g mk a).vm } : State).setVm s₂.vm := rfl
      rw [e2] at this
      exact this
    have hf₂ : s₂.frames = .throwing q :: .java g :: U.frames.tail := hend
    have hW' : U.WarmedH s₂.vm := hW₂
    have hs₂ : s₂ = ((({ U with heap := s₂.heap, slotsUsed := s₂.slotsUsed } : State).setVm s₂.vm).setTop g).pushFrame (.throwing q) := by
      refine e3.trans ?_
      rw [hf₂, State.calling_eq h.top, State.setFrames_setFrames, State.pushFrame, State.frames_setTop _ hr', State.setTop_of_frames _ hr', State.setFrames_setFrames, hr]
      rfl
    have hsame : U.sameButNew ({ U with heap := s₂.heap, slotsUsed := s₂.slotsUsed } : State) L mc ms := by
      refine ⟨?_, q2, q3, q4, q5, q6⟩
      obtain ⟨t, ht, -⟩ := State.frames_cons hr
      show ({ U with heap := s₂.heap, slotsUsed := s₂.slotsUsed } : State) = { U.setFrames U.frames with heap := s₂.heap, slotsUsed := s₂.slotsUsed }
      rw [State.setFrames_self ht]
    subst hg
    refine Or.inr ⟨q, ⟨(({ U with heap := s₂.heap, slotsUsed := s₂.slotsUsed } : State).setVm s₂.vm), Ls ++ L, c0 + mc, s0 + ms⟩,
      ⟨X.admits, X.cas, X.clock, X.frames, X.room, X.hears, X.method, X.code, (X.here.setHeapUsed s₂.heap s₂.slotsUsed).setVm hW'.alike, X.tail, State.WarmedH.trans X.warmed hW', X.limits, X.bytes, X.same.trans (hsame.setVm s.vm)⟩,
      ⟨g, mk, s₂, L, E, ce, rfl, rfl, hx, hce, hcv, hcl, rfl, hL, rfl, rfl⟩, ?_⟩
    show Steps p.tables e below _ (((({ U with heap := s₂.heap, slotsUsed := s₂.slotsUsed } : State).setVm s₂.vm).setTop g).pushFrame (.throwing q))
    rw [← hs₂]
    exact hsteps
end Payer
section Calls
variable {p : Program} {l : Launch} {e : Env} {R : Room} {s : State} {m : MethodId} {args : Array Value} {below : List Frame} {meth : Method} {c : Code} {T : State} {locs : List Loc} {cells slots : Nat}
theorem vx_callV (X : Stand p l e R s m args below meth c T locs cells slots) (hexec : p.tables.exec = Jvm.exec) {own C : String} {index : Nat} {y : MethodName} {bytes : ByteArray} {maxL : Nat} {ret : Option FieldType}
    (hown : s.vm.findClass own = some m.cls) (hlink : (Cond.methodLink own index y).before args s = true) (hinst : (Cond.instanceMethod y).before args s = true) (hsel : (Cond.selects C y y).before args s = true)
    (hcode : (Cond.code y bytes maxL ret).before args s = true) (hy : y.cls ≠ "java/lang/invoke/MethodHandle" ∧ y.cls ≠ "java/lang/invoke/VarHandle")
    {W9 : Nat} {Pre : Pt → Array Value → Prop} {Post : Pt → Array Value → Option Value → Pt → Prop} {PostX : Pt → Array Value → Addr → Pt → Prop} (hK : vx_Back l R p e below s args y 3 W9 Pre Post PostX)
    {b : Addr} {cellB : Cell} (hcell : T.heap[b]? = some cellB) (hobj : cellB.vm.isStatics = false) (hcls : s.vm.findClass C = some cellB.cls)
    {g : JFrame} (hg : g.method = m) (hsize : g.locals.size = c.maxLocals) {argsL rest : List Value} (hlen : ∀ sig, parseMethodDescriptor y.desc = some sig → argsL.length = sig.parameters.length)
    (hstack : g.stack = argsL.reverse ++ .ref b :: rest) (hW : 2 * g.monitorRoom + (rest.map fun v => v.category).sum ≤ W9) (hdg : decode c.code g.pc = .ok (.invokevirtual index, 3))
    (hpre : ∀ vm₁, s.WarmedH vm₁ → Pre ⟨T.setVm vm₁, locs, cells, slots⟩ (Value.ref b :: argsL).toArray) :
    (∃ (v : Option Value) (vm₁ : Vm) (B : Pt), s.WarmedH vm₁ ∧ Stand p l e R s m args below meth c B.U B.locs B.cells B.slots ∧ Post ⟨T.setVm vm₁, locs, cells, slots⟩ (Value.ref b :: argsL).toArray v B ∧
      ∀ target, Steps p.tables e below (B.U.setTop { g with pc := g.pc + 3, stack := v.toList ++ rest }) target → Steps p.tables e below (T.setTop g) target) ∨
    (∃ (q : Addr) (vm₁ : Vm) (B : Pt), s.WarmedH vm₁ ∧ Stand p l e R s m args below meth c B.U B.locs B.cells B.slots ∧ PostX ⟨T.setVm vm₁, locs, cells, slots⟩ (Value.ref b :: argsL).toArray q B ∧
      Steps p.tables e below (T.setTop g) ((B.U.setTop { g with stack := rest }).pushFrame (.throwing q))) := by
  obtain ⟨mk, methM, hnamed, hmethM, hstM, habM⟩ := Cond.instanceMethod_spec hinst
  obtain ⟨methM', cM, hmethM', -, -, -, -, -, -, hsigM⟩ := Cond.code_spec hnamed hcode
  cases hmethM.symm.trans hmethM'
  obtain ⟨c2, r2, m2, q1, q2, q3, q4, kP, hkP, hkPi⟩ := Cond.selects_spec hsel
  cases hcls.symm.trans q1
  cases (State.methodFound?_of_named hnamed hy).symm.trans q2
  cases hnamed.symm.trans q3
  have hselP : selectMethod e.platform s.vm cellB.cls mk = .method mk := by rw [Launch.admits_selectMethod X.admits]; exact q4
  obtain ⟨vm₁, X₁, hstep₁⟩ := X.invokevirtual hexec hown hlink hnamed hmethM hstM hkP hkPi hy (a := b) (cell := cellB) hcell
    (fun z h => by rw [h] at hobj; cases hobj) hselP hmethM habM hkP hkPi (g := g) hg (argsL := argsL) (rest := rest) (hlen _ hsigM) hstack hdg
  rcases hK m meth c ⟨T.setVm vm₁, locs, cells, slots⟩ { g with stack := rest } (.invokevirtual index) mk (Value.ref b :: argsL).toArray X₁ hg hsize hdg hW (X₁.named hnamed) (hpre vm₁ X₁.warmed) with ⟨v, B, X', hpost, hsteps⟩ | ⟨q, B, X', hpost, hsteps⟩
  · exact Or.inl ⟨v, vm₁, B, X₁.warmed, X', hpost, fun target h => hstep₁ _ fun acts => by rw [doInvoke_state]; exact hsteps.trans h⟩
  · exact Or.inr ⟨q, vm₁, B, X₁.warmed, X', hpost, hstep₁ _ fun acts => by rw [doInvoke_state]; exact hsteps⟩
theorem vx_callS (X : Stand p l e R s m args below meth c T locs cells slots) (hexec : p.tables.exec = Jvm.exec) {own : String} {index : Nat} {y : MethodName} {bytes : ByteArray} {maxL : Nat} {ret : Option FieldType}
    (hown : s.vm.findClass own = some m.cls) (hlink : (Cond.methodLink own index y).before args s = true) (hstat : (Cond.static y).before args s = true) (hinit : (Cond.initialized y.cls).before args s = true)
    (hcode : (Cond.code y bytes maxL ret).before args s = true) (hy : y.cls ≠ "java/lang/invoke/MethodHandle" ∧ y.cls ≠ "java/lang/invoke/VarHandle")
    {W9 : Nat} {Pre : Pt → Array Value → Prop} {Post : Pt → Array Value → Option Value → Pt → Prop} {PostX : Pt → Array Value → Addr → Pt → Prop} (hK : vx_Back l R p e below s args y 3 W9 Pre Post PostX)
    {g : JFrame} (hg : g.method = m) (hsize : g.locals.size = c.maxLocals) {argsL rest : List Value} (hlen : ∀ sig, parseMethodDescriptor y.desc = some sig → argsL.length = sig.parameters.length)
    (hstack : g.stack = argsL.reverse ++ rest) (hW : 2 * g.monitorRoom + (rest.map fun v => v.category).sum ≤ W9) (hdg : decode c.code g.pc = .ok (.invokestatic index, 3))
    (hpre : ∀ vm₁, s.WarmedH vm₁ → Pre ⟨T.setVm vm₁, locs, cells, slots⟩ argsL.toArray) :
    (∃ (v : Option Value) (vm₁ : Vm) (B : Pt), s.WarmedH vm₁ ∧ Stand p l e R s m args below meth c B.U B.locs B.cells B.slots ∧ Post ⟨T.setVm vm₁, locs, cells, slots⟩ argsL.toArray v B ∧
      ∀ target, Steps p.tables e below (B.U.setTop { g with pc := g.pc + 3, stack := v.toList ++ rest }) target → Steps p.tables e below (T.setTop g) target) ∨
    (∃ (q : Addr) (vm₁ : Vm) (B : Pt), s.WarmedH vm₁ ∧ Stand p l e R s m args below meth c B.U B.locs B.cells B.slots ∧ PostX ⟨T.setVm vm₁, locs, cells, slots⟩ argsL.toArray q B ∧
      Steps p.tables e below (T.setTop g) ((B.U.setTop { g with stack := rest }).pushFrame (.throwing q))) := by
  obtain ⟨mk, hnamed⟩ := Cond.code_named hcode
  obtain ⟨methM, cM, hmethM, -, -, -, -, -, -, hsigM⟩ := Cond.code_spec hnamed hcode
  have hstatic : methM.isStatic = true := Cond.static_spec hnamed hmethM hstat
  obtain ⟨kP, hkP, -⟩ := className_of_methodNamed hnamed
  have hinitP : kP.init = .initialized := Cond.initialized_spec (findClass_of_methodNamed hnamed) hkP hinit
  obtain ⟨vm₁, X₁, hstep₁⟩ := X.invokestatic hexec hown hlink hnamed hmethM hstatic hkP hinitP hy (g := g) hg (argsL := argsL) (rest := rest) (hlen _ hsigM) hstack hdg
  rcases hK m meth c ⟨T.setVm vm₁, locs, cells, slots⟩ { g with stack := rest } (.invokestatic index) mk argsL.toArray X₁ hg hsize hdg hW (X₁.named hnamed) (hpre vm₁ X₁.warmed) with ⟨v, B, X', hpost, hsteps⟩ | ⟨q, B, X', hpost, hsteps⟩
  · exact Or.inl ⟨v, vm₁, B, X₁.warmed, X', hpost, fun target h => hstep₁ _ fun acts => by rw [doInvoke_state]; exact hsteps.trans h⟩
  · exact Or.inr ⟨q, vm₁, B, X₁.warmed, X', hpost, hstep₁ _ fun acts => by rw [doInvoke_state]; exact hsteps⟩
end Calls
theorem vx_cls {s : State} {T : State} {vm₁ : Vm} {E : String} {k : ClassId} (hW : s.WarmedH vm₁) (h : (T.setVm vm₁).vm.findClass E = some k) : s.vm.findClass E = some k := by
  have h1 : vm₁.findClass E = some k := h
  rw [hW.alike.findClass] at h1
  exact h1
/-- the method's frame g, with q thrown over it -/
def vx_W (p : Program) (l : Launch) (e : Env) (R : Room) (s : State) (m : MethodId) (args : Array Value) (below : List Frame) (meth : Method) (c : Code) (H : Heap) (locs : List Loc) (cells slots : Nat) (Q : State → Prop) (g : JFrame) (q : Addr) : Prop :=
  ∀ T : State, T.heap = H → Stand p l e R s m args below meth c T locs cells slots → ∃ t, Steps p.tables e below ((T.setTop g).pushFrame (.throwing q)) t ∧ Q t
def vx_Run (p : Program) (l : Launch) (e : Env) (R : Room) (s : State) (m : MethodId) (args : Array Value) (below : List Frame) (meth : Method) (c : Code) (H : Heap) (locs : List Loc) (cells slots mc ms : Nat) (g : JFrame) (rest : List Value) (Qa : State → Outcome → State → Prop) (XC : String → State → State → Prop) (free : Addr → Prop) : Prop :=
  ∀ T : State, T.heap = H → Stand p l e R s m args below meth c T locs cells slots →
    (∃ (v : Option Value) (st₀ t T' : State) (L : List Loc), st₀.heap = H ∧ Stand p l e R s m args below meth c T' (locs ++ L) (cells + mc) (slots + ms) ∧ (∀ q ∈ L, free q.base) ∧ T'.heap = t.heap ∧ T'.vm = t.vm ∧ Qa st₀ (.returned v) t ∧
      Goes p e below T g T' { g with pc := g.pc + 3, stack := v.toList ++ rest }) ∨
    (∃ (q : Addr) (st₀ t T' : State) (L : List Loc) (E : String) (ce : Cell), st₀.heap = H ∧ Stand p l e R s m args below meth c T' (locs ++ L) (cells + mc) (slots + ms) ∧ (∀ z ∈ L, free z.base) ∧ T'.heap = t.heap ∧ T'.vm = t.vm ∧ XC E st₀ t ∧ t.heap[q]? = some ce ∧ ce.vm = .none ∧ s.vm.findClass E = some ce.cls ∧
      Steps p.tables e below (T.setTop g) ((T'.setTop { g with stack := rest }).pushFrame (.throwing q)))
def vx_X {S : Type} (px : S → Prop) (B : String → S → State → Prop) (A : Nat → Prop) : String → State → State → Prop := fun E st t => ∃ u : S, px u ∧ B E u t ∧ va_F A st t
section Runs
variable {p : Program} {l : Launch} {e : Env} {R : Room} {s : State} {m : MethodId} {args : Array Value} {below : List Frame} {meth : Method} {c : Code} {H : Heap} {locs : List Loc} {cells slots : Nat}
variable {y : MethodName} {bytes cc : ByteArray} {maxL nL mc ms n index : Nat} {ret : Option FieldType} {ws : List Cond} {rm : Room} {Pc : Array Value → State → Prop} {Qc : Array Value → State → Outcome → State → Prop} {XC : String → State → State → Prop} {free : Addr → Prop} {Ts : List Cond} {own C : String} {b : Addr} {As rest : List Value} {g : JFrame}
theorem vx_callBack (cb : CallB R s args own index y bytes maxL ret ws rm mc ms n) (hM : vx_Met l y ws rm Pc Qc XC mc ms free) (hbl : FrameBlind Pc) : vx_Back l R p e below s args y 3 8 (PreOf R mc ms Pc) (PostOf Qc mc ms free) (vx_Post XC mc ms free) := by
  obtain ⟨hrc, hrs, hfr, hlo, hws, hcw, -, hini, -⟩ := cb
  exact vx_back (bytes := bytes) (maxL := maxL) (ret := ret) hM hbl hrc hrs hfr hlo hws hcw (fun a' U hW => word_at hW (Or.inl (by first | rfl | simp [Cond.onTables, Cond.keeps, Cond.steady])) hini)
theorem vx_runV (S : CallFix p m c cc nL s args Ts own) (hM : vx_Met l y ws rm Pc Qc XC mc ms free) (cw : CallW R s args own C index y bytes maxL ret ws rm mc ms n) (hp : PreV s H C b Pc As)
    (hg : g.method = m) (hn : As.length = n) (hsize : g.locals.size = nL) (hstack : g.stack = As.reverse ++ .ref b :: rest) (hW : 2 * g.monitorRoom + (rest.map fun v => v.category).sum ≤ 8) (hdg : decode cc g.pc = .ok (.invokevirtual index, 3)) (hf : cells + mc ≤ R.cells ∧ slots + ms ≤ R.slots) :
    vx_Run p l e R s m args below meth c H locs cells slots mc ms g rest (Qc (Value.ref b :: As).toArray) XC free := by
  have hK : vx_Back l R p e below s args y 3 8 (PreOf R mc ms Pc) (PostOf Qc mc ms free) (vx_Post XC mc ms free) := vx_callBack cw.1 hM hp.1
  obtain ⟨⟨-, -, -, -, -, -, hcode, -, hy, hlen, hl⟩, hin, hse⟩ := cw
  obtain ⟨hx, hb, hml, ho, -⟩ := S
  obtain ⟨-, ⟨cellB, hcB, hoB, hclB⟩, hPc⟩ := hp
  intro T hT X
  rcases vx_callV X hx (C := C) (bytes := bytes) (maxL := maxL) (ret := ret) ho hl hin hse hcode hy hK (by rw [hT]; exact hcB) hoB hclB hg (hsize.trans hml.symm) (argsL := As) (rest := rest) (fun sig h => hn.trans (hlen sig h)) hstack hW (by rw [hb]; exact hdg)
    (fun vm₁ hW₁ => ⟨hf.1, hf.2, hPc (T.setVm vm₁) hT hW₁⟩) with ⟨v, vm₁, ⟨U', l2, c2, s2⟩, hW₁, X', ⟨g', mk, t, L, e1, e2, hq, h1, hL, h2, h3⟩, st⟩ | ⟨q, vm₁, ⟨U', l2, c2, s2⟩, hW₁, X', ⟨g', mk, t, L, E, ce, e1, e2, hq, hce, hcv, hcl, h1, hL, h2, h3⟩, st⟩
  · dsimp only [Pt.U, Pt.locs, Pt.cells, Pt.slots] at X' e1 e2 h1 h2 h3 st
    subst h1; subst h2; subst h3
    exact Or.inl ⟨v, (T.setVm vm₁).calling g' mk (Value.ref b :: As).toArray, t, U', L, hT, X', hL, e1, e2, hq, st⟩
  · dsimp only [Pt.U, Pt.locs, Pt.cells, Pt.slots] at X' e1 e2 h1 h2 h3 st hcl
    subst h1; subst h2; subst h3
    exact Or.inr ⟨q, (T.setVm vm₁).calling g' mk (Value.ref b :: As).toArray, t, U', L, E, ce, hT, X', hL, e1, e2, hq, hce, hcv, vx_cls hW₁ hcl, st⟩
theorem vx_runS (S : CallFix p m c cc nL s args Ts own) (hM : vx_Met l y ws rm Pc Qc XC mc ms free) (cw : CallB R s args own index y bytes maxL ret ws rm mc ms n ∧ (Cond.static y).before args s = true) (hp : PreS s H Pc As)
    (hg : g.method = m) (hn : As.length = n) (hsize : g.locals.size = nL) (hstack : g.stack = As.reverse ++ rest) (hW : 2 * g.monitorRoom + (rest.map fun v => v.category).sum ≤ 8) (hdg : decode cc g.pc = .ok (.invokestatic index, 3)) (hf : cells + mc ≤ R.cells ∧ slots + ms ≤ R.slots) :
    vx_Run p l e R s m args below meth c H locs cells slots mc ms g rest (Qc As.toArray) XC free := by
  have hK : vx_Back l R p e below s args y 3 8 (PreOf R mc ms Pc) (PostOf Qc mc ms free) (vx_Post XC mc ms free) := vx_callBack cw.1 hM hp.1
  obtain ⟨⟨-, -, -, -, -, -, hcode, hini, hy, hlen, hl⟩, hstt⟩ := cw
  obtain ⟨hx, hb, hml, ho, -⟩ := S
  intro T hT X
  rcases vx_callS X hx (bytes := bytes) (maxL := maxL) (ret := ret) ho hl hstt hini hcode hy hK hg (hsize.trans hml.symm) (argsL := As) (rest := rest) (fun sig h => hn.trans (hlen sig h)) hstack hW (by rw [hb]; exact hdg)
    (fun vm₁ hW₁ => ⟨hf.1, hf.2, hp.2 (T.setVm vm₁) hT hW₁⟩) with ⟨v, vm₁, ⟨U', l2, c2, s2⟩, hW₁, X', ⟨g', mk, t, L, e1, e2, hq, h1, hL, h2, h3⟩, st⟩ | ⟨q, vm₁, ⟨U', l2, c2, s2⟩, hW₁, X', ⟨g', mk, t, L, E, ce, e1, e2, hq, hce, hcv, hcl, h1, hL, h2, h3⟩, st⟩
  · dsimp only [Pt.U, Pt.locs, Pt.cells, Pt.slots] at X' e1 e2 h1 h2 h3 st
    subst h1; subst h2; subst h3
    exact Or.inl ⟨v, (T.setVm vm₁).calling g' mk As.toArray, t, U', L, hT, X', hL, e1, e2, hq, st⟩
  · dsimp only [Pt.U, Pt.locs, Pt.cells, Pt.slots] at X' e1 e2 h1 h2 h3 st hcl
    subst h1; subst h2; subst h3
    exact Or.inr ⟨q, (T.setVm vm₁).calling g' mk As.toArray, t, U', L, E, ce, hT, X', hL, e1, e2, hq, hce, hcv, vx_cls hW₁ hcl, st⟩
end Runs
section Rows
variable {p : Program} {l : Launch} {e : Env} {R : Room} {s : State} {m : MethodId} {args : Array Value} {below : List Frame} {meth : Method} {c : Code} {H : Heap} {locs : List Loc} {cells slots : Nat} {Q : State → Prop}
variable {mc ms : Nat} {free : Addr → Prop} {A0 A1 : Nat → Prop} {H0 : Heap} {a : Array Value} {pc : Nat} {ls : Array Slot} {st0 rest : List Value}
theorem vx_keep {st₀ t T' : State} {L : List Loc} (h0 : st₀.heap = H) (e1 : T'.heap = t.heap) (hS : va_S A0 H0 H locs) (hA : ∀ q, q < H.size → A1 q → A0 q) (hf : ∀ q, free q → A0 q) (hL : ∀ q ∈ L, free q.base) (hF : va_F A1 st₀ t) :
    H.size ≤ T'.heap.size ∧ (∀ q : Nat, q < H.size → ¬ A1 q → T'.heap[q]? = H[q]?) ∧ va_S A0 H0 T'.heap (locs ++ L) := by
  obtain ⟨hz, hk⟩ := hF
  rw [h0] at hz hk
  exact ⟨by rw [e1]; exact hz, fun q h1 h2 => by rw [e1]; exact hk q h1 h2,
    ⟨Nat.le_trans hS.1 (by rw [e1]; exact hz), fun q h1 h2 => by rw [e1, hk q (Nat.lt_of_lt_of_le h1 hS.1) (fun z => h2 (hA q (Nat.lt_of_lt_of_le h1 hS.1) z))]; exact hS.2.1 q h1 h2, fun q hq => by
      rcases List.mem_append.mp hq with h | h
      · exact hS.2.2 q h
      · exact hf _ (hL q h)⟩⟩
theorem vx_calli {S SX : Type} {post : Int32 → S → Prop} {px : SX → Prop} {B : S → State → Prop} {BX : String → SX → State → Prop} {AX : Nat → Prop} (hr : vx_Run p l e R s m args below meth c H locs cells slots mc ms (F0 m pc ls st0) rest (va_Qi post B A1 a) (vx_X px BX AX) free) (hS : va_S A0 H0 H locs) (hA : ∀ q, q < H.size → A1 q → A0 q) (hf : ∀ q, free q → A0 q) (hAX : ∀ q, q < H.size → AX q → A0 q)
    (kx : ∀ (E : String) (ce : Cell) (q9 : Addr) (u : SX) (t : State) (H1 : Heap) (locs1 : List Loc), t.heap = H1 → s.vm.Alike t.vm → px u → BX E u t → H.size ≤ H1.size → (∀ q : Nat, q < H.size → ¬ AX q → H1[q]? = H[q]?) → va_S A0 H0 H1 locs1 → H1[q9]? = some ce → ce.vm = .none → s.vm.findClass E = some ce.cls → vx_W p l e R s m args below meth c H1 locs1 (cells + mc) (slots + ms) Q (F0 m pc ls rest) q9)
    (kk : ∀ (r : Int32) (u : S) (t : State) (H1 : Heap) (locs1 : List Loc), t.heap = H1 → s.vm.Alike t.vm → post r u → B u t → H.size ≤ H1.size → (∀ q : Nat, q < H.size → ¬ A1 q → H1[q]? = H[q]?) → va_S A0 H0 H1 locs1 → W p l e R s m args below meth c H1 locs1 (cells + mc) (slots + ms) Q (F0 m (pc + 3) ls (.int r :: rest))) : W p l e R s m args below meth c H locs cells slots Q (F0 m pc ls st0) := by
  intro T hT X
  rcases hr T hT X with ⟨v, st₀, t, T', L, h0, X', hL, e1, e2, ⟨⟨r, u, hv, hp, hb⟩, hF⟩, st⟩ | ⟨q, st₀, t, T', L, E, ce, h0, X', hL, e1, e2, ⟨u, hp, hb, hF⟩, hce, hcv, hcl, st⟩
  · cases hv
    obtain ⟨k1, k2, k3⟩ := vx_keep h0 e1 hS hA hf hL hF
    obtain ⟨t2, a1, b1⟩ := kk r u t T'.heap (locs ++ L) e1.symm (by rw [← e2]; exact X'.warmed.alike) hp hb k1 k2 k3 T' rfl X'
    exact ⟨t2, st t2 a1, b1⟩
  · obtain ⟨k1, k2, k3⟩ := vx_keep h0 e1 hS hAX hf hL hF
    obtain ⟨t2, a1, b1⟩ := kx E ce q u t T'.heap (locs ++ L) e1.symm (by rw [← e2]; exact X'.warmed.alike) hp hb k1 k2 k3 (by rw [e1]; exact hce) hcv hcl T' rfl X'
    exact ⟨t2, st.trans a1, b1⟩
theorem vx_calll {S SX : Type} {post : Int64 → S → Prop} {px : SX → Prop} {B : S → State → Prop} {BX : String → SX → State → Prop} {AX : Nat → Prop} (hr : vx_Run p l e R s m args below meth c H locs cells slots mc ms (F0 m pc ls st0) rest (va_Ql post B A1 a) (vx_X px BX AX) free) (hS : va_S A0 H0 H locs) (hA : ∀ q, q < H.size → A1 q → A0 q) (hf : ∀ q, free q → A0 q) (hAX : ∀ q, q < H.size → AX q → A0 q)
    (kx : ∀ (E : String) (ce : Cell) (q9 : Addr) (u : SX) (t : State) (H1 : Heap) (locs1 : List Loc), t.heap = H1 → s.vm.Alike t.vm → px u → BX E u t → H.size ≤ H1.size → (∀ q : Nat, q < H.size → ¬ AX q → H1[q]? = H[q]?) → va_S A0 H0 H1 locs1 → H1[q9]? = some ce → ce.vm = .none → s.vm.findClass E = some ce.cls → vx_W p l e R s m args below meth c H1 locs1 (cells + mc) (slots + ms) Q (F0 m pc ls rest) q9)
    (kk : ∀ (r : Int64) (u : S) (t : State) (H1 : Heap) (locs1 : List Loc), t.heap = H1 → s.vm.Alike t.vm → post r u → B u t → H.size ≤ H1.size → (∀ q : Nat, q < H.size → ¬ A1 q → H1[q]? = H[q]?) → va_S A0 H0 H1 locs1 → W p l e R s m args below meth c H1 locs1 (cells + mc) (slots + ms) Q (F0 m (pc + 3) ls (.long r :: rest))) : W p l e R s m args below meth c H locs cells slots Q (F0 m pc ls st0) := by
  intro T hT X
  rcases hr T hT X with ⟨v, st₀, t, T', L, h0, X', hL, e1, e2, ⟨⟨r, u, hv, hp, hb⟩, hF⟩, st⟩ | ⟨q, st₀, t, T', L, E, ce, h0, X', hL, e1, e2, ⟨u, hp, hb, hF⟩, hce, hcv, hcl, st⟩
  · cases hv
    obtain ⟨k1, k2, k3⟩ := vx_keep h0 e1 hS hA hf hL hF
    obtain ⟨t2, a1, b1⟩ := kk r u t T'.heap (locs ++ L) e1.symm (by rw [← e2]; exact X'.warmed.alike) hp hb k1 k2 k3 T' rfl X'
    exact ⟨t2, st t2 a1, b1⟩
  · obtain ⟨k1, k2, k3⟩ := vx_keep h0 e1 hS hAX hf hL hF
    obtain ⟨t2, a1, b1⟩ := kx E ce q u t T'.heap (locs ++ L) e1.symm (by rw [← e2]; exact X'.warmed.alike) hp hb k1 k2 k3 (by rw [e1]; exact hce) hcv hcl T' rfl X'
    exact ⟨t2, st.trans a1, b1⟩
theorem vx_callf {S SX : Type} {post : UInt32 → S → Prop} {px : SX → Prop} {B : S → State → Prop} {BX : String → SX → State → Prop} {AX : Nat → Prop} (hr : vx_Run p l e R s m args below meth c H locs cells slots mc ms (F0 m pc ls st0) rest (va_Qf post B A1 a) (vx_X px BX AX) free) (hS : va_S A0 H0 H locs) (hA : ∀ q, q < H.size → A1 q → A0 q) (hf : ∀ q, free q → A0 q) (hAX : ∀ q, q < H.size → AX q → A0 q)
    (kx : ∀ (E : String) (ce : Cell) (q9 : Addr) (u : SX) (t : State) (H1 : Heap) (locs1 : List Loc), t.heap = H1 → s.vm.Alike t.vm → px u → BX E u t → H.size ≤ H1.size → (∀ q : Nat, q < H.size → ¬ AX q → H1[q]? = H[q]?) → va_S A0 H0 H1 locs1 → H1[q9]? = some ce → ce.vm = .none → s.vm.findClass E = some ce.cls → vx_W p l e R s m args below meth c H1 locs1 (cells + mc) (slots + ms) Q (F0 m pc ls rest) q9)
    (kk : ∀ (r : UInt32) (u : S) (t : State) (H1 : Heap) (locs1 : List Loc), t.heap = H1 → s.vm.Alike t.vm → post r u → B u t → H.size ≤ H1.size → (∀ q : Nat, q < H.size → ¬ A1 q → H1[q]? = H[q]?) → va_S A0 H0 H1 locs1 → W p l e R s m args below meth c H1 locs1 (cells + mc) (slots + ms) Q (F0 m (pc + 3) ls (.float r :: rest))) : W p l e R s m args below meth c H locs cells slots Q (F0 m pc ls st0) := by
  intro T hT X
  rcases hr T hT X with ⟨v, st₀, t, T', L, h0, X', hL, e1, e2, ⟨⟨r, u, hv, hp, hb⟩, hF⟩, st⟩ | ⟨q, st₀, t, T', L, E, ce, h0, X', hL, e1, e2, ⟨u, hp, hb, hF⟩, hce, hcv, hcl, st⟩
  · cases hv
    obtain ⟨k1, k2, k3⟩ := vx_keep h0 e1 hS hA hf hL hF
    obtain ⟨t2, a1, b1⟩ := kk r u t T'.heap (locs ++ L) e1.symm (by rw [← e2]; exact X'.warmed.alike) hp hb k1 k2 k3 T' rfl X'
    exact ⟨t2, st t2 a1, b1⟩
  · obtain ⟨k1, k2, k3⟩ := vx_keep h0 e1 hS hAX hf hL hF
    obtain ⟨t2, a1, b1⟩ := kx E ce q u t T'.heap (locs ++ L) e1.symm (by rw [← e2]; exact X'.warmed.alike) hp hb k1 k2 k3 (by rw [e1]; exact hce) hcv hcl T' rfl X'
    exact ⟨t2, st.trans a1, b1⟩
theorem vx_calld {S SX : Type} {post : UInt64 → S → Prop} {px : SX → Prop} {B : S → State → Prop} {BX : String → SX → State → Prop} {AX : Nat → Prop} (hr : vx_Run p l e R s m args below meth c H locs cells slots mc ms (F0 m pc ls st0) rest (va_Qd post B A1 a) (vx_X px BX AX) free) (hS : va_S A0 H0 H locs) (hA : ∀ q, q < H.size → A1 q → A0 q) (hf : ∀ q, free q → A0 q) (hAX : ∀ q, q < H.size → AX q → A0 q)
    (kx : ∀ (E : String) (ce : Cell) (q9 : Addr) (u : SX) (t : State) (H1 : Heap) (locs1 : List Loc), t.heap = H1 → s.vm.Alike t.vm → px u → BX E u t → H.size ≤ H1.size → (∀ q : Nat, q < H.size → ¬ AX q → H1[q]? = H[q]?) → va_S A0 H0 H1 locs1 → H1[q9]? = some ce → ce.vm = .none → s.vm.findClass E = some ce.cls → vx_W p l e R s m args below meth c H1 locs1 (cells + mc) (slots + ms) Q (F0 m pc ls rest) q9)
    (kk : ∀ (r : UInt64) (u : S) (t : State) (H1 : Heap) (locs1 : List Loc), t.heap = H1 → s.vm.Alike t.vm → post r u → B u t → H.size ≤ H1.size → (∀ q : Nat, q < H.size → ¬ A1 q → H1[q]? = H[q]?) → va_S A0 H0 H1 locs1 → W p l e R s m args below meth c H1 locs1 (cells + mc) (slots + ms) Q (F0 m (pc + 3) ls (.double r :: rest))) : W p l e R s m args below meth c H locs cells slots Q (F0 m pc ls st0) := by
  intro T hT X
  rcases hr T hT X with ⟨v, st₀, t, T', L, h0, X', hL, e1, e2, ⟨⟨r, u, hv, hp, hb⟩, hF⟩, st⟩ | ⟨q, st₀, t, T', L, E, ce, h0, X', hL, e1, e2, ⟨u, hp, hb, hF⟩, hce, hcv, hcl, st⟩
  · cases hv
    obtain ⟨k1, k2, k3⟩ := vx_keep h0 e1 hS hA hf hL hF
    obtain ⟨t2, a1, b1⟩ := kk r u t T'.heap (locs ++ L) e1.symm (by rw [← e2]; exact X'.warmed.alike) hp hb k1 k2 k3 T' rfl X'
    exact ⟨t2, st t2 a1, b1⟩
  · obtain ⟨k1, k2, k3⟩ := vx_keep h0 e1 hS hAX hf hL hF
    obtain ⟨t2, a1, b1⟩ := kx E ce q u t T'.heap (locs ++ L) e1.symm (by rw [← e2]; exact X'.warmed.alike) hp hb k1 k2 k3 (by rw [e1]; exact hce) hcv hcl T' rfl X'
    exact ⟨t2, st.trans a1, b1⟩
theorem vx_callv {S SX : Type} {post : S → Prop} {px : SX → Prop} {B : S → State → Prop} {BX : String → SX → State → Prop} {AX : Nat → Prop} (hr : vx_Run p l e R s m args below meth c H locs cells slots mc ms (F0 m pc ls st0) rest (va_Qv post B A1 a) (vx_X px BX AX) free) (hS : va_S A0 H0 H locs) (hA : ∀ q, q < H.size → A1 q → A0 q) (hf : ∀ q, free q → A0 q) (hAX : ∀ q, q < H.size → AX q → A0 q)
    (kx : ∀ (E : String) (ce : Cell) (q9 : Addr) (u : SX) (t : State) (H1 : Heap) (locs1 : List Loc), t.heap = H1 → s.vm.Alike t.vm → px u → BX E u t → H.size ≤ H1.size → (∀ q : Nat, q < H.size → ¬ AX q → H1[q]? = H[q]?) → va_S A0 H0 H1 locs1 → H1[q9]? = some ce → ce.vm = .none → s.vm.findClass E = some ce.cls → vx_W p l e R s m args below meth c H1 locs1 (cells + mc) (slots + ms) Q (F0 m pc ls rest) q9)
    (kk : ∀ (u : S) (t : State) (H1 : Heap) (locs1 : List Loc), t.heap = H1 → s.vm.Alike t.vm → post u → B u t → H.size ≤ H1.size → (∀ q : Nat, q < H.size → ¬ A1 q → H1[q]? = H[q]?) → va_S A0 H0 H1 locs1 → W p l e R s m args below meth c H1 locs1 (cells + mc) (slots + ms) Q (F0 m (pc + 3) ls (rest))) : W p l e R s m args below meth c H locs cells slots Q (F0 m pc ls st0) := by
  intro T hT X
  rcases hr T hT X with ⟨v, st₀, t, T', L, h0, X', hL, e1, e2, ⟨⟨u, hv, hp, hb⟩, hF⟩, st⟩ | ⟨q, st₀, t, T', L, E, ce, h0, X', hL, e1, e2, ⟨u, hp, hb, hF⟩, hce, hcv, hcl, st⟩
  · cases hv
    obtain ⟨k1, k2, k3⟩ := vx_keep h0 e1 hS hA hf hL hF
    obtain ⟨t2, a1, b1⟩ := kk u t T'.heap (locs ++ L) e1.symm (by rw [← e2]; exact X'.warmed.alike) hp hb k1 k2 k3 T' rfl X'
    exact ⟨t2, st t2 a1, b1⟩
  · obtain ⟨k1, k2, k3⟩ := vx_keep h0 e1 hS hAX hf hL hF
    obtain ⟨t2, a1, b1⟩ := kx E ce q u t T'.heap (locs ++ L) e1.symm (by rw [← e2]; exact X'.warmed.alike) hp hb k1 k2 k3 (by rw [e1]; exact hce) hcv hcl T' rfl X'
    exact ⟨t2, st.trans a1, b1⟩
/-- caught by the row x of this method's table; the rows ahead don't take it -/
theorem vx_catch {own name : String} {E : String} {ce : Cell} {q : Addr} (hown : s.vm.findClass own = some m.cls) (pre : List ExceptionTableEntry) (x : ExceptionTableEntry) (suf : List ExceptionTableEntry) (hsplit : c.exceptionTable.toList = pre ++ x :: suf)
    (hpass : ∀ z ∈ pre, covers z pc = false ∨ (z.catchType ≠ 0 ∧ ∃ nm : String, (Cond.classLink own z.catchType nm).before args s = true ∧ va_Nc E nm s)) (hx : covers x pc = true) (h0 : x.catchType ≠ 0)
    (hlink : (Cond.classLink own x.catchType name).before args s = true) (hcast : (Cond.castable E name).before args s = true) (hcell : H[q]? = some ce) (hv : ce.vm = .none) (hcl : s.vm.findClass E = some ce.cls)
    (kk : W p l e R s m args below meth c H locs cells slots Q (F0 m x.handlerPc ls [.ref q])) : vx_W p l e R s m args below meth c H locs cells slots Q (F0 m pc ls rest) q := by
  intro T hT X
  have hpl : e.platform.magicAccessors = ({} : Platform).magicAccessors := by rw [X.admits.platform]
  obtain ⟨c3, c4, hc3, hc4, hasg⟩ := Cond.castable_spec hcast
  cases Option.some.inj (hc3.symm.trans hcl)
  obtain ⟨c5, hc5, hcl5⟩ := Cond.classLink_spec hown hlink e.platform hpl
  cases Option.some.inj (hc4.symm.trans hc5)
  obtain ⟨vm', X', st⟩ := X.thenCaughtThrough q (g := F0 m pc ls rest) rfl (Steps.refl _) (by rw [hT]; exact hcell) (by rw [hv]; rfl) (by obtain ⟨k9, h9, -⟩ := Vm.findClass_spec hcl; exact ⟨k9, h9⟩) pre x suf hsplit
    (fun z hz => by
      rcases hpass z hz with h | ⟨hz0, nm, hl1, hn1⟩
      · exact Or.inl h
      · obtain ⟨c6, hc6, hcl6⟩ := Cond.classLink_spec hown hl1 e.platform hpl
        obtain ⟨a8, b8, h1, h2, h3⟩ := hn1
        cases Option.some.inj (h1.symm.trans hcl)
        cases Option.some.inj (h2.symm.trans hc6)
        exact Or.inr ⟨hz0, _, hcl6, h3⟩) hx (Or.inr ⟨h0, c4, hcl5, hasg⟩)
  obtain ⟨t, a1, b1⟩ := kk (T.setVm vm') hT X'
  exact ⟨t, st.trans a1, b1⟩
end Rows
section Ends
variable {p : Program} {l : Launch} {e : Env} {R : Room} {s : State} {m : MethodId} {args : Array Value} {below : List Frame} {meth : Method} {c : Code} {H : Heap} {locs : List Loc} {cells slots : Nat} {Q : State → Prop}
variable {mc ms : Nat} {free : Addr → Prop} {A0 A1 : Nat → Prop} {H0 : Heap} {a : Array Value} {ls : Array Slot} {st0 rest : List Value}
variable {Qc : Array Value → State → Outcome → State → Prop} {XC : String → State → State → Prop}
/-- what a body that may throw owes at its end -/
def vx_MQ (below : List Frame) (Qc : Array Value → State → Outcome → State → Prop) (XC : String → State → State → Prop) (a : Array Value) (s : State) (mc ms : Nat) (free : Addr → Prop) : State → Prop := fun t =>
  ∃ o, t.status = .running ∧ Ended t below o ∧ vx_Q Qc XC mc ms free a s o t
theorem vx_ret {g : JFrame} {mc ms : Nat} (k : W p l e R s m args below meth c H locs cells slots (MQ below Qc args s mc ms free) g) : W p l e R s m args below meth c H locs cells slots (vx_MQ below Qc XC args s mc ms free) g := by
  intro T hT X
  obtain ⟨t, a1, o, b1, b2, b3, b4⟩ := k T hT X
  exact ⟨t, a1, o, b1, b2, Or.inl ⟨b3, b4⟩⟩
/-- not caught here: it goes on to the caller -/
theorem vx_widen {g : JFrame} {q : Addr} {k n : Nat} (h1 : cells ≤ k) (h2 : slots ≤ n) (kk : vx_W p l e R s m args below meth c H locs k n Q g q) : vx_W p l e R s m args below meth c H locs cells slots Q g q := fun T hT X => kk T hT (stand_widen X h1 h2)
theorem vx_out {pc : Nat} {E : String} {ce : Cell} {q : Addr} {mc ms : Nat} (hout : ∀ x ∈ c.exceptionTable.toList, covers x pc = false) (hlocks : meth.locks = false) (hcell : H[q]? = some ce) (hv : ce.vm = .none) (hcl : s.vm.findClass E = some ce.cls)
    (hx : ∀ t : State, t.heap = H → s.vm.Alike t.vm → XC E s t) (hf : ∀ z ∈ locs, free z.base) (hc : cells ≤ mc) (hs : slots ≤ ms) :
    vx_W p l e R s m args below meth c H locs cells slots (vx_MQ below Qc XC args s mc ms free) (F0 m pc ls rest) q := by
  intro T hT X
  obtain ⟨st1, hrun, hend, hW, hsm⟩ := X.leaveThrown q (g := F0 m pc ls rest) rfl rfl rfl hout hlocks
  have hcell9 : (T.setFrames (.throwing q :: below)).heap[q]? = some ce := by
    show T.heap[q]? = some ce
    rw [hT]; exact hcell
  exact ⟨_, st1, .threw q, hrun, hend, Or.inr ⟨q, rfl, E, ce, locs, hx _ hT hW.alike, hcell9, hv, hcl, hW, hsm.mono hc hs, hf⟩⟩
theorem vx_frame {U : State} {k n : Nat} (h : s.sameButNew ({ U with vm := s.vm } : State) locs k n) : s.heap.size ≤ U.heap.size ∧ ∀ q : Nat, q < s.heap.size → (∀ z ∈ locs, z.base ≠ q) → U.heap[q]? = s.heap[q]? := by
  obtain ⟨-, h2, -, -, -, h6⟩ := h
  refine ⟨h2, fun q hq hz => ?_⟩
  obtain ⟨c9, e1, e2, e3, e4⟩ := h6 q _ (Array.getElem?_eq_getElem hq)
  have hs : c9.slots = (s.heap[q]).slots := Array.ext_getElem? fun i => e4 i fun hm => hz _ hm rfl
  have h9 : c9 = s.heap[q] := by
    rw [hs] at e2
    exact e2
  have e5 : U.heap[q]? = some c9 := e1
  rw [e5, h9, Array.getElem?_eq_getElem hq]
/-- the words of a throw but the four that speak of the heap -/
def vx_no (w : Cond) : Bool := decide (w ≠ .isRef (.static Bundle.tN "UNASSIGNED_STACK" Bundle.steD)) && decide (w ≠ .isRef (.static Bundle.tN "SUPPRESSED_SENTINEL" Bundle.listD)) && decide (w ≠ .laysStatic Bundle.tN "UNASSIGNED_STACK" Bundle.steD) && decide (w ≠ .laysStatic Bundle.tN "SUPPRESSED_SENTINEL" Bundle.listD)
def vx_at0 (own : String) (ic : Nat) (X : String) (names : List String) : List Cond := (Bundle.ownAtoms0 own ic X names).filter vx_no
def vx_atS (own : String) (ic : Nat) (X : String) (names : List String) : List Cond := (Bundle.ownAtoms own ic X names).filter vx_no
/-- a word that the tables alone decide, or a good one -/
def vx_ot (w : Cond) : Bool := w.onTables || goodWord w
theorem vx_ot_at {args a' : Array Value} {s U : State} {w : Cond} (hW : s.WarmedH U.vm) (hvm : s.vm = U.vm) (hg : vx_ot w = true) (h : w.before args s = true) : w.before a' U = true := by
  simp only [vx_ot, Bool.or_eq_true] at hg
  rcases hg with hg | hg
  · exact va_tabs hg hvm h
  · exact word_at hW (good_of_word hg) h
/-- a list's words: the good ones out of the method's own list, the others by premises of their own -/
theorem vx_hat {args : Array Value} {s : State} {L B : List Cond} (h1 : ∀ w ∈ L.filter goodWord, w.before args s = true) (h2 : ∀ w ∈ L.filter (fun w => !goodWord w), w ∈ B) (h3 : ∀ w ∈ B, w.before args s = true) : ∀ w ∈ L, w.before args s = true := by
  intro w hw
  by_cases g : goodWord w = true
  · exact h1 w (List.mem_filter.mpr ⟨hw, g⟩)
  · refine h3 w (h2 w (List.mem_filter.mpr ⟨hw, ?_⟩))
    show (!goodWord w) = true
    cases hgw : goodWord w
    · rfl
    · exact absurd hgw g
theorem vx_c {args : Array Value} {s : State} {w : Cond} {B : List Cond} (h : w.before args s = true) (t : ∀ w ∈ B, w.before args s = true) : ∀ w' ∈ w :: B, w'.before args s = true := fun w' h' => (List.mem_cons.mp h').elim (fun e => by rw [e]; exact h) (t w')
theorem vx_n {args : Array Value} {s : State} : ∀ w ∈ ([] : List Cond), w.before args s = true := fun _ h => nomatch h
theorem vx_own {args : Array Value} {s : State} {L : List Cond} (h1 : ∀ w ∈ L.filter vx_no, w.before args s = true)
    (hU : (Cond.isRef (.static Bundle.tN "UNASSIGNED_STACK" Bundle.steD)).before args s = true) (hN : (Cond.isRef (.static Bundle.tN "SUPPRESSED_SENTINEL" Bundle.listD)).before args s = true)
    (lU : (Cond.laysStatic Bundle.tN "UNASSIGNED_STACK" Bundle.steD).before args s = true) (lN : (Cond.laysStatic Bundle.tN "SUPPRESSED_SENTINEL" Bundle.listD).before args s = true) : ∀ w ∈ L, w.before args s = true := by
  intro w hw
  by_cases e1 : w = .isRef (.static Bundle.tN "UNASSIGNED_STACK" Bundle.steD)
  · rw [e1]; exact hU
  · by_cases e2 : w = .isRef (.static Bundle.tN "SUPPRESSED_SENTINEL" Bundle.listD)
    · rw [e2]; exact hN
    · by_cases e3 : w = .laysStatic Bundle.tN "UNASSIGNED_STACK" Bundle.steD
      · rw [e3]; exact lU
      · by_cases e4 : w = .laysStatic Bundle.tN "SUPPRESSED_SENTINEL" Bundle.listD
        · rw [e4]; exact lN
        · exact h1 w (List.mem_filter.mpr ⟨hw, by unfold vx_no; rw [decide_eq_true e1, decide_eq_true e2, decide_eq_true e3, decide_eq_true e4]; rfl⟩)
/-- where a static field lies, its class's statics cell in H -/
def vx_L (C n d : String) (A : Nat → Prop) (U : State) (H : Heap) : Prop := ∃ (c : ClassId) (k : Class) (i : Nat) (f : Field) (a : Nat) (cell : Cell), U.vm.findClass C = some c ∧ U.fieldFound? C n d = some (c, k, i, f) ∧ f.isStatic = true ∧ k.statics = some a ∧ H[a]? = some cell ∧ cell.vm.isStatics = true ∧ cell.cls = c ∧ f.slot < cell.slots.size ∧ k.staticTypes[f.slot]? = some f.type ∧ ¬ A a
theorem vx_L.moved {C n d : String} {A : Nat → Prop} {u U : State} {H : Heap} (hvm : u.vm.Alike U.vm) (h : vx_L C n d A u H) : vx_L C n d A U H := by
  obtain ⟨c, k, i, f, a, cell, h1, h2, h3, h4, h5, h6, h7, h8, h9, h10⟩ := h
  obtain ⟨k', hi', he⟩ := State.fieldFound?_setVm hvm h2
  exact ⟨c, k', i, f, a, cell, by rw [hvm.findClass]; exact h1, hi', h3, by rw [he]; exact h4, h5, h6, h7, h8, by rw [he]; exact h9, h10⟩
theorem vx_L.kept {C n d : String} {A : Nat → Prop} {U : State} {H H1 : Heap} (h : vx_L C n d A U H) (hq : ∀ a : Nat, a < H.size → ¬ A a → H1[a]? = H[a]?) : vx_L C n d A U H1 := by
  obtain ⟨c, k, i, f, a, cell, h1, h2, h3, h4, h5, h6, h7, h8, h9, h10⟩ := h
  exact ⟨c, k, i, f, a, cell, h1, h2, h3, h4, by rw [hq a (Array.getElem?_eq_some_iff.mp h5).1 h10]; exact h5, h6, h7, h8, h9, h10⟩
theorem vx_L.narrow {C n d : String} {A B : Nat → Prop} {U : State} {H : Heap} (h : vx_L C n d A U H) (hAB : ∀ q, B q → A q) : vx_L C n d B U H := by
  obtain ⟨c, k, i, f, a, cell, h1, h2, h3, h4, h5, h6, h7, h8, h9, h10⟩ := h
  exact ⟨c, k, i, f, a, cell, h1, h2, h3, h4, h5, h6, h7, h8, h9, fun z => h10 (hAB _ z)⟩
theorem vx_L.word {C n d : String} {A : Nat → Prop} {s : State} {args : Array Value} (h : vx_L C n d A s s.heap) : (Cond.laysStatic C n d).before args s = true := by
  obtain ⟨c, k, i, f, a, cell, h1, h2, h3, h4, h5, h6, h7, h8, h9, -⟩ := h
  show (Cond.laysStatic C n d).holds args s none s [] = true
  exact Cond.laysStatic_of h1 h2 h3 h4 h5 h6 h7 h8 h9
/-- .. and what it holds: null or some reference -/
def vx_Zq (C n d : String) (A : Nat → Prop) (U : State) (H : Heap) : Prop := va_Zq C n d A U H ∧ vx_L C n d A U H
theorem vx_Zq.moved {C n d : String} {A : Nat → Prop} {u U : State} {H : Heap} (hvm : u.vm.Alike U.vm) (h : vx_Zq C n d A u H) : vx_Zq C n d A U H := ⟨va_Zq.moved hvm h.1, vx_L.moved hvm h.2⟩
theorem vx_Zq.kept {C n d : String} {A : Nat → Prop} {U : State} {H H1 : Heap} (h : vx_Zq C n d A U H) (hq : ∀ a : Nat, a < H.size → ¬ A a → H1[a]? = H[a]?) : vx_Zq C n d A U H1 := ⟨va_Zq.kept h.1 hq, vx_L.kept h.2 hq⟩
theorem vx_Zq.narrow {C n d : String} {A B : Nat → Prop} {U : State} {H : Heap} (h : vx_Zq C n d A U H) (hAB : ∀ q, B q → A q) : vx_Zq C n d B U H := ⟨va_Zq.narrow h.1 hAB, vx_L.narrow h.2 hAB⟩
theorem vx_Zqof {args : Array Value} {s : State} {C n d : String} {A : Nat → Prop} (hl : (Cond.laysStatic C n d).before args s = true) (hini : (Cond.initialized C).before args s = true) (h : (Cond.isRef (.static C n d)).before args s = true) (hA : ∀ a : Nat, a < s.heap.size → ¬ A a) : vx_Zq C n d A s s.heap := by
  refine ⟨va_Zqof hl hini h hA, ?_⟩
  obtain ⟨c, k, i, f, a, cell, h1, h2, h3, h4, h5, h6, h7, h8, h9⟩ := Cond.laysStatic_spec hl
  exact ⟨c, k, i, f, a, cell, h1, h2, h3, h4, h5, h6, h7, h8, h9, hA a (Array.getElem?_eq_some_iff.mp h5).1⟩
theorem vx_isRef {C n d : String} {v : Value} {A : Nat → Prop} {s : State} {args : Array Value} (h : va_Z C n d v A s s.heap) (hv : v.isRef = true) : (Cond.isRef (.static C n d)).before args s = true := by
  obtain ⟨cf, kf, fi, f, a, cell, h1, h2, h3, h4, h5, h6, h7, -⟩ := h
  have he : (Term.static C n d).eval args s none [] s = some v := by
    simp [Term.eval, State.fieldNamed?, h1, h2, h4, h5, h6, h7]
  simp only [Cond.before, Cond.holds, Cond.value, he]
  cases v <;> simp_all [Value.isRef]
theorem vx_isRefq {C n d : String} {A : Nat → Prop} {s : State} {args : Array Value} (h : va_Zq C n d A s s.heap) : (Cond.isRef (.static C n d)).before args s = true := by
  rcases h with h | ⟨t, h⟩
  · exact vx_isRef h rfl
  · exact vx_isRef h rfl
/-- the same frame, seen from here: as if the method were called anew in this heap -/
theorem vx_rebase {T : State} (X : Stand p l e R s m args below meth c T locs cells slots) {R' : Room} (hf : R'.frames ≤ R.frames) (hl : R'.locals ≤ R.locals) (hc : cells + R'.cells ≤ R.cells) (hs : slots + R'.slots ≤ R.slots) :
    Stand p l e R' ((T.setVm s.vm).setFrames (.invoking m args :: below)) m args below meth c T [] 0 0 := by
  have htop : (T.setVm s.vm).topJava?.isSome := X.here.top
  have hF : ((T.setVm s.vm).setFrames (.invoking m args :: below)).frames = .invoking m args :: below := State.frames_setFrames _ (State.cur_lt_of_top htop)
  obtain ⟨g₀, hg0⟩ := Option.isSome_iff_exists.mp htop
  obtain ⟨r, hr⟩ := State.topJava?_eq_some.mp hg0
  have hl9 : e.platform.stackLimits (T.setVm s.vm).me = e.platform.stackLimits s.me := X.limits
  have hb9 : (T.setVm s.vm).me.stackBytes = s.me.stackBytes := X.bytes
  refine ⟨X.admits, X.cas, X.clock, hF, ?_, X.hears, X.method, X.code, X.here, X.tail, X.warmed, ?_, ?_, ?_⟩
  · have h := X.room
    have hU : ((T.setVm s.vm).setFrames (.invoking m args :: below)).localsInUse = s.localsInUse := by
      rw [State.localsInUse_invoking hF (meth := meth) (c := c) X.method X.code, State.localsInUse_invoking X.frames X.method X.code]
    simp only [State.hasRoom, Bool.and_eq_true, decide_eq_true_eq] at h ⊢
    obtain ⟨⟨⟨⟨h1, h2, h3, h4, h5, h6⟩, h7⟩, h8⟩, h9⟩ := h
    rw [X.frames, List.length_cons] at h2 h3
    have q1 := X.heapSize
    have q2 := X.used
    simp only [hF, hU, List.length_cons, State.stackLimits_setFrames, State.stackBytes_setFrames, hl9, hb9]
    refine ⟨⟨⟨⟨by omega, by omega, by omega, by omega, by omega, h6⟩, ?_⟩, ?_⟩, X.book⟩
    · show T.heap.size + R'.cells ≤ e.platform.maxCells
      omega
    · show T.slotsUsed + R'.slots ≤ e.platform.maxSlots
      omega
  · rw [State.stackLimits_setFrames]; rfl
  · rw [State.stackBytes_setFrames]; rfl
  · refine ⟨?_, Nat.le_refl _, Nat.le_refl _, ?_, ?_, fun a c9 h9 => ⟨c9, h9, rfl, rfl, fun _ _ => rfl⟩⟩
    · obtain ⟨t, ht, -⟩ := State.frames_cons hr
      show T.setVm s.vm = { ((T.setVm s.vm).setFrames (.invoking m args :: below)).setFrames (T.setVm s.vm).frames with heap := T.heap, slotsUsed := T.slotsUsed }
      rw [State.setFrames_setFrames, State.setFrames_self ht]
      rfl
    · show T.slotsUsed = T.slotsUsed + ((T.heap.toList.drop T.heap.size).map (·.slots.size)).sum
      rw [List.drop_eq_nil_of_le (Nat.le_of_eq Array.length_toList)]
      rfl
    · show ((T.heap.toList.drop T.heap.size).map (·.slots.size)).sum ≤ 0
      rw [List.drop_eq_nil_of_le (Nat.le_of_eq Array.length_toList)]
      exact Nat.le_refl _
/-- 'throw new E()': new; dup; invokespecial; athrow -/
theorem vx_throw0 {cc : ByteArray} {pc : Nat} (hexec : p.tables.exec = Jvm.exec) (hb : c.code = cc) (hl : l.stackTraces = false) {own cls : String} {names : List String} {ik ic mc ms : Nat} {A : Nat → Prop}
    (hown : s.vm.findClass own = some m.cls) (hcls : Bundle.fit cls = true) (hnames : ∀ n ∈ names, Bundle.fit n = true)
    (hk : (Cond.classLink own ik cls).before args s = true) (hini : (Cond.initialized cls).before args s = true) (hat : ∀ w ∈ vx_at0 own ic cls names, w.before args s = true)
    (hgood : ∀ w ∈ Cond.classLink own ik cls :: Cond.initialized cls :: vx_at0 own ic cls names, vx_ot w = true)
    (hU : vx_Zq Bundle.tN "UNASSIGNED_STACK" Bundle.steD A s s.heap) (hN : vx_Zq Bundle.tN "SUPPRESSED_SENTINEL" Bundle.listD A s s.heap) (hS : va_S A s.heap H locs) (hsize : ls.size = c.maxLocals)
    (d0 : decode cc pc = .ok (.new ik, 3)) (d3 : decode cc (pc + 3) = .ok (.dup, 1)) (d4 : decode cc (pc + 4) = .ok (.invokespecial ic, 3)) (d7 : decode cc (pc + 7) = .ok (.athrow, 1))
    (hout : ∀ x ∈ c.exceptionTable.toList, covers x (pc + 7) = false)
    (hRframes : names.length + 3 < R.frames) (hRlocals : (rest.map fun v => v.category).sum + (13 * (names.length + 1) + 42) ≤ R.locals) (hRcells : cells + 1 ≤ R.cells) (hRslots : slots + 6 ≤ R.slots) (hlocks : meth.locks = false)
    (hx : ∀ t : State, s.vm.Alike t.vm → H.size ≤ t.heap.size → (∀ q : Nat, q < H.size → t.heap[q]? = H[q]?) → XC cls s t)
    (hf : ∀ z ∈ locs, free z.base) (hc : cells + 1 ≤ mc) (hs : slots + 6 ≤ ms) :
    W p l e R s m args below meth c H locs cells slots (vx_MQ below Qc XC args s mc ms free) (F0 m pc ls rest) := by
  intro T hT X
  have htr : e.platform.stackTraces = false := (show e.platform.stackTraces = l.stackTraces by rw [X.admits.platform]).trans hl
  have Y := vx_rebase X (R' := { frames := R.frames, locals := R.locals, cells := 1, slots := 6 }) (Nat.le_refl _) (Nat.le_refl _) hRcells hRslots
  obtain ⟨s', hA⟩ : ∃ z, z = (T.setVm s.vm).setFrames (.invoking m args :: below) := ⟨_, rfl⟩
  rw [← hA] at Y
  have hvm : s'.vm = s.vm := by rw [hA]; rfl
  have hhp : s'.heap = H := by rw [hA]; exact hT
  have hW0 : s.WarmedH s'.vm := by rw [hvm]; exact State.WarmedH.refl s
  have hat' : ∀ w ∈ vx_at0 own ic cls names, w.before args s' = true := fun w hw => vx_ot_at hW0 hvm.symm (hgood w (List.mem_cons_of_mem _ (List.mem_cons_of_mem _ hw))) (hat w hw)
  have hk' : (Cond.classLink own ik cls).before args s' = true := vx_ot_at hW0 hvm.symm (hgood _ List.mem_cons_self) hk
  have hini' : (Cond.initialized cls).before args s' = true := vx_ot_at hW0 hvm.symm (hgood _ (List.mem_cons_of_mem _ List.mem_cons_self)) hini
  have hU' : vx_Zq Bundle.tN "UNASSIGNED_STACK" Bundle.steD A s' s'.heap := by rw [hhp]; exact vx_Zq.moved hW0.alike (hU.kept hS.2.1)
  have hN' : vx_Zq Bundle.tN "SUPPRESSED_SENTINEL" Bundle.listD A s' s'.heap := by rw [hhp]; exact vx_Zq.moved hW0.alike (hN.kept hS.2.1)
  have h : ∀ w ∈ Bundle.ownAtoms0 own ic cls names, w.before args s' = true := vx_own hat' (vx_isRefq hU'.1) (vx_isRefq hN'.1) hU'.2.word hN'.2.word
  have hown' : s'.vm.findClass own = some m.cls := by rw [hvm]; exact hown
  have hins : (Cond.instantiable cls 6).before args s' = true := h _ (by simp [Bundle.ownAtoms0])
  obtain ⟨vm₁, cX, kX, hfX, hkX, -, -, X₁, st1⟩ := Y.newCold hexec (own := own) (C := cls) (index := ik) (n := 6) hown' hk' hins hini'
    (g := F0 m pc ls rest) rfl (by rw [hb]; exact d0) (Nat.le_refl _) (Nat.le_refl _)
  generalize hT1 : (T.setVm vm₁).pushCell { cls := cX, slots := kX.instanceTypes.map defaultValue, vm := .none } = T1 at X₁ st1
  have hcat : (Value.ref T.heap.size).category = 1 := rfl
  have hcellA : T1.heap[T.heap.size]? = some (freshCell cX kX) := by rw [← hT1]; exact State.heap_pushCell_size _ _
  have d3' : decode c.code (pc + 3) = .ok (.dup, 1) := by rw [hb]; exact d3
  obtain ⟨U, hsteps, hrun, hend, hW, hsame, ce, hce, hO⟩ := X₁.ctorThrow0 hexec htr (own := own) (cls := cls) (names := names) (ic := ic) hown' hcls hnames h (fun x hx => nomatch hx) hfX hkX hcellA (by rw [hhp, hT]; exact Nat.le_refl _)
    (g := { method := m, pc := pc + 4, locals := ls, stack := .ref T.heap.size :: .ref T.heap.size :: rest, locked := none }) rfl hsize rfl rfl (rest := rest) rfl
    (by rw [hb]; exact d4) (by rw [hb]; exact d7) hout hRframes (by simp only [List.map_cons, List.sum_cons, hcat]; omega) hlocks
  obtain ⟨f1, f2⟩ := vx_frame hsame
  rw [hhp] at f1 f2
  have hWs : s.WarmedH U.vm := State.WarmedH.trans hW0 hW
  have hcl : s.vm.findClass cls = some ce.cls := by
    have h9 := hO.cls
    rw [hvm] at h9
    exact h9
  have hall : s.sameButNew ({ U with vm := s.vm } : State) locs mc ms := by
    subst hA
    obtain ⟨e1, e2⟩ := hsame
    rw [State.setFrames_setFrames] at e1
    have h2 : (T.setVm s.vm).sameButNew ({ U with vm := s.vm } : State) [] (0 + 1) (0 + 6) := ⟨e1, e2⟩
    have h3 := X.same.trans h2
    rw [List.append_nil] at h3
    exact h3.mono hc hs
  refine ⟨U, ?_, .threw T.heap.size, hrun, hend, Or.inr ⟨T.heap.size, rfl, cls, ce, locs, hx U hWs.alike f1 (fun q hq => f2 q hq (fun z hz => nomatch hz)), hce, hO.vm, hcl, hWs, hall, hf⟩⟩
  refine st1 _ ?_
  show Steps p.tables e below (T1.setTop { method := m, pc := pc + 3, locals := ls, stack := .ref T.heap.size :: rest, locked := none }) _
  jvm_step X₁.here [X₁.here.top, hexec, d3', Value.category]
  exact hsteps
/-- 'throw new E("text")': new; dup; ldc; invokespecial; athrow -/
theorem vx_throwS {cc : ByteArray} {pc : Nat} (hexec : p.tables.exec = Jvm.exec) (hb : c.code = cc) (hl : l.stackTraces = false) {own cls text : String} {names : List String} {ik is ic mc ms sa : Nat} {A : Nat → Prop}
    (hown : s.vm.findClass own = some m.cls) (hcls : Bundle.fit cls = true) (hnames : ∀ n ∈ names, Bundle.fit n = true)
    (hk : (Cond.classLink own ik cls).before args s = true) (hini : (Cond.initialized cls).before args s = true) (hstr : vk_R own is text sa s) (hat : ∀ w ∈ vx_atS own ic cls names, w.before args s = true)
    (hgood : ∀ w ∈ Cond.classLink own ik cls :: Cond.initialized cls :: vx_atS own ic cls names, vx_ot w = true)
    (hU : vx_Zq Bundle.tN "UNASSIGNED_STACK" Bundle.steD A s s.heap) (hN : vx_Zq Bundle.tN "SUPPRESSED_SENTINEL" Bundle.listD A s s.heap) (hS : va_S A s.heap H locs) (hsize : ls.size = c.maxLocals)
    (d0 : decode cc pc = .ok (.new ik, 3)) (d3 : decode cc (pc + 3) = .ok (.dup, 1)) (d4 : decode cc (pc + 4) = .ok (.ldc is, 2)) (d6 : decode cc (pc + 6) = .ok (.invokespecial ic, 3)) (d9 : decode cc (pc + 9) = .ok (.athrow, 1))
    (hout : ∀ x ∈ c.exceptionTable.toList, covers x (pc + 9) = false)
    (hRframes : names.length + 3 < R.frames) (hRlocals : (rest.map fun v => v.category).sum + (13 * (names.length + 1) + 43) ≤ R.locals) (hRcells : cells + 1 ≤ R.cells) (hRslots : slots + 6 ≤ R.slots) (hlocks : meth.locks = false)
    (hx : ∀ t : State, s.vm.Alike t.vm → H.size ≤ t.heap.size → (∀ q : Nat, q < H.size → t.heap[q]? = H[q]?) → XC cls s t)
    (hf : ∀ z ∈ locs, free z.base) (hc : cells + 1 ≤ mc) (hs : slots + 6 ≤ ms) :
    W p l e R s m args below meth c H locs cells slots (vx_MQ below Qc XC args s mc ms free) (F0 m pc ls rest) := by
  intro T hT X
  have htr : e.platform.stackTraces = false := (show e.platform.stackTraces = l.stackTraces by rw [X.admits.platform]).trans hl
  have Y := vx_rebase X (R' := { frames := R.frames, locals := R.locals, cells := 1, slots := 6 }) (Nat.le_refl _) (Nat.le_refl _) hRcells hRslots
  obtain ⟨s', hA⟩ : ∃ z, z = (T.setVm s.vm).setFrames (.invoking m args :: below) := ⟨_, rfl⟩
  rw [← hA] at Y
  have hvm : s'.vm = s.vm := by rw [hA]; rfl
  have hhp : s'.heap = H := by rw [hA]; exact hT
  have hW0 : s.WarmedH s'.vm := by rw [hvm]; exact State.WarmedH.refl s
  have hat' : ∀ w ∈ vx_atS own ic cls names, w.before args s' = true := fun w hw => vx_ot_at hW0 hvm.symm (hgood w (List.mem_cons_of_mem _ (List.mem_cons_of_mem _ hw))) (hat w hw)
  have hk' : (Cond.classLink own ik cls).before args s' = true := vx_ot_at hW0 hvm.symm (hgood _ List.mem_cons_self) hk
  have hini' : (Cond.initialized cls).before args s' = true := vx_ot_at hW0 hvm.symm (hgood _ (List.mem_cons_of_mem _ List.mem_cons_self)) hini
  have hU' : vx_Zq Bundle.tN "UNASSIGNED_STACK" Bundle.steD A s' s'.heap := by rw [hhp]; exact vx_Zq.moved hW0.alike (hU.kept hS.2.1)
  have hN' : vx_Zq Bundle.tN "SUPPRESSED_SENTINEL" Bundle.listD A s' s'.heap := by rw [hhp]; exact vx_Zq.moved hW0.alike (hN.kept hS.2.1)
  have h : ∀ w ∈ Bundle.ownAtoms own ic cls names, w.before args s' = true := vx_own hat' (vx_isRefq hU'.1) (vx_isRefq hN'.1) hU'.2.word hN'.2.word
  have hown' : s'.vm.findClass own = some m.cls := by rw [hvm]; exact hown
  have hins : (Cond.instantiable cls 6).before args s' = true := h _ (by simp [Bundle.ownAtoms])
  obtain ⟨vm₁, cX, kX, hfX, hkX, -, -, X₁, st1⟩ := Y.newCold hexec (own := own) (C := cls) (index := ik) (n := 6) hown' hk' hins hini'
    (g := F0 m pc ls rest) rfl (by rw [hb]; exact d0) (Nat.le_refl _) (Nat.le_refl _)
  generalize hT1 : (T.setVm vm₁).pushCell { cls := cX, slots := kX.instanceTypes.map defaultValue, vm := .none } = T1 at X₁ st1
  have hcat : (Value.ref T.heap.size).category = 1 := rfl
  have hcellA : T1.heap[T.heap.size]? = some (freshCell cX kX) := by rw [← hT1]; exact State.heap_pushCell_size _ _
  have d3' : decode c.code (pc + 3) = .ok (.dup, 1) := by rw [hb]; exact d3
  have d4' : decode c.code (pc + 4) = .ok (.ldc is, 2) := by rw [hb]; exact d4
  have hstr' : vk_R own is text sa s' := vk_R.warm hW0 hstr
  obtain ⟨U, hsteps, hrun, hend, hW, hsame, ce, hce, hO⟩ := X₁.ctorThrowS hexec htr (own := own) (cls := cls) (names := names) (ic := ic) hown' hcls hnames h (fun x hx => nomatch hx) hfX hkX hcellA (by rw [hhp, hT]; exact Nat.le_refl _) (msg := .ref sa) rfl
    (g := { method := m, pc := pc + 6, locals := ls, stack := .ref sa :: .ref T.heap.size :: .ref T.heap.size :: rest, locked := none }) rfl hsize rfl rfl (rest := rest) rfl
    (by rw [hb]; exact d6) (by rw [hb]; exact d9) hout hRframes (by simp only [List.map_cons, List.sum_cons, hcat]; omega) hlocks
  obtain ⟨f1, f2⟩ := vx_frame hsame
  rw [hhp] at f1 f2
  have hWs : s.WarmedH U.vm := State.WarmedH.trans hW0 hW
  have hcl : s.vm.findClass cls = some ce.cls := by
    have h9 := hO.cls
    rw [hvm] at h9
    exact h9
  have hall : s.sameButNew ({ U with vm := s.vm } : State) locs mc ms := by
    subst hA
    obtain ⟨e1, e2⟩ := hsame
    rw [State.setFrames_setFrames] at e1
    have h2 : (T.setVm s.vm).sameButNew ({ U with vm := s.vm } : State) [] (0 + 1) (0 + 6) := ⟨e1, e2⟩
    have h3 := X.same.trans h2
    rw [List.append_nil] at h3
    exact h3.mono hc hs
  refine ⟨U, ?_, .threw T.heap.size, hrun, hend, Or.inr ⟨T.heap.size, rfl, cls, ce, locs, hx U hWs.alike f1 (fun q hq => f2 q hq (fun z hz => nomatch hz)), hce, hO.vm, hcl, hWs, hall, hf⟩⟩
  refine st1 _ ?_
  show Steps p.tables e below (T1.setTop { method := m, pc := pc + 3, locals := ls, stack := .ref T.heap.size :: rest, locked := none }) _
  jvm_step X₁.here [X₁.here.top, hexec, d3', Value.category]
  exact X₁.ldcString hexec (own := own) (text := text) (index := is) (a := sa) hown' hstr'.1 hstr'.2
    (g := { method := m, pc := pc + 4, locals := ls, stack := .ref T.heap.size :: .ref T.heap.size :: rest, locked := none }) rfl d4' _ hsteps
/-- 'throw new E("text")', the text by a wide index -/
theorem vx_throwSW {cc : ByteArray} {pc : Nat} (hexec : p.tables.exec = Jvm.exec) (hb : c.code = cc) (hl : l.stackTraces = false) {own cls text : String} {names : List String} {ik is ic mc ms sa : Nat} {A : Nat → Prop}
    (hown : s.vm.findClass own = some m.cls) (hcls : Bundle.fit cls = true) (hnames : ∀ n ∈ names, Bundle.fit n = true)
    (hk : (Cond.classLink own ik cls).before args s = true) (hini : (Cond.initialized cls).before args s = true) (hstr : vk_R own is text sa s) (hat : ∀ w ∈ vx_atS own ic cls names, w.before args s = true)
    (hgood : ∀ w ∈ Cond.classLink own ik cls :: Cond.initialized cls :: vx_atS own ic cls names, vx_ot w = true)
    (hU : vx_Zq Bundle.tN "UNASSIGNED_STACK" Bundle.steD A s s.heap) (hN : vx_Zq Bundle.tN "SUPPRESSED_SENTINEL" Bundle.listD A s s.heap) (hS : va_S A s.heap H locs) (hsize : ls.size = c.maxLocals)
    (d0 : decode cc pc = .ok (.new ik, 3)) (d3 : decode cc (pc + 3) = .ok (.dup, 1)) (d4 : decode cc (pc + 4) = .ok (.ldc_w is, 3)) (d7 : decode cc (pc + 7) = .ok (.invokespecial ic, 3)) (d10 : decode cc (pc + 10) = .ok (.athrow, 1))
    (hout : ∀ x ∈ c.exceptionTable.toList, covers x (pc + 10) = false)
    (hRframes : names.length + 3 < R.frames) (hRlocals : (rest.map fun v => v.category).sum + (13 * (names.length + 1) + 43) ≤ R.locals) (hRcells : cells + 1 ≤ R.cells) (hRslots : slots + 6 ≤ R.slots) (hlocks : meth.locks = false)
    (hx : ∀ t : State, s.vm.Alike t.vm → H.size ≤ t.heap.size → (∀ q : Nat, q < H.size → t.heap[q]? = H[q]?) → XC cls s t)
    (hf : ∀ z ∈ locs, free z.base) (hc : cells + 1 ≤ mc) (hs : slots + 6 ≤ ms) :
    W p l e R s m args below meth c H locs cells slots (vx_MQ below Qc XC args s mc ms free) (F0 m pc ls rest) := by
  intro T hT X
  have htr : e.platform.stackTraces = false := (show e.platform.stackTraces = l.stackTraces by rw [X.admits.platform]).trans hl
  have Y := vx_rebase X (R' := { frames := R.frames, locals := R.locals, cells := 1, slots := 6 }) (Nat.le_refl _) (Nat.le_refl _) hRcells hRslots
  obtain ⟨s', hA⟩ : ∃ z, z = (T.setVm s.vm).setFrames (.invoking m args :: below) := ⟨_, rfl⟩
  rw [← hA] at Y
  have hvm : s'.vm = s.vm := by rw [hA]; rfl
  have hhp : s'.heap = H := by rw [hA]; exact hT
  have hW0 : s.WarmedH s'.vm := by rw [hvm]; exact State.WarmedH.refl s
  have hat' : ∀ w ∈ vx_atS own ic cls names, w.before args s' = true := fun w hw => vx_ot_at hW0 hvm.symm (hgood w (List.mem_cons_of_mem _ (List.mem_cons_of_mem _ hw))) (hat w hw)
  have hk' : (Cond.classLink own ik cls).before args s' = true := vx_ot_at hW0 hvm.symm (hgood _ List.mem_cons_self) hk
  have hini' : (Cond.initialized cls).before args s' = true := vx_ot_at hW0 hvm.symm (hgood _ (List.mem_cons_of_mem _ List.mem_cons_self)) hini
  have hU' : vx_Zq Bundle.tN "UNASSIGNED_STACK" Bundle.steD A s' s'.heap := by rw [hhp]; exact vx_Zq.moved hW0.alike (hU.kept hS.2.1)
  have hN' : vx_Zq Bundle.tN "SUPPRESSED_SENTINEL" Bundle.listD A s' s'.heap := by rw [hhp]; exact vx_Zq.moved hW0.alike (hN.kept hS.2.1)
  have h : ∀ w ∈ Bundle.ownAtoms own ic cls names, w.before args s' = true := vx_own hat' (vx_isRefq hU'.1) (vx_isRefq hN'.1) hU'.2.word hN'.2.word
  have hown' : s'.vm.findClass own = some m.cls := by rw [hvm]; exact hown
  have hins : (Cond.instantiable cls 6).before args s' = true := h _ (by simp [Bundle.ownAtoms])
  obtain ⟨vm₁, cX, kX, hfX, hkX, -, -, X₁, st1⟩ := Y.newCold hexec (own := own) (C := cls) (index := ik) (n := 6) hown' hk' hins hini'
    (g := F0 m pc ls rest) rfl (by rw [hb]; exact d0) (Nat.le_refl _) (Nat.le_refl _)
  generalize hT1 : (T.setVm vm₁).pushCell { cls := cX, slots := kX.instanceTypes.map defaultValue, vm := .none } = T1 at X₁ st1
  have hcat : (Value.ref T.heap.size).category = 1 := rfl
  have hcellA : T1.heap[T.heap.size]? = some (freshCell cX kX) := by rw [← hT1]; exact State.heap_pushCell_size _ _
  have d3' : decode c.code (pc + 3) = .ok (.dup, 1) := by rw [hb]; exact d3
  have d4' : decode c.code (pc + 4) = .ok (.ldc_w is, 3) := by rw [hb]; exact d4
  have hstr' : vk_R own is text sa s' := vk_R.warm hW0 hstr
  obtain ⟨U, hsteps, hrun, hend, hW, hsame, ce, hce, hO⟩ := X₁.ctorThrowS hexec htr (own := own) (cls := cls) (names := names) (ic := ic) hown' hcls hnames h (fun x hx => nomatch hx) hfX hkX hcellA (by rw [hhp, hT]; exact Nat.le_refl _) (msg := .ref sa) rfl
    (g := { method := m, pc := pc + 7, locals := ls, stack := .ref sa :: .ref T.heap.size :: .ref T.heap.size :: rest, locked := none }) rfl hsize rfl rfl (rest := rest) rfl
    (by rw [hb]; exact d7) (by rw [hb]; exact d10) hout hRframes (by simp only [List.map_cons, List.sum_cons, hcat]; omega) hlocks
  obtain ⟨f1, f2⟩ := vx_frame hsame
  rw [hhp] at f1 f2
  have hWs : s.WarmedH U.vm := State.WarmedH.trans hW0 hW
  have hcl : s.vm.findClass cls = some ce.cls := by
    have h9 := hO.cls
    rw [hvm] at h9
    exact h9
  have hall : s.sameButNew ({ U with vm := s.vm } : State) locs mc ms := by
    subst hA
    obtain ⟨e1, e2⟩ := hsame
    rw [State.setFrames_setFrames] at e1
    have h2 : (T.setVm s.vm).sameButNew ({ U with vm := s.vm } : State) [] (0 + 1) (0 + 6) := ⟨e1, e2⟩
    have h3 := X.same.trans h2
    rw [List.append_nil] at h3
    exact h3.mono hc hs
  refine ⟨U, ?_, .threw T.heap.size, hrun, hend, Or.inr ⟨T.heap.size, rfl, cls, ce, locs, hx U hWs.alike f1 (fun q hq => f2 q hq (fun z hz => nomatch hz)), hce, hO.vm, hcl, hWs, hall, hf⟩⟩
  refine st1 _ ?_
  show Steps p.tables e below (T1.setTop { method := m, pc := pc + 3, locals := ls, stack := .ref T.heap.size :: rest, locked := none }) _
  jvm_step X₁.here [X₁.here.top, hexec, d3', Value.category]
  exact X₁.ldcStringW hexec (own := own) (text := text) (index := is) (a := sa) hown' hstr'.1 hstr'.2
    (g := { method := m, pc := pc + 4, locals := ls, stack := .ref T.heap.size :: .ref T.heap.size :: rest, locked := none }) rfl d4' _ hsteps
end Ends
section Bodies
variable {l : Launch}
theorem vx_ofW {y : MethodName} {ws ws' : List Cond} {rm : Room} {Pc : Array Value → State → Prop} {Qc : Array Value → State → Outcome → State → Prop} {XC : String → State → State → Prop} {mc ms : Nat} {free : Addr → Prop} {cc : ByteArray} {maxL : Nat} {ret : Option FieldType}
    (hy : plainName y.cls = true) (hw : ws = Cond.code y cc maxL ret :: ws')
    (body : ∀ p e s m args below meth c s₁, BodyLoose p l y (headSpec ws rm) cc maxL ret e s m args below meth c s₁ → c.maxLocals = maxL → (∀ x ∈ c.exceptionTable.toList, False) → Pc args s →
      W p l e (headSpec ws rm).room s m args below meth c s.heap [] 0 0 (vx_MQ below Qc XC args s mc ms free) (entryFrame m args maxL)) : vx_Met l y ws rm Pc Qc XC mc ms free := by
  refine MetFree.of_bodyS (code := cc) (maxLocals := maxL) (ret := ret) hy ?_ ?_
  · intro args s m h hn
    obtain ⟨meth, c, h1, h2, h3, h4, h5, h6, -, -⟩ := Cond.code_spec hn (atoms_spec (ws := ws) h _ (by rw [hw]; exact List.mem_cons_self))
    exact ⟨meth, c, h1, h2, h3, h4, h5, h6⟩
  · intro p e s m args below meth c s₁ B hml hP _
    have hh0 : s₁.heap = s.heap := by rw [B.state]; rfl
    have ht : ∀ x ∈ c.exceptionTable.toList, False := by
      obtain ⟨meth9, c9, h1, h2, -, -, -, -, h7, -⟩ := Cond.code_spec B.named (atoms_spec (ws := ws) B.pre _ (by rw [hw]; exact List.mem_cons_self))
      cases Option.some.inj (h1.symm.trans B.method)
      cases Option.some.inj (h2.symm.trans (Stand.of_body B).code)
      intro x hx
      rw [Array.isEmpty_iff.mp h7] at hx
      cases hx
    obtain ⟨t, a1, o, b1, b2, b3⟩ := body p e s m args below meth c s₁ B hml ht hP s₁ hh0 (Stand.of_body B)
    exact ⟨t, o, a1, b1, b2, b3⟩
/-- the table of a body with handlers -/
theorem vx_table {p : Program} {x y : MethodName} {S : Spec} {cc bytes : ByteArray} {maxL maxL' : Nat} {ret ret' : Option FieldType} {e : Env} {s s₁ : State} {m : MethodId} {args : Array Value} {below : List Frame} {meth : Method} {c : Code} {hh : List (Nat × Nat × Nat × Nat)}
    (B : BodyLoose p l y S cc maxL ret e s m args below meth c s₁) (h : (Cond.codeWith y bytes maxL' ret' hh).before args s = true) : c.exceptionTable.toList = tableOf hh := by
  obtain ⟨m9, meth9, c9, hn9, h1, h2, -, -, h6, -⟩ := Cond.codeWith_spec h
  cases Option.some.inj (hn9.symm.trans B.named)
  cases Option.some.inj (h1.symm.trans B.method)
  cases Option.some.inj (h2.symm.trans (Stand.of_body B).code)
  rw [← h6, table_eq]
end Bodies
end VXA
/-! ===== END ===== -/
/-! ===== BEGIN a static call of a method with an exception table ===== -/
section VXS
variable {p : Program} {l : Launch} {e : Env} {R : Room} {s : State} {m : MethodId} {args : Array Value} {below : List Frame} {meth : Method} {c : Code} {T : State} {H : Heap} {locs : List Loc} {cells slots : Nat}
abbrev vx_CSW (R : Room) (s : State) (args : Array Value) (own : String) (index : Nat) (y : MethodName) (bytes : ByteArray) (maxL : Nat) (ret : Option FieldType) (hh : List (Nat × Nat × Nat × Nat)) (ws : List Cond) (rm : Room) (mc ms n : Nat) : Prop :=
  (rm.cells = mc ∧ rm.slots = ms ∧ rm.frames + 1 ≤ R.frames ∧ 8 + (maxL + 11) + rm.locals ≤ R.locals ∧ (∀ w ∈ ws, ∀ (a' : Array Value) (U : State), s.WarmedH U.vm → w.before a' U = true) ∧ Cond.codeWith y bytes maxL ret hh ∈ ws) ∧
  (Cond.codeWith y bytes maxL ret hh).before args s = true ∧ (Cond.initialized y.cls).before args s = true ∧ (y.cls ≠ "java/lang/invoke/MethodHandle" ∧ y.cls ≠ "java/lang/invoke/VarHandle") ∧
  (∀ sig, parseMethodDescriptor y.desc = some sig → n = sig.parameters.length) ∧ (Cond.methodLink own index y).before args s = true ∧ (Cond.static y).before args s = true
theorem vx_cwSW {own : String} {index maxL mc ms : Nat} {y : MethodName} {bytes : ByteArray} {ret : Option FieldType} {hh : List (Nat × Nat × Nat × Nat)} {Ts ws ws' : List Cond} {rm : Room} (n : Nat) (ht : ∀ w ∈ Ts, w.before args s = true) (hT : GoodIn Ts (va_wsS own index y ws)) (hw : ws = Cond.codeWith y bytes maxL ret hh :: ws') (hrc : rm.cells = mc) (hrs : rm.slots = ms)
    (hd : y.cls ≠ "java/lang/invoke/MethodHandle" ∧ y.cls ≠ "java/lang/invoke/VarHandle" ∧ (parseMethodDescriptor y.desc).map (fun d => d.parameters.length) = some n) (hR : rm.frames + 1 ≤ R.frames ∧ 8 + (maxL + 11) + rm.locals ≤ R.locals) :
    vx_CSW R s args own index y bytes maxL ret hh ws rm mc ms n := by
  have ok : ∀ w ∈ va_wsS own index y ws, w.before args s = true := fun w h => ht w (hT w h).1
  have hG : GoodIn Ts ws := fun w h => hT w (by unfold va_wsS; exact List.mem_append_right _ h)
  have hc : Cond.codeWith y bytes maxL ret hh ∈ ws := by rw [hw]; exact List.mem_cons_self
  refine ⟨⟨hrc, hrs, hR.1, hR.2, pay_in ht hG, hc⟩, ht _ (hG _ hc).1, ok _ (by simp [va_wsS]), ⟨hd.1, hd.2.1⟩, fun sig h => ?_, ok _ (by simp [va_wsS]), ok _ (by simp [va_wsS])⟩
  have h2 := hd.2.2
  rw [h] at h2
  exact (Option.some.inj h2).symm
theorem vx_callSW (X : Stand p l e R s m args below meth c T locs cells slots) (hexec : p.tables.exec = Jvm.exec) {own : String} {index : Nat} {y : MethodName} {bytes : ByteArray} {maxL : Nat} {ret : Option FieldType} {hh : List (Nat × Nat × Nat × Nat)}
    (hown : s.vm.findClass own = some m.cls) (hlink : (Cond.methodLink own index y).before args s = true) (hstat : (Cond.static y).before args s = true) (hinit : (Cond.initialized y.cls).before args s = true)
    (hcode : (Cond.codeWith y bytes maxL ret hh).before args s = true) (hy : y.cls ≠ "java/lang/invoke/MethodHandle" ∧ y.cls ≠ "java/lang/invoke/VarHandle")
    {W9 : Nat} {Pre : Pt → Array Value → Prop} {Post : Pt → Array Value → Option Value → Pt → Prop} (hK : Back l R p e below s args y 3 W9 Pre Post)
    {g : JFrame} (hg : g.method = m) (hsize : g.locals.size = c.maxLocals) {argsL rest : List Value} (hlen : ∀ sig, parseMethodDescriptor y.desc = some sig → argsL.length = sig.parameters.length)
    (hstack : g.stack = argsL.reverse ++ rest) (hW : 2 * g.monitorRoom + (rest.map fun v => v.category).sum ≤ W9) (hdg : decode c.code g.pc = .ok (.invokestatic index, 3))
    (hpre : ∀ vm₁, s.WarmedH vm₁ → Pre ⟨T.setVm vm₁, locs, cells, slots⟩ argsL.toArray) :
    ∃ (v : Option Value) (vm₁ : Vm) (B : Pt), s.WarmedH vm₁ ∧ Stand p l e R s m args below meth c B.U B.locs B.cells B.slots ∧ Post ⟨T.setVm vm₁, locs, cells, slots⟩ argsL.toArray v B ∧
      ∀ target, Steps p.tables e below (B.U.setTop { g with pc := g.pc + 3, stack := v.toList ++ rest }) target → Steps p.tables e below (T.setTop g) target := by
  obtain ⟨mk, methM, cM, hnamed, hmethM, -, -, -, -, -, -, hsigM⟩ := Cond.codeWith_spec hcode
  have hstatic : methM.isStatic = true := Cond.static_spec hnamed hmethM hstat
  obtain ⟨kP, hkP, -⟩ := className_of_methodNamed hnamed
  have hinitP : kP.init = .initialized := Cond.initialized_spec (findClass_of_methodNamed hnamed) hkP hinit
  obtain ⟨vm₁, X₁, hstep₁⟩ := X.invokestatic hexec hown hlink hnamed hmethM hstatic hkP hinitP hy (g := g) hg (argsL := argsL) (rest := rest) (hlen _ hsigM) hstack hdg
  obtain ⟨v, B, X', hpost, hsteps⟩ := hK m meth c ⟨T.setVm vm₁, locs, cells, slots⟩ { g with stack := rest } (.invokestatic index) mk argsL.toArray X₁ hg hsize hdg hW (X₁.named hnamed) (hpre vm₁ X₁.warmed)
  exact ⟨v, vm₁, B, X₁.warmed, X', hpost, fun target h => hstep₁ _ fun acts => by rw [doInvoke_state]; exact hsteps.trans h⟩
theorem vx_runSW {y : MethodName} {bytes cc : ByteArray} {maxL nL mc ms n index : Nat} {ret : Option FieldType} {hh : List (Nat × Nat × Nat × Nat)} {ws : List Cond} {rm : Room} {Pc : Array Value → State → Prop} {Qc : Array Value → State → Outcome → State → Prop} {free : Addr → Prop} {Ts : List Cond} {own : String} {As rest : List Value} {g : JFrame}
    (S : CallFix p m c cc nL s args Ts own) (hM : Met l y ws rm Pc Qc mc ms free) (cw : vx_CSW R s args own index y bytes maxL ret hh ws rm mc ms n) (hp : PreS s H Pc As)
    (hg : g.method = m) (hn : As.length = n) (hsize : g.locals.size = nL) (hstack : g.stack = As.reverse ++ rest) (hW : 2 * g.monitorRoom + (rest.map fun v => v.category).sum ≤ 8) (hdg : decode cc g.pc = .ok (.invokestatic index, 3)) (hf : cells + mc ≤ R.cells ∧ slots + ms ≤ R.slots) :
    va_Run p l e R s m args below meth c H locs cells slots mc ms g rest (Qc As.toArray) (free) := by
  obtain ⟨⟨hrc, hrs, hfr, hlo, hws, hcw⟩, hcode, hini, hy, hlen, hl, hstt⟩ := cw
  have hK : Back l R p e below s args y 3 8 (PreOf R mc ms Pc) (PostOf Qc mc ms free) := va_backW (hh := hh) (bytes := bytes) (maxL := maxL) (ret := ret) hM hp.1 hrc hrs hfr hlo hws hcw (fun a' U hW => word_at hW (Or.inl (by first | rfl | simp [Cond.onTables, Cond.keeps, Cond.steady])) hini)
  obtain ⟨hx, hb, hml, ho, -⟩ := S
  intro T hT X
  obtain ⟨v, vm₁, ⟨U', l2, c2, s2⟩, hW₁, X', ⟨g', mk, t, L, e1, e2, hq, h1, hL, h2, h3⟩, st⟩ := vx_callSW X hx (hh := hh) (bytes := bytes) (maxL := maxL) (ret := ret) ho hl hstt hini hcode hy hK hg (hsize.trans hml.symm) (argsL := As) (rest := rest) (fun sig h => hn.trans (hlen sig h)) hstack hW (by rw [hb]; exact hdg)
    (fun vm₁ hW₁ => ⟨hf.1, hf.2, hp.2 (T.setVm vm₁) hT hW₁⟩)
  dsimp only [Pt.U, Pt.locs, Pt.cells, Pt.slots] at X' e1 e2 h1 h2 h3 st
  subst h1; subst h2; subst h3
  exact ⟨v, (T.setVm vm₁).calling g' mk As.toArray, t, U', L, hT, X', hL, e1, e2, hq, st⟩
/-- not caught here, past rows that name other classes: it goes on to the caller -/
theorem vx_outP {p : Program} {l : Launch} {e : Env} {R : Room} {s : State} {m : MethodId} {args : Array Value} {below : List Frame} {meth : Method} {c : Code} {H : Heap} {locs : List Loc} {cells slots : Nat} {free : Addr → Prop} {ls : Array Slot} {rest : List Value} {Qc : Array Value → State → Outcome → State → Prop} {XC : String → State → State → Prop}
    {pc : Nat} {own E : String} {ce : Cell} {q : Addr} {mc ms : Nat} (hown : s.vm.findClass own = some m.cls) (hlocks : meth.locks = false)
    (hpass : ∀ z ∈ c.exceptionTable.toList, covers z pc = false ∨ (z.catchType ≠ 0 ∧ ∃ nm : String, (Cond.classLink own z.catchType nm).before args s = true ∧ va_Nc E nm s)) (hcell : H[q]? = some ce) (hv : ce.vm = .none) (hcl : s.vm.findClass E = some ce.cls)
    (hx : ∀ t : State, t.heap = H → s.vm.Alike t.vm → XC E s t) (hf : ∀ z ∈ locs, free z.base) (hc : cells ≤ mc) (hs : slots ≤ ms) :
    vx_W p l e R s m args below meth c H locs cells slots (vx_MQ below Qc XC args s mc ms free) (F0 m pc ls rest) q := by
  intro T hT X
  have hpl : e.platform.magicAccessors = ({} : Platform).magicAccessors := by rw [X.admits.platform]
  obtain ⟨vm', hW', X', st⟩ := X.outThrough hlocks q (g := F0 m pc ls rest) rfl rfl rfl (cell := ce) (by rw [hT]; exact hcell) (by rw [hv]; rfl)
    (by obtain ⟨k9, h9, -⟩ := Vm.findClass_spec hcl; exact ⟨k9, h9⟩) (fun z hz => by
      rcases hpass z hz with h | ⟨hz0, nm, hl1, hn1⟩
      · exact Or.inl h
      · obtain ⟨c6, hc6, hcl6⟩ := Cond.classLink_spec hown hl1 e.platform hpl
        obtain ⟨a8, b8, h1, h2, h3⟩ := hn1
        cases Option.some.inj (h1.symm.trans hcl)
        cases Option.some.inj (h2.symm.trans hc6)
        exact Or.inr ⟨hz0, _, hcl6, h3⟩)
  obtain ⟨g₀, hfr⟩ := X'.frames_eq
  have hcell9 : ((T.setVm vm').setFrames (.throwing q :: below)).heap[q]? = some ce := by
    show T.heap[q]? = some ce
    rw [hT]; exact hcell
  have hend : Ended ((T.setVm vm').setFrames (.throwing q :: below)) below (.threw q) := State.frames_setFrames _ (State.cur_lt_of_frames hfr)
  refine ⟨(T.setVm vm').setFrames (.throwing q :: below), ?_, .threw q, X'.here.running, hend, Or.inr ⟨q, rfl, E, ce, locs, hx _ hT (X'.ends _).1.alike, hcell9, hv, hcl, (X'.ends _).1, (X'.ends _).2.mono hc hs, hf⟩⟩
  rw [X.pushThrowing_eq]
  exact st
/-- a thing of a world lies in the heap -/
theorem vx_lt {D : va_G} {cl : List vw_C} {ws : va_W} {H1 : Heap} (h : va_P D cl ws H1) {k : Nat} {q : Nat × va_E} (hk : ws[k]? = some q) : q.1 < H1.size := (h k q hk).lt
end VXS
/-! ===== END ===== -/
/-! ===== BEGIN methods with a table of their own: called by a name, returning or throwing ===== -/
section VXH
/-! vx_backW, vx_callVX, vx_callSX, vx_callVW, vx_runVW, vx_runVX, vx_runSX, vx_ofWH follow the same proofs as their sisters above (Free/Laws.lean, Shelf42/LK1.lean); vx_outP calls Shelf42/NT130.lean (outThrough). -/
section
variable {l : Launch} {R : Room} {p : Program} {e : Env} {below : List Frame} {s : State} {sargs : Array Value} {y : MethodName} {len W9 : Nat}
theorem vx_backW {ws : List Cond} {rm : Room} {Pc : Array Value → State → Prop} {Qc : Array Value → State → Outcome → State → Prop} {XC : String → State → State → Prop} {mc ms : Nat} {free : Addr → Prop} {bytes : ByteArray} {maxL : Nat} {ret : Option FieldType} {hh : List (Nat × Nat × Nat × Nat)}
    (hM : vx_Met l y ws rm Pc Qc XC mc ms free) (hblind : FrameBlind Pc) (hrc : rm.cells = mc) (hrs : rm.slots = ms)
    (hframes : rm.frames + 1 ≤ R.frames) (hlocals : W9 + (maxL + 11) + rm.locals ≤ R.locals)
    (hws : ∀ w ∈ ws, ∀ a' U, s.WarmedH U.vm → w.before a' U = true) (hcode : Cond.codeWith y bytes maxL ret hh ∈ ws) (hinit : ∀ a' U, s.WarmedH U.vm → (Cond.initialized y.cls).before a' U = true) :
    vx_Back l R p e below s sargs y len W9 (PreOf R mc ms Pc) (PostOf Qc mc ms free) (vx_Post XC mc ms free) := by
  intro m meth c A g ig mk a X hg hsize hdg hW hn hp
  have h1 : (headSpec ws rm).pre.before a A.U = true := atoms_intro fun w hw => hws w hw _ _ X.warmed
  have h2 : (Cond.codeWith y bytes maxL ret hh).before a A.U = true := hws _ hcode _ _ X.warmed
  have h3 : (Cond.initialized y.cls).before a A.U = true := hinit _ _ X.warmed
  have h4 : A.cells + (headSpec ws rm).room.cells ≤ R.cells := by rw [show (headSpec ws rm).room.cells = mc from hrc]; exact hp.1
  have h5 : A.slots + (headSpec ws rm).room.slots ≤ R.slots := by rw [show (headSpec ws rm).room.slots = ms from hrs]; exact hp.2.1
  have hPc : Pc a (A.U.calling g mk a) := hblind _ _ _ _ hp.2.2
  obtain ⟨U, Ls, c0, s0⟩ := A
  dsimp only [Pt.U, Pt.locs, Pt.cells, Pt.slots] at h1 h2 h3 h4 h5 X hn hPc ⊢
  obtain ⟨m9, methY, cY, hn9, hmY, hcY, -, hlY, -⟩ := Cond.codeWith_spec h2
  cases Option.some.inj (hn9.symm.trans hn)
  obtain ⟨kY, hkY, -⟩ := className_of_methodNamed hn
  have hinitY : kY.init = .initialized := Cond.initialized_spec (findClass_of_methodNamed hn) hkY h3
  have h : At U g.method c below := by rw [hg]; exact X.here
  have hlocals9 : W9 + (maxL + 11) + (headSpec ws rm).room.locals ≤ R.locals := hlocals
  have happ : (headSpec ws rm).appliesLoose y e.platform (U.calling g mk a) = true :=
    Spec.appliesLoose_calling (g := g) h hdg hn hkY hinitY
      (X.room_calling (g := g) (R' := (headSpec ws rm).room) hsize hmY hcY hframes (by rw [hlY]; omega) h4 h5) h1
  obtain ⟨mid, hmid⟩ := h.above
  have hfr : (U.setTop g).frames = (.java g :: mid) ++ below := by rw [State.frames_setTop' g h.top, hmid]; rfl
  obtain ⟨o, s₂, hsteps, -, hend, hq⟩ := Steps.callFree hM p X.admits X.cas X.clock (acts := []) hfr happ hPc trivial
  have hq' : vx_Q Qc XC mc ms free a (U.calling g mk a) o s₂ := hq
  rw [State.frames_setTop' g h.top] at hend
  obtain ⟨g₀, hg0⟩ := Option.isSome_iff_exists.mp h.top
  obtain ⟨r, hr⟩ := State.topJava?_eq_some.mp hg0
  have hr' : (({ U with heap := s₂.heap, slotsUsed := s₂.slotsUsed } : State).setVm s₂.vm).frames = .java g₀ :: r := hr
  rcases hq' with ⟨hqc, L, hfe, hL⟩ | ⟨q, rfl, E, ce, L, hx, hce, hcv, hcl, hW₂, hsm, hL⟩
  · obtain ⟨⟨v, rfl⟩, hW₂, e2, q2, q3, q4, q5, q6⟩ := id hfe
    have e3 : s₂ = ({ (U.calling g mk a).setFrames s₂.frames with heap := s₂.heap, slotsUsed := s₂.slotsUsed } : State).setVm s₂.vm := by
      have : s₂ = ({ s₂ with vm := (U.calling g mk a).vm } : State).setVm s₂.vm := rfl
      rw [e2] at this
      exact this
    obtain ⟨c₂, i₂, len₂, hc₂, hd₂, hf₂⟩ := hend
    have hW' : U.WarmedH s₂.vm := hW₂
    have hcc : c₂ = c := by
      have h1 : s₂.code? g.method = U.code? g.method := by
        rw [State.code?_eq, State.code?_eq, hW'.alike.method?]
      exact Option.some.inj (hc₂.symm.trans (h1.trans h.code))
    subst hcc
    have hlen : len₂ = len := by rw [hdg] at hd₂; cases hd₂; rfl
    subst hlen
    have hs₂ : s₂ = (({ U with heap := s₂.heap, slotsUsed := s₂.slotsUsed } : State).setVm s₂.vm).setTop { g with pc := g.pc + len₂, stack := v.toList ++ g.stack } := by
      refine e3.trans ?_
      rw [hf₂, State.calling_eq h.top, State.setFrames_setFrames, State.setTop_of_frames _ hr', hr]
      rfl
    have hsame : U.sameButNew ({ U with heap := s₂.heap, slotsUsed := s₂.slotsUsed } : State) L mc ms := by
      refine ⟨?_, q2, q3, q4, q5, q6⟩
      obtain ⟨t, ht, -⟩ := State.frames_cons hr
      show ({ U with heap := s₂.heap, slotsUsed := s₂.slotsUsed } : State) = { U.setFrames U.frames with heap := s₂.heap, slotsUsed := s₂.slotsUsed }
      rw [State.setFrames_self ht]
    subst hg
    refine Or.inl ⟨v, ⟨(({ U with heap := s₂.heap, slotsUsed := s₂.slotsUsed } : State).setVm s₂.vm), Ls ++ L, c0 + mc, s0 + ms⟩,
      ⟨X.admits, X.cas, X.clock, X.frames, X.room, X.hears, X.method, X.code, (X.here.setHeapUsed s₂.heap s₂.slotsUsed).setVm hW'.alike, X.tail, State.WarmedH.trans X.warmed hW', X.limits, X.bytes, X.same.trans (hsame.setVm s.vm)⟩,
      ⟨g, mk, s₂, L, rfl, rfl, hqc, rfl, hL, rfl, rfl⟩, ?_⟩
    show Steps p.tables e below _ ((({ U with heap := s₂.heap, slotsUsed := s₂.slotsUsed } : State).setVm s₂.vm).setTop { g with pc := g.pc + len₂, stack := v.toList ++ g.stack })
    rw [← hs₂]
    exact hsteps
  · obtain ⟨e2, q2, q3, q4, q5, q6⟩ := id hsm
    have e3 : s₂ = ({ (U.calling g mk a).setFrames s₂.frames with heap := s₂.heap, slotsUsed := s₂.slotsUsed } : State).setVm s₂.vm := by
      have : s₂ = ({ s₂ with vm := (U.calling g mk a).vm } : State).setVm s₂.vm := rfl
      rw [e2] at this
      exact this
    have hf₂ : s₂.frames = .throwing q :: .java g :: U.frames.tail := hend
    have hW' : U.WarmedH s₂.vm := hW₂
    have hs₂ : s₂ = ((({ U with heap := s₂.heap, slotsUsed := s₂.slotsUsed } : State).setVm s₂.vm).setTop g).pushFrame (.throwing q) := by
      refine e3.trans ?_
      rw [hf₂, State.calling_eq h.top, State.setFrames_setFrames, State.pushFrame, State.frames_setTop _ hr', State.setTop_of_frames _ hr', State.setFrames_setFrames, hr]
      rfl
    have hsame : U.sameButNew ({ U with heap := s₂.heap, slotsUsed := s₂.slotsUsed } : State) L mc ms := by
      refine ⟨?_, q2, q3, q4, q5, q6⟩
      obtain ⟨t, ht, -⟩ := State.frames_cons hr
      show ({ U with heap := s₂.heap, slotsUsed := s₂.slotsUsed } : State) = { U.setFrames U.frames with heap := s₂.heap, slotsUsed := s₂.slotsUsed }
      rw [State.setFrames_self ht]
    subst hg
    refine Or.inr ⟨q, ⟨(({ U with heap := s₂.heap, slotsUsed := s₂.slotsUsed } : State).setVm s₂.vm), Ls ++ L, c0 + mc, s0 + ms⟩,
      ⟨X.admits, X.cas, X.clock, X.frames, X.room, X.hears, X.method, X.code, (X.here.setHeapUsed s₂.heap s₂.slotsUsed).setVm hW'.alike, X.tail, State.WarmedH.trans X.warmed hW', X.limits, X.bytes, X.same.trans (hsame.setVm s.vm)⟩,
      ⟨g, mk, s₂, L, E, ce, rfl, rfl, hx, hce, hcv, hcl, rfl, hL, rfl, rfl⟩, ?_⟩
    show Steps p.tables e below _ (((({ U with heap := s₂.heap, slotsUsed := s₂.slotsUsed } : State).setVm s₂.vm).setTop g).pushFrame (.throwing q))
    rw [← hs₂]
    exact hsteps
end
variable {p : Program} {l : Launch} {e : Env} {R : Room} {s : State} {m : MethodId} {args : Array Value} {below : List Frame} {meth : Method} {c : Code} {T : State} {H : Heap} {locs : List Loc} {cells slots : Nat}
theorem vx_callVX (X : Stand p l e R s m args below meth c T locs cells slots) (hexec : p.tables.exec = Jvm.exec) {own C : String} {index : Nat} {y : MethodName} {bytes : ByteArray} {maxL : Nat} {ret : Option FieldType} {hh : List (Nat × Nat × Nat × Nat)}
    (hown : s.vm.findClass own = some m.cls) (hlink : (Cond.methodLink own index y).before args s = true) (hinst : (Cond.instanceMethod y).before args s = true) (hsel : (Cond.selects C y y).before args s = true)
    (hcode : (Cond.codeWith y bytes maxL ret hh).before args s = true) (hy : y.cls ≠ "java/lang/invoke/MethodHandle" ∧ y.cls ≠ "java/lang/invoke/VarHandle")
    {W9 : Nat} {Pre : Pt → Array Value → Prop} {Post : Pt → Array Value → Option Value → Pt → Prop} {PostX : Pt → Array Value → Addr → Pt → Prop} (hK : vx_Back l R p e below s args y 3 W9 Pre Post PostX)
    {b : Addr} {cellB : Cell} (hcell : T.heap[b]? = some cellB) (hobj : cellB.vm.isStatics = false) (hcls : s.vm.findClass C = some cellB.cls)
    {g : JFrame} (hg : g.method = m) (hsize : g.locals.size = c.maxLocals) {argsL rest : List Value} (hlen : ∀ sig, parseMethodDescriptor y.desc = some sig → argsL.length = sig.parameters.length)
    (hstack : g.stack = argsL.reverse ++ .ref b :: rest) (hW : 2 * g.monitorRoom + (rest.map fun v => v.category).sum ≤ W9) (hdg : decode c.code g.pc = .ok (.invokevirtual index, 3))
    (hpre : ∀ vm₁, s.WarmedH vm₁ → Pre ⟨T.setVm vm₁, locs, cells, slots⟩ (Value.ref b :: argsL).toArray) :
    (∃ (v : Option Value) (vm₁ : Vm) (B : Pt), s.WarmedH vm₁ ∧ Stand p l e R s m args below meth c B.U B.locs B.cells B.slots ∧ Post ⟨T.setVm vm₁, locs, cells, slots⟩ (Value.ref b :: argsL).toArray v B ∧
      ∀ target, Steps p.tables e below (B.U.setTop { g with pc := g.pc + 3, stack := v.toList ++ rest }) target → Steps p.tables e below (T.setTop g) target) ∨
    (∃ (q : Addr) (vm₁ : Vm) (B : Pt), s.WarmedH vm₁ ∧ Stand p l e R s m args below meth c B.U B.locs B.cells B.slots ∧ PostX ⟨T.setVm vm₁, locs, cells, slots⟩ (Value.ref b :: argsL).toArray q B ∧
      Steps p.tables e below (T.setTop g) ((B.U.setTop { g with stack := rest }).pushFrame (.throwing q))) := by
  obtain ⟨mk, methM, hnamed, hmethM, hstM, habM⟩ := Cond.instanceMethod_spec hinst
  obtain ⟨m8, methM', cM, hn8, hmethM', -, -, -, -, -, -, hsigM⟩ := Cond.codeWith_spec hcode
  cases Option.some.inj (hn8.symm.trans hnamed)
  cases hmethM.symm.trans hmethM'
  obtain ⟨c2, r2, m2, q1, q2, q3, q4, kP, hkP, hkPi⟩ := Cond.selects_spec hsel
  cases hcls.symm.trans q1
  cases (State.methodFound?_of_named hnamed hy).symm.trans q2
  cases hnamed.symm.trans q3
  have hselP : selectMethod e.platform s.vm cellB.cls mk = .method mk := by rw [Launch.admits_selectMethod X.admits]; exact q4
  obtain ⟨vm₁, X₁, hstep₁⟩ := X.invokevirtual hexec hown hlink hnamed hmethM hstM hkP hkPi hy (a := b) (cell := cellB) hcell
    (fun z h => by rw [h] at hobj; cases hobj) hselP hmethM habM hkP hkPi (g := g) hg (argsL := argsL) (rest := rest) (hlen _ hsigM) hstack hdg
  rcases hK m meth c ⟨T.setVm vm₁, locs, cells, slots⟩ { g with stack := rest } (.invokevirtual index) mk (Value.ref b :: argsL).toArray X₁ hg hsize hdg hW (X₁.named hnamed) (hpre vm₁ X₁.warmed) with ⟨v, B, X', hpost, hsteps⟩ | ⟨q, B, X', hpost, hsteps⟩
  · exact Or.inl ⟨v, vm₁, B, X₁.warmed, X', hpost, fun target h => hstep₁ _ fun acts => by rw [doInvoke_state]; exact hsteps.trans h⟩
  · exact Or.inr ⟨q, vm₁, B, X₁.warmed, X', hpost, hstep₁ _ fun acts => by rw [doInvoke_state]; exact hsteps⟩
theorem vx_callSX (X : Stand p l e R s m args below meth c T locs cells slots) (hexec : p.tables.exec = Jvm.exec) {own : String} {index : Nat} {y : MethodName} {bytes : ByteArray} {maxL : Nat} {ret : Option FieldType} {hh : List (Nat × Nat × Nat × Nat)}
    (hown : s.vm.findClass own = some m.cls) (hlink : (Cond.methodLink own index y).before args s = true) (hstat : (Cond.static y).before args s = true) (hinit : (Cond.initialized y.cls).before args s = true)
    (hcode : (Cond.codeWith y bytes maxL ret hh).before args s = true) (hy : y.cls ≠ "java/lang/invoke/MethodHandle" ∧ y.cls ≠ "java/lang/invoke/VarHandle")
    {W9 : Nat} {Pre : Pt → Array Value → Prop} {Post : Pt → Array Value → Option Value → Pt → Prop} {PostX : Pt → Array Value → Addr → Pt → Prop} (hK : vx_Back l R p e below s args y 3 W9 Pre Post PostX)
    {g : JFrame} (hg : g.method = m) (hsize : g.locals.size = c.maxLocals) {argsL rest : List Value} (hlen : ∀ sig, parseMethodDescriptor y.desc = some sig → argsL.length = sig.parameters.length)
    (hstack : g.stack = argsL.reverse ++ rest) (hW : 2 * g.monitorRoom + (rest.map fun v => v.category).sum ≤ W9) (hdg : decode c.code g.pc = .ok (.invokestatic index, 3))
    (hpre : ∀ vm₁, s.WarmedH vm₁ → Pre ⟨T.setVm vm₁, locs, cells, slots⟩ argsL.toArray) :
    (∃ (v : Option Value) (vm₁ : Vm) (B : Pt), s.WarmedH vm₁ ∧ Stand p l e R s m args below meth c B.U B.locs B.cells B.slots ∧ Post ⟨T.setVm vm₁, locs, cells, slots⟩ argsL.toArray v B ∧
      ∀ target, Steps p.tables e below (B.U.setTop { g with pc := g.pc + 3, stack := v.toList ++ rest }) target → Steps p.tables e below (T.setTop g) target) ∨
    (∃ (q : Addr) (vm₁ : Vm) (B : Pt), s.WarmedH vm₁ ∧ Stand p l e R s m args below meth c B.U B.locs B.cells B.slots ∧ PostX ⟨T.setVm vm₁, locs, cells, slots⟩ argsL.toArray q B ∧
      Steps p.tables e below (T.setTop g) ((B.U.setTop { g with stack := rest }).pushFrame (.throwing q))) := by
  obtain ⟨mk, methM, cM, hnamed, hmethM, -, -, -, -, -, -, hsigM⟩ := Cond.codeWith_spec hcode
  have hstatic : methM.isStatic = true := Cond.static_spec hnamed hmethM hstat
  obtain ⟨kP, hkP, -⟩ := className_of_methodNamed hnamed
  have hinitP : kP.init = .initialized := Cond.initialized_spec (findClass_of_methodNamed hnamed) hkP hinit
  obtain ⟨vm₁, X₁, hstep₁⟩ := X.invokestatic hexec hown hlink hnamed hmethM hstatic hkP hinitP hy (g := g) hg (argsL := argsL) (rest := rest) (hlen _ hsigM) hstack hdg
  rcases hK m meth c ⟨T.setVm vm₁, locs, cells, slots⟩ { g with stack := rest } (.invokestatic index) mk argsL.toArray X₁ hg hsize hdg hW (X₁.named hnamed) (hpre vm₁ X₁.warmed) with ⟨v, B, X', hpost, hsteps⟩ | ⟨q, B, X', hpost, hsteps⟩
  · exact Or.inl ⟨v, vm₁, B, X₁.warmed, X', hpost, fun target h => hstep₁ _ fun acts => by rw [doInvoke_state]; exact hsteps.trans h⟩
  · exact Or.inr ⟨q, vm₁, B, X₁.warmed, X', hpost, hstep₁ _ fun acts => by rw [doInvoke_state]; exact hsteps⟩
theorem vx_callVW (X : Stand p l e R s m args below meth c T locs cells slots) (hexec : p.tables.exec = Jvm.exec) {own C : String} {index : Nat} {y : MethodName} {bytes : ByteArray} {maxL : Nat} {ret : Option FieldType} {hh : List (Nat × Nat × Nat × Nat)}
    (hown : s.vm.findClass own = some m.cls) (hlink : (Cond.methodLink own index y).before args s = true) (hinst : (Cond.instanceMethod y).before args s = true) (hsel : (Cond.selects C y y).before args s = true)
    (hcode : (Cond.codeWith y bytes maxL ret hh).before args s = true) (hy : y.cls ≠ "java/lang/invoke/MethodHandle" ∧ y.cls ≠ "java/lang/invoke/VarHandle")
    {W9 : Nat} {Pre : Pt → Array Value → Prop} {Post : Pt → Array Value → Option Value → Pt → Prop} (hK : Back l R p e below s args y 3 W9 Pre Post)
    {b : Addr} {cellB : Cell} (hcell : T.heap[b]? = some cellB) (hobj : cellB.vm.isStatics = false) (hcls : s.vm.findClass C = some cellB.cls)
    {g : JFrame} (hg : g.method = m) (hsize : g.locals.size = c.maxLocals) {argsL rest : List Value} (hlen : ∀ sig, parseMethodDescriptor y.desc = some sig → argsL.length = sig.parameters.length)
    (hstack : g.stack = argsL.reverse ++ .ref b :: rest) (hW : 2 * g.monitorRoom + (rest.map fun v => v.category).sum ≤ W9) (hdg : decode c.code g.pc = .ok (.invokevirtual index, 3))
    (hpre : ∀ vm₁, s.WarmedH vm₁ → Pre ⟨T.setVm vm₁, locs, cells, slots⟩ (Value.ref b :: argsL).toArray) :
    ∃ (v : Option Value) (vm₁ : Vm) (B : Pt), s.WarmedH vm₁ ∧ Stand p l e R s m args below meth c B.U B.locs B.cells B.slots ∧ Post ⟨T.setVm vm₁, locs, cells, slots⟩ (Value.ref b :: argsL).toArray v B ∧
      ∀ target, Steps p.tables e below (B.U.setTop { g with pc := g.pc + 3, stack := v.toList ++ rest }) target → Steps p.tables e below (T.setTop g) target := by
  obtain ⟨mk, methM, hnamed, hmethM, hstM, habM⟩ := Cond.instanceMethod_spec hinst
  obtain ⟨m8, methM', cM, hn8, hmethM', -, -, -, -, -, -, hsigM⟩ := Cond.codeWith_spec hcode
  cases Option.some.inj (hn8.symm.trans hnamed)
  cases hmethM.symm.trans hmethM'
  obtain ⟨c2, r2, m2, q1, q2, q3, q4, kP, hkP, hkPi⟩ := Cond.selects_spec hsel
  cases hcls.symm.trans q1
  cases (State.methodFound?_of_named hnamed hy).symm.trans q2
  cases hnamed.symm.trans q3
  have hselP : selectMethod e.platform s.vm cellB.cls mk = .method mk := by rw [Launch.admits_selectMethod X.admits]; exact q4
  obtain ⟨vm₁, X₁, hstep₁⟩ := X.invokevirtual hexec hown hlink hnamed hmethM hstM hkP hkPi hy (a := b) (cell := cellB) hcell
    (fun z h => by rw [h] at hobj; cases hobj) hselP hmethM habM hkP hkPi (g := g) hg (argsL := argsL) (rest := rest) (hlen _ hsigM) hstack hdg
  obtain ⟨v, B, X', hpost, hsteps⟩ := hK m meth c ⟨T.setVm vm₁, locs, cells, slots⟩ { g with stack := rest } (.invokevirtual index) mk (Value.ref b :: argsL).toArray X₁ hg hsize hdg hW (X₁.named hnamed) (hpre vm₁ X₁.warmed)
  exact ⟨v, vm₁, B, X₁.warmed, X', hpost, fun target h => hstep₁ _ fun acts => by rw [doInvoke_state]; exact hsteps.trans h⟩
abbrev vx_CVW (R : Room) (s : State) (args : Array Value) (own C : String) (index : Nat) (y : MethodName) (bytes : ByteArray) (maxL : Nat) (ret : Option FieldType) (hh : List (Nat × Nat × Nat × Nat)) (ws : List Cond) (rm : Room) (mc ms n : Nat) : Prop :=
  (rm.cells = mc ∧ rm.slots = ms ∧ rm.frames + 1 ≤ R.frames ∧ 8 + (maxL + 11) + rm.locals ≤ R.locals ∧ (∀ w ∈ ws, ∀ (a' : Array Value) (U : State), s.WarmedH U.vm → w.before a' U = true) ∧ Cond.codeWith y bytes maxL ret hh ∈ ws) ∧
  (Cond.codeWith y bytes maxL ret hh).before args s = true ∧ (Cond.initialized y.cls).before args s = true ∧ (y.cls ≠ "java/lang/invoke/MethodHandle" ∧ y.cls ≠ "java/lang/invoke/VarHandle") ∧
  (∀ sig, parseMethodDescriptor y.desc = some sig → n = sig.parameters.length) ∧ (Cond.methodLink own index y).before args s = true ∧ (Cond.instanceMethod y).before args s = true ∧ (Cond.selects C y y).before args s = true
theorem vx_cwVW {own C : String} {index maxL mc ms : Nat} {y : MethodName} {bytes : ByteArray} {ret : Option FieldType} {hh : List (Nat × Nat × Nat × Nat)} {Ts ws ws' : List Cond} {rm : Room} (n : Nat) (ht : ∀ w ∈ Ts, w.before args s = true) (hT : GoodIn Ts (wsV own index C y ws)) (hw : ws = Cond.codeWith y bytes maxL ret hh :: ws') (hrc : rm.cells = mc) (hrs : rm.slots = ms)
    (hd : y.cls = C ∧ y.cls ≠ "java/lang/invoke/MethodHandle" ∧ y.cls ≠ "java/lang/invoke/VarHandle" ∧ (parseMethodDescriptor y.desc).map (fun d => d.parameters.length) = some n) (hR : rm.frames + 1 ≤ R.frames ∧ 8 + (maxL + 11) + rm.locals ≤ R.locals) :
    vx_CVW R s args own C index y bytes maxL ret hh ws rm mc ms n := by
  obtain ⟨hC, hd⟩ := hd
  subst hC
  have ok : ∀ w ∈ wsV own index y.cls y ws, w.before args s = true := fun w h => ht w (hT w h).1
  have hG : GoodIn Ts ws := fun w h => hT w (by unfold wsV; exact List.mem_append_right _ h)
  have hc : Cond.codeWith y bytes maxL ret hh ∈ ws := by rw [hw]; exact List.mem_cons_self
  refine ⟨⟨hrc, hrs, hR.1, hR.2, pay_in ht hG, hc⟩, ht _ (hG _ hc).1, ok _ (by simp [wsV]), ⟨hd.1, hd.2.1⟩, fun sig h => ?_, ok _ (by simp [wsV]), ok _ (by simp [wsV]), ok _ (by simp [wsV])⟩
  have h2 := hd.2.2
  rw [h] at h2
  exact (Option.some.inj h2).symm
theorem vx_runVW {y : MethodName} {bytes cc : ByteArray} {maxL nL mc ms n index : Nat} {ret : Option FieldType} {hh : List (Nat × Nat × Nat × Nat)} {ws : List Cond} {rm : Room} {Pc : Array Value → State → Prop} {Qc : Array Value → State → Outcome → State → Prop} {free : Addr → Prop} {Ts : List Cond} {own C : String} {b : Addr} {As rest : List Value} {g : JFrame}
    (S : CallFix p m c cc nL s args Ts own) (hM : Met l y ws rm Pc Qc mc ms free) (cw : vx_CVW R s args own C index y bytes maxL ret hh ws rm mc ms n) (hp : PreV s H C b Pc As)
    (hg : g.method = m) (hn : As.length = n) (hsize : g.locals.size = nL) (hstack : g.stack = As.reverse ++ .ref b :: rest) (hW : 2 * g.monitorRoom + (rest.map fun v => v.category).sum ≤ 8) (hdg : decode cc g.pc = .ok (.invokevirtual index, 3)) (hf : cells + mc ≤ R.cells ∧ slots + ms ≤ R.slots) :
    va_Run p l e R s m args below meth c H locs cells slots mc ms g rest (Qc (Value.ref b :: As).toArray) free := by
  obtain ⟨⟨hrc, hrs, hfr, hlo, hws, hcw⟩, hcode, hini, hy, hlen, hl, hin, hse⟩ := cw
  have hK : Back l R p e below s args y 3 8 (PreOf R mc ms Pc) (PostOf Qc mc ms free) := va_backW (hh := hh) (bytes := bytes) (maxL := maxL) (ret := ret) hM hp.1 hrc hrs hfr hlo hws hcw (fun a' U hW => word_at hW (Or.inl (by first | rfl | simp [Cond.onTables, Cond.keeps, Cond.steady])) hini)
  obtain ⟨hx, hb, hml, ho, -⟩ := S
  obtain ⟨-, ⟨cellB, hcB, hoB, hclB⟩, hPc⟩ := hp
  intro T hT X
  obtain ⟨v, vm₁, ⟨U', l2, c2, s2⟩, hW₁, X', ⟨g', mk, t, L, e1, e2, hq, h1, hL, h2, h3⟩, st⟩ := vx_callVW X hx (C := C) (hh := hh) (bytes := bytes) (maxL := maxL) (ret := ret) ho hl hin hse hcode hy hK (by rw [hT]; exact hcB) hoB hclB hg (hsize.trans hml.symm) (argsL := As) (rest := rest) (fun sig h => hn.trans (hlen sig h)) hstack hW (by rw [hb]; exact hdg)
    (fun vm₁ hW₁ => ⟨hf.1, hf.2, hPc (T.setVm vm₁) hT hW₁⟩)
  dsimp only [Pt.U, Pt.locs, Pt.cells, Pt.slots] at X' e1 e2 h1 h2 h3 st
  subst h1; subst h2; subst h3
  exact ⟨v, (T.setVm vm₁).calling g' mk (Value.ref b :: As).toArray, t, U', L, hT, X', hL, e1, e2, hq, st⟩
section
variable {y : MethodName} {bytes cc : ByteArray} {maxL nL mc ms n index : Nat} {ret : Option FieldType} {ws : List Cond} {rm : Room} {Pc : Array Value → State → Prop} {Qc : Array Value → State → Outcome → State → Prop} {XC : String → State → State → Prop} {free : Addr → Prop} {Ts : List Cond} {own C : String} {b : Addr} {As rest : List Value} {g : JFrame}
theorem vx_runVX {hh : List (Nat × Nat × Nat × Nat)} (S : CallFix p m c cc nL s args Ts own) (hM : vx_Met l y ws rm Pc Qc XC mc ms free) (cw : vx_CVW R s args own C index y bytes maxL ret hh ws rm mc ms n) (hp : PreV s H C b Pc As)
    (hg : g.method = m) (hn : As.length = n) (hsize : g.locals.size = nL) (hstack : g.stack = As.reverse ++ .ref b :: rest) (hW : 2 * g.monitorRoom + (rest.map fun v => v.category).sum ≤ 8) (hdg : decode cc g.pc = .ok (.invokevirtual index, 3)) (hf : cells + mc ≤ R.cells ∧ slots + ms ≤ R.slots) :
    vx_Run p l e R s m args below meth c H locs cells slots mc ms g rest (Qc (Value.ref b :: As).toArray) XC free := by
  obtain ⟨⟨hrc, hrs, hfr, hlo, hws, hcw⟩, hcode, hini, hy, hlen, hl, hin, hse⟩ := cw
  have hK : vx_Back l R p e below s args y 3 8 (PreOf R mc ms Pc) (PostOf Qc mc ms free) (vx_Post XC mc ms free) := vx_backW (hh := hh) (bytes := bytes) (maxL := maxL) (ret := ret) hM hp.1 hrc hrs hfr hlo hws hcw (fun a' U hW => word_at hW (Or.inl (by first | rfl | simp [Cond.onTables, Cond.keeps, Cond.steady])) hini)
  obtain ⟨hx, hb, hml, ho, -⟩ := S
  obtain ⟨-, ⟨cellB, hcB, hoB, hclB⟩, hPc⟩ := hp
  intro T hT X
  rcases vx_callVX X hx (C := C) (hh := hh) (bytes := bytes) (maxL := maxL) (ret := ret) ho hl hin hse hcode hy hK (by rw [hT]; exact hcB) hoB hclB hg (hsize.trans hml.symm) (argsL := As) (rest := rest) (fun sig h => hn.trans (hlen sig h)) hstack hW (by rw [hb]; exact hdg)
    (fun vm₁ hW₁ => ⟨hf.1, hf.2, hPc (T.setVm vm₁) hT hW₁⟩) with ⟨v, vm₁, ⟨U', l2, c2, s2⟩, hW₁, X', ⟨g', mk, t, L, e1, e2, hq, h1, hL, h2, h3⟩, st⟩ | ⟨q, vm₁, ⟨U', l2, c2, s2⟩, hW₁, X', ⟨g', mk, t, L, E, ce, e1, e2, hq, hce, hcv, hcl, h1, hL, h2, h3⟩, st⟩
  · dsimp only [Pt.U, Pt.locs, Pt.cells, Pt.slots] at X' e1 e2 h1 h2 h3 st
    subst h1; subst h2; subst h3
    exact Or.inl ⟨v, (T.setVm vm₁).calling g' mk (Value.ref b :: As).toArray, t, U', L, hT, X', hL, e1, e2, hq, st⟩
  · dsimp only [Pt.U, Pt.locs, Pt.cells, Pt.slots] at X' e1 e2 h1 h2 h3 st hcl
    subst h1; subst h2; subst h3
    exact Or.inr ⟨q, (T.setVm vm₁).calling g' mk (Value.ref b :: As).toArray, t, U', L, E, ce, hT, X', hL, e1, e2, hq, hce, hcv, vx_cls hW₁ hcl, st⟩
theorem vx_runSX {hh : List (Nat × Nat × Nat × Nat)} (S : CallFix p m c cc nL s args Ts own) (hM : vx_Met l y ws rm Pc Qc XC mc ms free) (cw : vx_CSW R s args own index y bytes maxL ret hh ws rm mc ms n) (hp : PreS s H Pc As)
    (hg : g.method = m) (hn : As.length = n) (hsize : g.locals.size = nL) (hstack : g.stack = As.reverse ++ rest) (hW : 2 * g.monitorRoom + (rest.map fun v => v.category).sum ≤ 8) (hdg : decode cc g.pc = .ok (.invokestatic index, 3)) (hf : cells + mc ≤ R.cells ∧ slots + ms ≤ R.slots) :
    vx_Run p l e R s m args below meth c H locs cells slots mc ms g rest (Qc As.toArray) XC free := by
  obtain ⟨⟨hrc, hrs, hfr, hlo, hws, hcw⟩, hcode, hini, hy, hlen, hl, hstt⟩ := cw
  have hK : vx_Back l R p e below s args y 3 8 (PreOf R mc ms Pc) (PostOf Qc mc ms free) (vx_Post XC mc ms free) := vx_backW (hh := hh) (bytes := bytes) (maxL := maxL) (ret := ret) hM hp.1 hrc hrs hfr hlo hws hcw (fun a' U hW => word_at hW (Or.inl (by first | rfl | simp [Cond.onTables, Cond.keeps, Cond.steady])) hini)
  obtain ⟨hx, hb, hml, ho, -⟩ := S
  intro T hT X
  rcases vx_callSX X hx (hh := hh) (bytes := bytes) (maxL := maxL) (ret := ret) ho hl hstt hini hcode hy hK hg (hsize.trans hml.symm) (argsL := As) (rest := rest) (fun sig h => hn.trans (hlen sig h)) hstack hW (by rw [hb]; exact hdg)
    (fun vm₁ hW₁ => ⟨hf.1, hf.2, hp.2 (T.setVm vm₁) hT hW₁⟩) with ⟨v, vm₁, ⟨U', l2, c2, s2⟩, hW₁, X', ⟨g', mk, t, L, e1, e2, hq, h1, hL, h2, h3⟩, st⟩ | ⟨q, vm₁, ⟨U', l2, c2, s2⟩, hW₁, X', ⟨g', mk, t, L, E, ce, e1, e2, hq, hce, hcv, hcl, h1, hL, h2, h3⟩, st⟩
  · dsimp only [Pt.U, Pt.locs, Pt.cells, Pt.slots] at X' e1 e2 h1 h2 h3 st
    subst h1; subst h2; subst h3
    exact Or.inl ⟨v, (T.setVm vm₁).calling g' mk As.toArray, t, U', L, hT, X', hL, e1, e2, hq, st⟩
  · dsimp only [Pt.U, Pt.locs, Pt.cells, Pt.slots] at X' e1 e2 h1 h2 h3 st hcl
    subst h1; subst h2; subst h3
    exact Or.inr ⟨q, (T.setVm vm₁).calling g' mk As.toArray, t, U', L, E, ce, hT, X', hL, e1, e2, hq, hce, hcv, vx_cls hW₁ hcl, st⟩
end
end VXH
theorem vx_ofWH {l : Launch} {y : MethodName} {ws ws' : List Cond} {rm : Room} {Pc : Array Value → State → Prop} {Qc : Array Value → State → Outcome → State → Prop} {XC : String → State → State → Prop} {mc ms : Nat} {free : Addr → Prop} {cc : ByteArray} {maxL : Nat} {ret : Option FieldType} {hh : List (Nat × Nat × Nat × Nat)}
    (hy : plainName y.cls = true) (hw : ws = Cond.codeWith y cc maxL ret hh :: ws')
    (body : ∀ p e s m args below meth c s₁, BodyLoose p l y (headSpec ws rm) cc maxL ret e s m args below meth c s₁ → c.maxLocals = maxL → Pc args s →
      W p l e (headSpec ws rm).room s m args below meth c s.heap [] 0 0 (vx_MQ below Qc XC args s mc ms free) (entryFrame m args maxL)) : vx_Met l y ws rm Pc Qc XC mc ms free := by
  refine MetFree.of_bodyS (code := cc) (maxLocals := maxL) (ret := ret) hy ?_ ?_
  · intro args s m h hn
    obtain ⟨m9, meth, c, hn9, h1, h2, h3, h4, -, h5, h6, -⟩ := Cond.codeWith_spec (atoms_spec (ws := ws) h _ (by rw [hw]; exact List.mem_cons_self))
    cases hn.symm.trans hn9
    exact ⟨meth, c, h1, h2, h3, h4, h5, h6⟩
  · intro p e s m args below meth c s₁ B hml hP _
    have hh0 : s₁.heap = s.heap := by rw [B.state]; rfl
    obtain ⟨t, a1, o, b1, b2, b3⟩ := body p e s m args below meth c s₁ B hml hP s₁ hh0 (Stand.of_body B)
    exact ⟨t, o, a1, b1, b2, b3⟩
/-! ===== END ===== -/
end
section
/-! names: classes, fields, methods; the words of the tables, all in one list -/
def WB_ : List Cond := lw_tbl.filter goodWord
theorem wb_mk {w : Cond} {i : Nat} (h1 : lw_tbl[i]? = some w) (h2 : goodWord w = true) : w ∈ WB_ := List.mem_filter.mpr ⟨List.mem_of_getElem? h1, h2⟩
theorem wb_good {w : Cond} (h : w ∈ WB_) : w ∈ WB_ ∧ ((w.onTables && w.keeps) = true ∨ ∃ ty, w = .arrayClass ty) := ⟨h, good_of_word (List.mem_filter.mp h).2⟩
theorem gI_ {y : MethodName} {c : ByteArray} {n : Nat} {r : Option FieldType} (h : Cond.code y c n r ∈ WB_) : GoodIn WB_ (Cond.code y c n r :: WB_) := by
  intro w hw
  rcases List.mem_cons.mp hw with rfl | hw
  · exact wb_good h
  · exact wb_good hw
theorem gV_ {own C : String} {i n : Nat} {y : MethodName} {c : ByteArray} {r : Option FieldType} (h1 : Cond.methodLink own i y ∈ WB_) (h2 : Cond.instanceMethod y ∈ WB_) (h3 : Cond.selects C y y ∈ WB_) (h4 : Cond.initialized C ∈ WB_) (h5 : Cond.code y c n r ∈ WB_) : GoodIn WB_ (wsV own i C y (Cond.code y c n r :: WB_)) := by
  intro w hw
  unfold wsV at hw
  rcases List.mem_append.mp hw with hw | hw
  · rcases List.mem_cons.mp hw with rfl | hw
    · exact wb_good h1
    · rcases List.mem_cons.mp hw with rfl | hw
      · exact wb_good h2
      · rcases List.mem_cons.mp hw with rfl | hw
        · exact wb_good h3
        · rcases List.mem_cons.mp hw with rfl | hw
          · exact wb_good h4
          · cases hw
  · exact gI_ h5 w hw
theorem gS_ {own : String} {i n : Nat} {y : MethodName} {c : ByteArray} {r : Option FieldType} (h1 : Cond.methodLink own i y ∈ WB_) (h2 : Cond.static y ∈ WB_) (h3 : Cond.initialized y.cls ∈ WB_) (h5 : Cond.code y c n r ∈ WB_) : GoodIn WB_ (va_wsS own i y (Cond.code y c n r :: WB_)) := by
  intro w hw
  unfold va_wsS at hw
  rcases List.mem_append.mp hw with hw | hw
  · rcases List.mem_cons.mp hw with rfl | hw
    · exact wb_good h1
    · rcases List.mem_cons.mp hw with rfl | hw
      · exact wb_good h2
      · rcases List.mem_cons.mp hw with rfl | hw
        · exact wb_good h3
        · cases hw
  · exact gI_ h5 w hw
def R_M : String := "TabledStore$Memory"
def T_M : u_T := fun k => match k with
  | 0 => ("TabledStore$Memory", "row", "[I", true)
  | 1 => ("TabledStore$Memory", "used", "I", false)
  | 2 => ("TabledStore$Memory", "places", "[I", true)
  | 3 => ("TabledStore$Memory", "spare", "[I", true)
  | 4 => ("TabledStore$Memory", "spareCount", "I", false)
  | 5 => ("TabledStore$Memory", "lastIdentity", "I", false)
  | 6 => ("TabledStore$Memory", "reached", "[I", true)
  | 7 => ("TabledStore$Memory", "reachedCount", "I", false)
  | 8 => ("TabledStore$Memory", "roundOf", "[I", true)
  | 9 => ("TabledStore$Memory", "round", "I", false)
  | _ => ("TabledStore$Memory", "settled", "Z", false)
def ty_M : Nat → FieldType := fun k => match k with
  | 0 => .array .int
  | 1 => .int
  | 2 => .array .int
  | 3 => .array .int
  | 4 => .int
  | 5 => .int
  | 6 => .array .int
  | 7 => .int
  | 8 => .array .int
  | 9 => .int
  | _ => .boolean
theorem nm_M : ∀ a, a < 11 → ∀ b, b < 11 → a ≠ b → (T_M a).2.1 ≠ (T_M b).2.1 := by decide +kernel
theorem ty_M_ok : ∀ k, k < 11 → parseFieldDescriptor (T_M k).2.2.1 = some (ty_M k) := by decide +kernel
theorem in_M : ∀ w ∈ u_ws R_M T_M 11, w ∈ WB_ := by decide +kernel
def R_V : String := "TabledStore$Value"
def R_T : String := "TabledStore"
def T_T : u_T := fun k => match k with
  | 0 => ("TabledStore", "registers", "[I", true)
  | _ => ("TabledStore", "memory", "LTabledStore$Memory;", true)
def ty_T : Nat → FieldType := fun k => match k with
  | 0 => .array .int
  | _ => .object "TabledStore$Memory"
theorem nm_T : ∀ a, a < 2 → ∀ b, b < 2 → a ≠ b → (T_T a).2.1 ≠ (T_T b).2.1 := by decide +kernel
theorem ty_T_ok : ∀ k, k < 2 → parseFieldDescriptor (T_T k).2.2.1 = some (ty_T k) := by decide +kernel
theorem in_T : ∀ w ∈ u_ws R_T T_T 2, w ∈ WB_ := by decide +kernel
def R_R : String := "TabledStoreModel"
def T_R : u_T := fun k => match k with
  | 0 => ("TabledStoreModel", "code", "I", false)
  | 1 => ("TabledStoreModel", "words", "I", true)
  | 2 => ("TabledStoreModel", "entries", "I", true)
  | 3 => ("TabledStoreModel", "registers", "[I", true)
  | 4 => ("TabledStoreModel", "identities", "[I", true)
  | 5 => ("TabledStoreModel", "classes", "[I", true)
  | 6 => ("TabledStoreModel", "bytes", "[Z", true)
  | 7 => ("TabledStoreModel", "sizes", "[I", true)
  | 8 => ("TabledStoreModel", "firsts", "[I", true)
  | 9 => ("TabledStoreModel", "made", "I", false)
  | 10 => ("TabledStoreModel", "hint", "I", false)
  | 11 => ("TabledStoreModel", "cells", "[I", true)
  | 12 => ("TabledStoreModel", "nexts", "[I", true)
  | 13 => ("TabledStoreModel", "free", "I", false)
  | 14 => ("TabledStoreModel", "reached", "[Z", true)
  | 15 => ("TabledStoreModel", "todo", "[I", true)
  | 16 => ("TabledStoreModel", "count", "I", false)
  | _ => ("TabledStoreModel", "taken", "I", false)
def ty_R : Nat → FieldType := fun k => match k with
  | 0 => .int
  | 1 => .int
  | 2 => .int
  | 3 => .array .int
  | 4 => .array .int
  | 5 => .array .int
  | 6 => .array .boolean
  | 7 => .array .int
  | 8 => .array .int
  | 9 => .int
  | 10 => .int
  | 11 => .array .int
  | 12 => .array .int
  | 13 => .int
  | 14 => .array .boolean
  | 15 => .array .int
  | 16 => .int
  | _ => .int
theorem nm_R : ∀ a, a < 18 → ∀ b, b < 18 → a ≠ b → (T_R a).2.1 ≠ (T_R b).2.1 := by decide +kernel
theorem ty_R_ok : ∀ k, k < 18 → parseFieldDescriptor (T_R k).2.2.1 = some (ty_R k) := by decide +kernel
theorem in_R : ∀ w ∈ u_ws R_R T_R 18, w ∈ WB_ := by decide +kernel
def R_L : String := "TabledStoreLaw"
abbrev vwCl : List vw_C := [(R_T, T_T, 2), (R_M, T_M, 11), (R_R, T_R, 18)]
abbrev c_V_ofNumber : ByteArray := prog_3_method_2_code
def y_V_ofNumber : MethodName := ⟨R_V, "ofNumber", "(I)I"⟩
def ws_V_ofNumber : List Cond := .code y_V_ofNumber c_V_ofNumber 1 (some .int) :: WB_
abbrev c_V_ofEntry : ByteArray := prog_3_method_3_code
def y_V_ofEntry : MethodName := ⟨R_V, "ofEntry", "(I)I"⟩
def ws_V_ofEntry : List Cond := .code y_V_ofEntry c_V_ofEntry 1 (some .int) :: WB_
abbrev c_V_isNumber : ByteArray := prog_3_method_4_code
def y_V_isNumber : MethodName := ⟨R_V, "isNumber", "(I)Z"⟩
def ws_V_isNumber : List Cond := .code y_V_isNumber c_V_isNumber 1 (some .boolean) :: WB_
abbrev c_V_isObject : ByteArray := prog_3_method_5_code
def y_V_isObject : MethodName := ⟨R_V, "isObject", "(I)Z"⟩
def ws_V_isObject : List Cond := .code y_V_isObject c_V_isObject 1 (some .boolean) :: WB_
abbrev c_V_toNumber : ByteArray := prog_3_method_6_code
def y_V_toNumber : MethodName := ⟨R_V, "toNumber", "(I)I"⟩
def ws_V_toNumber : List Cond := .code y_V_toNumber c_V_toNumber 1 (some .int) :: WB_
abbrev c_V_toEntry : ByteArray := prog_3_method_7_code
def y_V_toEntry : MethodName := ⟨R_V, "toEntry", "(I)I"⟩
def ws_V_toEntry : List Cond := .code y_V_toEntry c_V_toEntry 1 (some .int) :: WB_
abbrev c_M_init : ByteArray := prog_2_method_1_code
def y_M_init : MethodName := ⟨R_M, "<init>", "(II)V"⟩
def ws_M_init : List Cond := .code y_M_init c_M_init 4 none :: WB_
abbrev c_M_shape : ByteArray := prog_2_method_2_code
def y_M_shape : MethodName := ⟨R_M, "shape", "(IZ)I"⟩
def ws_M_shape : List Cond := .code y_M_shape c_M_shape 2 (some .int) :: WB_
abbrev c_M_isOfBytes : ByteArray := prog_2_method_3_code
def y_M_isOfBytes : MethodName := ⟨R_M, "isOfBytes", "(I)Z"⟩
def ws_M_isOfBytes : List Cond := .code y_M_isOfBytes c_M_isOfBytes 1 (some .boolean) :: WB_
abbrev c_M_bodyWords : ByteArray := prog_2_method_4_code
def y_M_bodyWords : MethodName := ⟨R_M, "bodyWords", "(I)I"⟩
def ws_M_bodyWords : List Cond := .code y_M_bodyWords c_M_bodyWords 2 (some .int) :: WB_
abbrev c_M_place : ByteArray := prog_2_method_5_code
def y_M_place : MethodName := ⟨R_M, "place", "(I)I"⟩
def ws_M_place : List Cond := .code y_M_place c_M_place 2 (some .int) :: WB_
abbrev c_M_holdsSlots : ByteArray := prog_2_method_6_code
def y_M_holdsSlots : MethodName := ⟨R_M, "holdsSlots", "(I)Z"⟩
def ws_M_holdsSlots : List Cond := .code y_M_holdsSlots c_M_holdsSlots 2 (some .boolean) :: WB_
abbrev c_M_holdsBytes : ByteArray := prog_2_method_7_code
def y_M_holdsBytes : MethodName := ⟨R_M, "holdsBytes", "(I)Z"⟩
def ws_M_holdsBytes : List Cond := .code y_M_holdsBytes c_M_holdsBytes 2 (some .boolean) :: WB_
abbrev c_M_count : ByteArray := prog_2_method_8_code
def y_M_count : MethodName := ⟨R_M, "count", "(I)I"⟩
def ws_M_count : List Cond := .code y_M_count c_M_count 2 (some .int) :: WB_
abbrev c_M_identity : ByteArray := prog_2_method_9_code
def y_M_identity : MethodName := ⟨R_M, "identity", "(I)I"⟩
def ws_M_identity : List Cond := .code y_M_identity c_M_identity 2 (some .int) :: WB_
abbrev c_M_itsClass : ByteArray := prog_2_method_10_code
def y_M_itsClass : MethodName := ⟨R_M, "itsClass", "(I)I"⟩
def ws_M_itsClass : List Cond := .code y_M_itsClass c_M_itsClass 2 (some .int) :: WB_
abbrev c_M_setItsClass : ByteArray := prog_2_method_11_code
def y_M_setItsClass : MethodName := ⟨R_M, "setItsClass", "(II)V"⟩
def ws_M_setItsClass : List Cond := .code y_M_setItsClass c_M_setItsClass 3 none :: WB_
abbrev c_M_slot : ByteArray := prog_2_method_12_code
def y_M_slot : MethodName := ⟨R_M, "slot", "(II)I"⟩
def ws_M_slot : List Cond := .code y_M_slot c_M_slot 3 (some .int) :: WB_
abbrev c_M_setSlot : ByteArray := prog_2_method_13_code
def y_M_setSlot : MethodName := ⟨R_M, "setSlot", "(III)V"⟩
def ws_M_setSlot : List Cond := .code y_M_setSlot c_M_setSlot 4 none :: WB_
abbrev c_M_oneByte : ByteArray := prog_2_method_14_code
def y_M_oneByte : MethodName := ⟨R_M, "oneByte", "(II)I"⟩
def ws_M_oneByte : List Cond := .code y_M_oneByte c_M_oneByte 4 (some .int) :: WB_
abbrev c_M_setOneByte : ByteArray := prog_2_method_15_code
def y_M_setOneByte : MethodName := ⟨R_M, "setOneByte", "(III)V"⟩
def ws_M_setOneByte : List Cond := .code y_M_setOneByte c_M_setOneByte 6 none :: WB_
abbrev c_M_shiftOf : ByteArray := prog_2_method_16_code
def y_M_shiftOf : MethodName := ⟨R_M, "shiftOf", "(I)I"⟩
def ws_M_shiftOf : List Cond := .code y_M_shiftOf c_M_shiftOf 1 (some .int) :: WB_
abbrev c_M_overwrite : ByteArray := prog_2_method_17_code
def y_M_overwrite : MethodName := ⟨R_M, "overwrite", "(II)V"⟩
def ws_M_overwrite : List Cond := .code y_M_overwrite c_M_overwrite 3 none :: WB_
abbrev c_M_letGo : ByteArray := prog_2_method_18_code
def y_M_letGo : MethodName := ⟨R_M, "letGo", "(I)V"⟩
def ws_M_letGo : List Cond := .code y_M_letGo c_M_letGo 2 none :: WB_
abbrev c_M_freeWords : ByteArray := prog_2_method_19_code
def y_M_freeWords : MethodName := ⟨R_M, "freeWords", "()I"⟩
def ws_M_freeWords : List Cond := .code y_M_freeWords c_M_freeWords 1 (some .int) :: WB_
abbrev c_M_freeEntries : ByteArray := prog_2_method_20_code
def y_M_freeEntries : MethodName := ⟨R_M, "freeEntries", "()I"⟩
def ws_M_freeEntries : List Cond := .code y_M_freeEntries c_M_freeEntries 1 (some .int) :: WB_
abbrev c_M_build : ByteArray := prog_2_method_21_code
def y_M_build : MethodName := ⟨R_M, "build", "(II[I)I"⟩
def ws_M_build : List Cond := .code y_M_build c_M_build 8 (some .int) :: WB_
abbrev c_M_buildLike : ByteArray := prog_2_method_22_code
def y_M_buildLike : MethodName := ⟨R_M, "buildLike", "(I[I)I"⟩
def ws_M_buildLike : List Cond := .code y_M_buildLike c_M_buildLike 5 (some .int) :: WB_
abbrev c_M_fits : ByteArray := prog_2_method_23_code
def y_M_fits : MethodName := ⟨R_M, "fits", "(I)Z"⟩
def ws_M_fits : List Cond := .code y_M_fits c_M_fits 2 (some .boolean) :: WB_
abbrev c_M_swap : ByteArray := prog_2_method_24_code
def y_M_swap : MethodName := ⟨R_M, "swap", "(II)V"⟩
def ws_M_swap : List Cond := .code y_M_swap c_M_swap 5 none :: WB_
abbrev c_M_seat : ByteArray := prog_2_method_25_code
def y_M_seat : MethodName := ⟨R_M, "seat", "(II)V"⟩
def ws_M_seat : List Cond := .code y_M_seat c_M_seat 3 none :: WB_
abbrev c_M_settle : ByteArray := prog_2_method_26_code
def y_M_settle : MethodName := ⟨R_M, "settle", "([I)V"⟩
def ws_M_settle : List Cond := .code y_M_settle c_M_settle 6 none :: WB_
abbrev c_M_leadsTo : ByteArray := prog_2_method_27_code
def y_M_leadsTo : MethodName := ⟨R_M, "leadsTo", "(II)Z"⟩
def ws_M_leadsTo : List Cond := .code y_M_leadsTo c_M_leadsTo 3 (some .boolean) :: WB_
abbrev c_M_startRound : ByteArray := prog_2_method_28_code
def y_M_startRound : MethodName := ⟨R_M, "startRound", "()V"⟩
def ws_M_startRound : List Cond := .code y_M_startRound c_M_startRound 1 none :: WB_
abbrev c_M_isReached : ByteArray := prog_2_method_29_code
def y_M_isReached : MethodName := ⟨R_M, "isReached", "(I)Z"⟩
def ws_M_isReached : List Cond := .code y_M_isReached c_M_isReached 2 (some .boolean) :: WB_
abbrev c_M_reach : ByteArray := prog_2_method_30_code
def y_M_reach : MethodName := ⟨R_M, "reach", "(I)V"⟩
def ws_M_reach : List Cond := .code y_M_reach c_M_reach 3 none :: WB_
abbrev c_M_spread : ByteArray := prog_2_method_31_code
def y_M_spread : MethodName := ⟨R_M, "spread", "()V"⟩
def ws_M_spread : List Cond := .code y_M_spread c_M_spread 5 none :: WB_
abbrev c_M_endOfSlots : ByteArray := prog_2_method_32_code
def y_M_endOfSlots : MethodName := ⟨R_M, "endOfSlots", "(I)I"⟩
def ws_M_endOfSlots : List Cond := .code y_M_endOfSlots c_M_endOfSlots 3 (some .int) :: WB_
abbrev c_M_bodyWordsAt : ByteArray := prog_2_method_33_code
def y_M_bodyWordsAt : MethodName := ⟨R_M, "bodyWordsAt", "(I)I"⟩
def ws_M_bodyWordsAt : List Cond := .code y_M_bodyWordsAt c_M_bodyWordsAt 2 (some .int) :: WB_
abbrev c_M_slide : ByteArray := prog_2_method_34_code
def y_M_slide : MethodName := ⟨R_M, "slide", "()V"⟩
def ws_M_slide : List Cond := .code y_M_slide c_M_slide 5 none :: WB_
abbrev c_M_findOfClass : ByteArray := prog_2_method_35_code
def y_M_findOfClass : MethodName := ⟨R_M, "findOfClass", "(II)I"⟩
def ws_M_findOfClass : List Cond := .code y_M_findOfClass c_M_findOfClass 5 (some .int) :: WB_
abbrev c_M_countHolders : ByteArray := prog_2_method_36_code
def y_M_countHolders : MethodName := ⟨R_M, "countHolders", "(I)I"⟩
def ws_M_countHolders : List Cond := .code y_M_countHolders c_M_countHolders 6 (some .int) :: WB_
abbrev c_T_init : ByteArray := prog_1_method_1_code
def y_T_init : MethodName := ⟨R_T, "<init>", "(II)V"⟩
def ws_T_init : List Cond := .code y_T_init c_T_init 3 none :: WB_
abbrev c_T_number : ByteArray := prog_1_method_2_code
def y_T_number : MethodName := ⟨R_T, "number", "(II)V"⟩
def ws_T_number : List Cond := .code y_T_number c_T_number 3 none :: WB_
abbrev c_T_move : ByteArray := prog_1_method_3_code
def y_T_move : MethodName := ⟨R_T, "move", "(II)V"⟩
def ws_T_move : List Cond := .code y_T_move c_T_move 3 none :: WB_
abbrev c_T_clear : ByteArray := prog_1_method_4_code
def y_T_clear : MethodName := ⟨R_T, "clear", "(I)V"⟩
def ws_T_clear : List Cond := .code y_T_clear c_T_clear 2 none :: WB_
abbrev c_T_make : ByteArray := prog_1_method_5_code
def y_T_make : MethodName := ⟨R_T, "make", "(IIIZ)I"⟩
def ws_T_make : List Cond := .code y_T_make c_T_make 6 (some .int) :: WB_
abbrev c_T_copy : ByteArray := prog_1_method_6_code
def y_T_copy : MethodName := ⟨R_T, "copy", "(II)I"⟩
def ws_T_copy : List Cond := .code y_T_copy c_T_copy 4 (some .int) :: WB_
abbrev c_T_chain : ByteArray := prog_1_method_7_code
def y_T_chain : MethodName := ⟨R_T, "chain", "(IIII)I"⟩
def ws_T_chain : List Cond := .code y_T_chain c_T_chain 8 (some .int) :: WB_
abbrev c_T_get : ByteArray := prog_1_method_8_code
def y_T_get : MethodName := ⟨R_T, "get", "(III)V"⟩
def ws_T_get : List Cond := .code y_T_get c_T_get 4 none :: WB_
abbrev c_T_put : ByteArray := prog_1_method_9_code
def y_T_put : MethodName := ⟨R_T, "put", "(III)V"⟩
def ws_T_put : List Cond := .code y_T_put c_T_put 4 none :: WB_
abbrev c_T_walk : ByteArray := prog_1_method_10_code
def y_T_walk : MethodName := ⟨R_T, "walk", "(III)I"⟩
def ws_T_walk : List Cond := .code y_T_walk c_T_walk 6 (some .int) :: WB_
abbrev c_T_classOf : ByteArray := prog_1_method_11_code
def y_T_classOf : MethodName := ⟨R_T, "classOf", "(II)V"⟩
def ws_T_classOf : List Cond := .code y_T_classOf c_T_classOf 3 none :: WB_
abbrev c_T_setClass : ByteArray := prog_1_method_12_code
def y_T_setClass : MethodName := ⟨R_T, "setClass", "(II)V"⟩
def ws_T_setClass : List Cond := .code y_T_setClass c_T_setClass 3 none :: WB_
abbrev c_T_byteAt : ByteArray := prog_1_method_13_code
def y_T_byteAt : MethodName := ⟨R_T, "byteAt", "(II)I"⟩
def ws_T_byteAt : List Cond := .code y_T_byteAt c_T_byteAt 3 (some .int) :: WB_
abbrev c_T_bytePut : ByteArray := prog_1_method_14_code
def y_T_bytePut : MethodName := ⟨R_T, "bytePut", "(IIJ)V"⟩
def ws_T_bytePut : List Cond := .code y_T_bytePut c_T_bytePut 9 none :: WB_
abbrev c_T_kind : ByteArray := prog_1_method_15_code
def y_T_kind : MethodName := ⟨R_T, "kind", "(I)I"⟩
def ws_T_kind : List Cond := .code y_T_kind c_T_kind 3 (some .int) :: WB_
abbrev c_T_value : ByteArray := prog_1_method_16_code
def y_T_value : MethodName := ⟨R_T, "value", "(I)I"⟩
def ws_T_value : List Cond := .code y_T_value c_T_value 3 (some .int) :: WB_
abbrev c_T_size : ByteArray := prog_1_method_17_code
def y_T_size : MethodName := ⟨R_T, "size", "(I)I"⟩
def ws_T_size : List Cond := .code y_T_size c_T_size 2 (some .int) :: WB_
abbrev c_T_become : ByteArray := prog_1_method_18_code
def y_T_become : MethodName := ⟨R_T, "become", "(II)V"⟩
def ws_T_become : List Cond := .code y_T_become c_T_become 3 none :: WB_
abbrev c_T_words : ByteArray := prog_1_method_19_code
def y_T_words : MethodName := ⟨R_T, "words", "()I"⟩
def ws_T_words : List Cond := .code y_T_words c_T_words 1 (some .int) :: WB_
abbrev c_T_entries : ByteArray := prog_1_method_20_code
def y_T_entries : MethodName := ⟨R_T, "entries", "()I"⟩
def ws_T_entries : List Cond := .code y_T_entries c_T_entries 1 (some .int) :: WB_
abbrev c_T_instance : ByteArray := prog_1_method_21_code
def y_T_instance : MethodName := ⟨R_T, "instance", "(III)I"⟩
def ws_T_instance : List Cond := .code y_T_instance c_T_instance 5 (some .int) :: WB_
abbrev c_T_owners : ByteArray := prog_1_method_22_code
def y_T_owners : MethodName := ⟨R_T, "owners", "(I)I"⟩
def ws_T_owners : List Cond := .code y_T_owners c_T_owners 8 (some .int) :: WB_
abbrev c_T_reaches : ByteArray := prog_1_method_23_code
def y_T_reaches : MethodName := ⟨R_T, "reaches", "(II)Z"⟩
def ws_T_reaches : List Cond := .code y_T_reaches c_T_reaches 3 (some .boolean) :: WB_
abbrev c_T_sum : ByteArray := prog_1_method_24_code
def y_T_sum : MethodName := ⟨R_T, "sum", "(I)I"⟩
def ws_T_sum : List Cond := .code y_T_sum c_T_sum 6 (some .int) :: WB_
abbrev c_T_setRegister : ByteArray := prog_1_method_25_code
def y_T_setRegister : MethodName := ⟨R_T, "setRegister", "(II)V"⟩
def ws_T_setRegister : List Cond := .code y_T_setRegister c_T_setRegister 3 none :: WB_
abbrev c_T_isBetween : ByteArray := prog_1_method_26_code
def y_T_isBetween : MethodName := ⟨R_T, "isBetween", "(III)Z"⟩
def ws_T_isBetween : List Cond := .code y_T_isBetween c_T_isBetween 3 (some .boolean) :: WB_
abbrev c_T_needBetween : ByteArray := prog_1_method_27_code
def y_T_needBetween : MethodName := ⟨R_T, "needBetween", "(III)V"⟩
def ws_T_needBetween : List Cond := .code y_T_needBetween c_T_needBetween 3 none :: WB_
abbrev c_T_needRegister : ByteArray := prog_1_method_28_code
def y_T_needRegister : MethodName := ⟨R_T, "needRegister", "(I)V"⟩
def ws_T_needRegister : List Cond := .code y_T_needRegister c_T_needRegister 1 none :: WB_
abbrev c_T_needObject : ByteArray := prog_1_method_29_code
def y_T_needObject : MethodName := ⟨R_T, "needObject", "(I)V"⟩
def ws_T_needObject : List Cond := .code y_T_needObject c_T_needObject 2 none :: WB_
abbrev c_T_needSlots : ByteArray := prog_1_method_30_code
def y_T_needSlots : MethodName := ⟨R_T, "needSlots", "(I)V"⟩
def ws_T_needSlots : List Cond := .code y_T_needSlots c_T_needSlots 2 none :: WB_
abbrev c_T_needBytes : ByteArray := prog_1_method_31_code
def y_T_needBytes : MethodName := ⟨R_T, "needBytes", "(I)V"⟩
def ws_T_needBytes : List Cond := .code y_T_needBytes c_T_needBytes 2 none :: WB_
abbrev c_T_needIndex : ByteArray := prog_1_method_32_code
def y_T_needIndex : MethodName := ⟨R_T, "needIndex", "(II)V"⟩
def ws_T_needIndex : List Cond := .code y_T_needIndex c_T_needIndex 3 none :: WB_
abbrev c_T_needMade : ByteArray := prog_1_method_33_code
def y_T_needMade : MethodName := ⟨R_T, "needMade", "(I)V"⟩
def ws_T_needMade : List Cond := .code y_T_needMade c_T_needMade 1 none :: WB_
theorem wd_0 : (Jvm.Cond.selects "TabledStore$Memory" ({ cls := "TabledStore$Memory", name := "startRound", desc := "()V" } : Jvm.MethodName) ({ cls := "TabledStore$Memory", name := "startRound", desc := "()V" } : Jvm.MethodName)) ∈ WB_ := wb_mk (i := 0) (by decide +kernel) (by decide +kernel)
theorem wd_1 : (Jvm.Cond.selects "TabledStore$Memory" ({ cls := "TabledStore$Memory", name := "reach", desc := "(I)V" } : Jvm.MethodName) ({ cls := "TabledStore$Memory", name := "reach", desc := "(I)V" } : Jvm.MethodName)) ∈ WB_ := wb_mk (i := 1) (by decide +kernel) (by decide +kernel)
theorem wd_2 : (Jvm.Cond.selects "TabledStore$Memory" ({ cls := "TabledStore$Memory", name := "isReached", desc := "(I)Z" } : Jvm.MethodName) ({ cls := "TabledStore$Memory", name := "isReached", desc := "(I)Z" } : Jvm.MethodName)) ∈ WB_ := wb_mk (i := 2) (by decide +kernel) (by decide +kernel)
theorem wd_3 : (Jvm.Cond.selects "TabledStore$Memory" ({ cls := "TabledStore$Memory", name := "spread", desc := "()V" } : Jvm.MethodName) ({ cls := "TabledStore$Memory", name := "spread", desc := "()V" } : Jvm.MethodName)) ∈ WB_ := wb_mk (i := 3) (by decide +kernel) (by decide +kernel)
theorem wd_4 : (Jvm.Cond.selects "TabledStore$Memory" ({ cls := "TabledStore$Memory", name := "endOfSlots", desc := "(I)I" } : Jvm.MethodName) ({ cls := "TabledStore$Memory", name := "endOfSlots", desc := "(I)I" } : Jvm.MethodName)) ∈ WB_ := wb_mk (i := 4) (by decide +kernel) (by decide +kernel)
theorem wd_5 : (Jvm.Cond.selects "TabledStore$Memory" ({ cls := "TabledStore$Memory", name := "slide", desc := "()V" } : Jvm.MethodName) ({ cls := "TabledStore$Memory", name := "slide", desc := "()V" } : Jvm.MethodName)) ∈ WB_ := wb_mk (i := 5) (by decide +kernel) (by decide +kernel)
theorem wd_6 : (Jvm.Cond.selects "TabledStore$Memory" ({ cls := "TabledStore$Memory", name := "bodyWordsAt", desc := "(I)I" } : Jvm.MethodName) ({ cls := "TabledStore$Memory", name := "bodyWordsAt", desc := "(I)I" } : Jvm.MethodName)) ∈ WB_ := wb_mk (i := 6) (by decide +kernel) (by decide +kernel)
theorem wd_8 : (Jvm.Cond.selects "TabledStore" ({ cls := "TabledStore", name := "setRegister", desc := "(II)V" } : Jvm.MethodName) ({ cls := "TabledStore", name := "setRegister", desc := "(II)V" } : Jvm.MethodName)) ∈ WB_ := wb_mk (i := 8) (by decide +kernel) (by decide +kernel)
theorem wd_9 : (Jvm.Cond.selects "TabledStore$Memory" ({ cls := "TabledStore$Memory", name := "fits", desc := "(I)Z" } : Jvm.MethodName) ({ cls := "TabledStore$Memory", name := "fits", desc := "(I)Z" } : Jvm.MethodName)) ∈ WB_ := wb_mk (i := 9) (by decide +kernel) (by decide +kernel)
theorem wd_10 : (Jvm.Cond.selects "TabledStore$Memory" ({ cls := "TabledStore$Memory", name := "place", desc := "(I)I" } : Jvm.MethodName) ({ cls := "TabledStore$Memory", name := "place", desc := "(I)I" } : Jvm.MethodName)) ∈ WB_ := wb_mk (i := 10) (by decide +kernel) (by decide +kernel)
theorem wd_11 : (Jvm.Cond.selects "TabledStore" ({ cls := "TabledStore", name := "needObject", desc := "(I)V" } : Jvm.MethodName) ({ cls := "TabledStore", name := "needObject", desc := "(I)V" } : Jvm.MethodName)) ∈ WB_ := wb_mk (i := 11) (by decide +kernel) (by decide +kernel)
theorem wd_12 : (Jvm.Cond.selects "TabledStore$Memory" ({ cls := "TabledStore$Memory", name := "overwrite", desc := "(II)V" } : Jvm.MethodName) ({ cls := "TabledStore$Memory", name := "overwrite", desc := "(II)V" } : Jvm.MethodName)) ∈ WB_ := wb_mk (i := 12) (by decide +kernel) (by decide +kernel)
theorem wd_13 : (Jvm.Cond.selects "TabledStore" ({ cls := "TabledStore", name := "needSlots", desc := "(I)V" } : Jvm.MethodName) ({ cls := "TabledStore", name := "needSlots", desc := "(I)V" } : Jvm.MethodName)) ∈ WB_ := wb_mk (i := 13) (by decide +kernel) (by decide +kernel)
theorem wd_14 : (Jvm.Cond.selects "TabledStore" ({ cls := "TabledStore", name := "needIndex", desc := "(II)V" } : Jvm.MethodName) ({ cls := "TabledStore", name := "needIndex", desc := "(II)V" } : Jvm.MethodName)) ∈ WB_ := wb_mk (i := 14) (by decide +kernel) (by decide +kernel)
theorem wd_15 : (Jvm.Cond.selects "TabledStore" ({ cls := "TabledStore", name := "needBytes", desc := "(I)V" } : Jvm.MethodName) ({ cls := "TabledStore", name := "needBytes", desc := "(I)V" } : Jvm.MethodName)) ∈ WB_ := wb_mk (i := 15) (by decide +kernel) (by decide +kernel)
theorem wd_16 : (Jvm.Cond.selects "TabledStore$Memory" ({ cls := "TabledStore$Memory", name := "seat", desc := "(II)V" } : Jvm.MethodName) ({ cls := "TabledStore$Memory", name := "seat", desc := "(II)V" } : Jvm.MethodName)) ∈ WB_ := wb_mk (i := 16) (by decide +kernel) (by decide +kernel)
theorem wd_33 : (Jvm.Cond.initialized "TabledStore") ∈ WB_ := wb_mk (i := 33) (by decide +kernel) (by decide +kernel)
theorem wd_34 : (Jvm.Cond.initialized "TabledStore$Memory") ∈ WB_ := wb_mk (i := 34) (by decide +kernel) (by decide +kernel)
theorem wd_39 : (Jvm.Cond.initialized "java/lang/IllegalArgumentException") ∈ WB_ := wb_mk (i := 39) (by decide +kernel) (by decide +kernel)
theorem wd_40 : (Jvm.Cond.initialized "TabledStore$Value") ∈ WB_ := wb_mk (i := 40) (by decide +kernel) (by decide +kernel)
theorem wd_41 : (Jvm.Cond.initialized "java/lang/System") ∈ WB_ := wb_mk (i := 41) (by decide +kernel) (by decide +kernel)
theorem wd_42 : (Jvm.Cond.initialized "java/lang/UnsupportedOperationException") ∈ WB_ := wb_mk (i := 42) (by decide +kernel) (by decide +kernel)
theorem wd_43 : (Jvm.Cond.initialized "java/lang/IndexOutOfBoundsException") ∈ WB_ := wb_mk (i := 43) (by decide +kernel) (by decide +kernel)
theorem wd_44 : (Jvm.Cond.initialized "java/lang/Math") ∈ WB_ := wb_mk (i := 44) (by decide +kernel) (by decide +kernel)
theorem wd_56 : (Jvm.Cond.methodLink "TabledStore" (16 : Nat) ({ cls := "TabledStore", name := "isBetween", desc := "(III)Z" } : Jvm.MethodName)) ∈ WB_ := wb_mk (i := 56) (by decide +kernel) (by decide +kernel)
theorem wd_57 : (Jvm.Cond.static ({ cls := "TabledStore", name := "isBetween", desc := "(III)Z" } : Jvm.MethodName)) ∈ WB_ := wb_mk (i := 57) (by decide +kernel) (by decide +kernel)
theorem wd_58 : (Jvm.Cond.code ({ cls := "TabledStore", name := "isBetween", desc := "(III)Z" } : Jvm.MethodName) prog_1_method_26_code (3 : Nat) (Option.some Jvm.ClassFile.FieldType.boolean)) ∈ WB_ := wb_mk (i := 58) (by decide +kernel) (by decide +kernel)
theorem wd_63 : (Jvm.Cond.fieldLink "TabledStore$Memory" (7 : Nat) "TabledStore$Memory" "row" "[I") ∈ WB_ := wb_mk (i := 63) (by decide +kernel) (by decide +kernel)
theorem wd_64 : (Jvm.Cond.fieldLink "TabledStore$Memory" (60 : Nat) "TabledStore$Memory" "used" "I") ∈ WB_ := wb_mk (i := 64) (by decide +kernel) (by decide +kernel)
theorem wd_65 : (Jvm.Cond.fieldLink "TabledStore$Memory" (13 : Nat) "TabledStore$Memory" "places" "[I") ∈ WB_ := wb_mk (i := 65) (by decide +kernel) (by decide +kernel)
theorem wd_66 : (Jvm.Cond.fieldLink "TabledStore$Memory" (16 : Nat) "TabledStore$Memory" "spare" "[I") ∈ WB_ := wb_mk (i := 66) (by decide +kernel) (by decide +kernel)
theorem wd_67 : (Jvm.Cond.fieldLink "TabledStore$Memory" (25 : Nat) "TabledStore$Memory" "spareCount" "I") ∈ WB_ := wb_mk (i := 67) (by decide +kernel) (by decide +kernel)
theorem wd_68 : (Jvm.Cond.fieldLink "TabledStore$Memory" (73 : Nat) "TabledStore$Memory" "lastIdentity" "I") ∈ WB_ := wb_mk (i := 68) (by decide +kernel) (by decide +kernel)
theorem wd_69 : (Jvm.Cond.fieldLink "TabledStore$Memory" (19 : Nat) "TabledStore$Memory" "reached" "[I") ∈ WB_ := wb_mk (i := 69) (by decide +kernel) (by decide +kernel)
theorem wd_70 : (Jvm.Cond.fieldLink "TabledStore$Memory" (117 : Nat) "TabledStore$Memory" "reachedCount" "I") ∈ WB_ := wb_mk (i := 70) (by decide +kernel) (by decide +kernel)
theorem wd_71 : (Jvm.Cond.fieldLink "TabledStore$Memory" (22 : Nat) "TabledStore$Memory" "roundOf" "[I") ∈ WB_ := wb_mk (i := 71) (by decide +kernel) (by decide +kernel)
theorem wd_72 : (Jvm.Cond.fieldLink "TabledStore$Memory" (114 : Nat) "TabledStore$Memory" "round" "I") ∈ WB_ := wb_mk (i := 72) (by decide +kernel) (by decide +kernel)
theorem wd_73 : (Jvm.Cond.fieldLink "TabledStore$Memory" (29 : Nat) "TabledStore$Memory" "settled" "Z") ∈ WB_ := wb_mk (i := 73) (by decide +kernel) (by decide +kernel)
theorem wd_98 : (Jvm.Cond.fieldLink "TabledStore" (9 : Nat) "TabledStore" "registers" "[I") ∈ WB_ := wb_mk (i := 98) (by decide +kernel) (by decide +kernel)
theorem wd_99 : (Jvm.Cond.fieldLink "TabledStore" (23 : Nat) "TabledStore" "memory" "LTabledStore$Memory;") ∈ WB_ := wb_mk (i := 99) (by decide +kernel) (by decide +kernel)
theorem wd_109 : (Jvm.Cond.methodLink "TabledStore" (119 : Nat) ({ cls := "TabledStore$Memory", name := "settle", desc := "([I)V" } : Jvm.MethodName)) ∈ WB_ := wb_mk (i := 109) (by decide +kernel) (by decide +kernel)
theorem wd_110 : (Jvm.Cond.instanceMethod ({ cls := "TabledStore$Memory", name := "settle", desc := "([I)V" } : Jvm.MethodName)) ∈ WB_ := wb_mk (i := 110) (by decide +kernel) (by decide +kernel)
theorem wd_111 : (Jvm.Cond.selects "TabledStore$Memory" ({ cls := "TabledStore$Memory", name := "settle", desc := "([I)V" } : Jvm.MethodName) ({ cls := "TabledStore$Memory", name := "settle", desc := "([I)V" } : Jvm.MethodName)) ∈ WB_ := wb_mk (i := 111) (by decide +kernel) (by decide +kernel)
theorem wd_112 : (Jvm.Cond.code ({ cls := "TabledStore$Memory", name := "settle", desc := "([I)V" } : Jvm.MethodName) prog_2_method_26_code (6 : Nat) (Option.none : Option Jvm.ClassFile.FieldType)) ∈ WB_ := wb_mk (i := 112) (by decide +kernel) (by decide +kernel)
theorem wd_113 : (Jvm.Cond.methodLink "TabledStore$Memory" (99 : Nat) ({ cls := "TabledStore$Memory", name := "startRound", desc := "()V" } : Jvm.MethodName)) ∈ WB_ := wb_mk (i := 113) (by decide +kernel) (by decide +kernel)
theorem wd_115 : (Jvm.Cond.instanceMethod ({ cls := "TabledStore$Memory", name := "startRound", desc := "()V" } : Jvm.MethodName)) ∈ WB_ := wb_mk (i := 115) (by decide +kernel) (by decide +kernel)
theorem wd_116 : (Jvm.Cond.code ({ cls := "TabledStore$Memory", name := "startRound", desc := "()V" } : Jvm.MethodName) prog_2_method_28_code (1 : Nat) (Option.none : Option Jvm.ClassFile.FieldType)) ∈ WB_ := wb_mk (i := 116) (by decide +kernel) (by decide +kernel)
theorem wd_117 : (Jvm.Cond.methodLink "TabledStore$Memory" (102 : Nat) ({ cls := "TabledStore$Memory", name := "reach", desc := "(I)V" } : Jvm.MethodName)) ∈ WB_ := wb_mk (i := 117) (by decide +kernel) (by decide +kernel)
theorem wd_119 : (Jvm.Cond.instanceMethod ({ cls := "TabledStore$Memory", name := "reach", desc := "(I)V" } : Jvm.MethodName)) ∈ WB_ := wb_mk (i := 119) (by decide +kernel) (by decide +kernel)
theorem wd_120 : (Jvm.Cond.code ({ cls := "TabledStore$Memory", name := "reach", desc := "(I)V" } : Jvm.MethodName) prog_2_method_30_code (3 : Nat) (Option.none : Option Jvm.ClassFile.FieldType)) ∈ WB_ := wb_mk (i := 120) (by decide +kernel) (by decide +kernel)
theorem wd_121 : (Jvm.Cond.methodLink "TabledStore$Memory" (43 : Nat) ({ cls := "TabledStore$Value", name := "isObject", desc := "(I)Z" } : Jvm.MethodName)) ∈ WB_ := wb_mk (i := 121) (by decide +kernel) (by decide +kernel)
theorem wd_122 : (Jvm.Cond.static ({ cls := "TabledStore$Value", name := "isObject", desc := "(I)Z" } : Jvm.MethodName)) ∈ WB_ := wb_mk (i := 122) (by decide +kernel) (by decide +kernel)
theorem wd_123 : (Jvm.Cond.code ({ cls := "TabledStore$Value", name := "isObject", desc := "(I)Z" } : Jvm.MethodName) prog_3_method_5_code (1 : Nat) (Option.some Jvm.ClassFile.FieldType.boolean)) ∈ WB_ := wb_mk (i := 123) (by decide +kernel) (by decide +kernel)
theorem wd_124 : (Jvm.Cond.methodLink "TabledStore$Value" (7 : Nat) ({ cls := "TabledStore$Value", name := "isNumber", desc := "(I)Z" } : Jvm.MethodName)) ∈ WB_ := wb_mk (i := 124) (by decide +kernel) (by decide +kernel)
theorem wd_125 : (Jvm.Cond.static ({ cls := "TabledStore$Value", name := "isNumber", desc := "(I)Z" } : Jvm.MethodName)) ∈ WB_ := wb_mk (i := 125) (by decide +kernel) (by decide +kernel)
theorem wd_126 : (Jvm.Cond.code ({ cls := "TabledStore$Value", name := "isNumber", desc := "(I)Z" } : Jvm.MethodName) prog_3_method_4_code (1 : Nat) (Option.some Jvm.ClassFile.FieldType.boolean)) ∈ WB_ := wb_mk (i := 126) (by decide +kernel) (by decide +kernel)
theorem wd_127 : (Jvm.Cond.methodLink "TabledStore$Memory" (37 : Nat) ({ cls := "TabledStore$Value", name := "toEntry", desc := "(I)I" } : Jvm.MethodName)) ∈ WB_ := wb_mk (i := 127) (by decide +kernel) (by decide +kernel)
theorem wd_128 : (Jvm.Cond.static ({ cls := "TabledStore$Value", name := "toEntry", desc := "(I)I" } : Jvm.MethodName)) ∈ WB_ := wb_mk (i := 128) (by decide +kernel) (by decide +kernel)
theorem wd_129 : (Jvm.Cond.code ({ cls := "TabledStore$Value", name := "toEntry", desc := "(I)I" } : Jvm.MethodName) prog_3_method_7_code (1 : Nat) (Option.some Jvm.ClassFile.FieldType.int)) ∈ WB_ := wb_mk (i := 129) (by decide +kernel) (by decide +kernel)
theorem wd_130 : (Jvm.Cond.methodLink "TabledStore$Memory" (111 : Nat) ({ cls := "TabledStore$Memory", name := "isReached", desc := "(I)Z" } : Jvm.MethodName)) ∈ WB_ := wb_mk (i := 130) (by decide +kernel) (by decide +kernel)
theorem wd_132 : (Jvm.Cond.instanceMethod ({ cls := "TabledStore$Memory", name := "isReached", desc := "(I)Z" } : Jvm.MethodName)) ∈ WB_ := wb_mk (i := 132) (by decide +kernel) (by decide +kernel)
theorem wd_133 : (Jvm.Cond.code ({ cls := "TabledStore$Memory", name := "isReached", desc := "(I)Z" } : Jvm.MethodName) prog_2_method_29_code (2 : Nat) (Option.some Jvm.ClassFile.FieldType.boolean)) ∈ WB_ := wb_mk (i := 133) (by decide +kernel) (by decide +kernel)
theorem wd_134 : (Jvm.Cond.methodLink "TabledStore$Memory" (105 : Nat) ({ cls := "TabledStore$Memory", name := "spread", desc := "()V" } : Jvm.MethodName)) ∈ WB_ := wb_mk (i := 134) (by decide +kernel) (by decide +kernel)
theorem wd_136 : (Jvm.Cond.instanceMethod ({ cls := "TabledStore$Memory", name := "spread", desc := "()V" } : Jvm.MethodName)) ∈ WB_ := wb_mk (i := 136) (by decide +kernel) (by decide +kernel)
theorem wd_137 : (Jvm.Cond.code ({ cls := "TabledStore$Memory", name := "spread", desc := "()V" } : Jvm.MethodName) prog_2_method_31_code (5 : Nat) (Option.none : Option Jvm.ClassFile.FieldType)) ∈ WB_ := wb_mk (i := 137) (by decide +kernel) (by decide +kernel)
theorem wd_138 : (Jvm.Cond.methodLink "TabledStore$Memory" (120 : Nat) ({ cls := "TabledStore$Memory", name := "endOfSlots", desc := "(I)I" } : Jvm.MethodName)) ∈ WB_ := wb_mk (i := 138) (by decide +kernel) (by decide +kernel)
theorem wd_140 : (Jvm.Cond.instanceMethod ({ cls := "TabledStore$Memory", name := "endOfSlots", desc := "(I)I" } : Jvm.MethodName)) ∈ WB_ := wb_mk (i := 140) (by decide +kernel) (by decide +kernel)
theorem wd_141 : (Jvm.Cond.code ({ cls := "TabledStore$Memory", name := "endOfSlots", desc := "(I)I" } : Jvm.MethodName) prog_2_method_32_code (3 : Nat) (Option.some Jvm.ClassFile.FieldType.int)) ∈ WB_ := wb_mk (i := 141) (by decide +kernel) (by decide +kernel)
theorem wd_142 : (Jvm.Cond.methodLink "TabledStore$Memory" (33 : Nat) ({ cls := "TabledStore$Memory", name := "isOfBytes", desc := "(I)Z" } : Jvm.MethodName)) ∈ WB_ := wb_mk (i := 142) (by decide +kernel) (by decide +kernel)
theorem wd_143 : (Jvm.Cond.static ({ cls := "TabledStore$Memory", name := "isOfBytes", desc := "(I)Z" } : Jvm.MethodName)) ∈ WB_ := wb_mk (i := 143) (by decide +kernel) (by decide +kernel)
theorem wd_144 : (Jvm.Cond.code ({ cls := "TabledStore$Memory", name := "isOfBytes", desc := "(I)Z" } : Jvm.MethodName) prog_2_method_3_code (1 : Nat) (Option.some Jvm.ClassFile.FieldType.boolean)) ∈ WB_ := wb_mk (i := 144) (by decide +kernel) (by decide +kernel)
theorem wd_145 : (Jvm.Cond.methodLink "TabledStore$Memory" (63 : Nat) ({ cls := "TabledStore$Memory", name := "bodyWords", desc := "(I)I" } : Jvm.MethodName)) ∈ WB_ := wb_mk (i := 145) (by decide +kernel) (by decide +kernel)
theorem wd_146 : (Jvm.Cond.static ({ cls := "TabledStore$Memory", name := "bodyWords", desc := "(I)I" } : Jvm.MethodName)) ∈ WB_ := wb_mk (i := 146) (by decide +kernel) (by decide +kernel)
theorem wd_147 : (Jvm.Cond.code ({ cls := "TabledStore$Memory", name := "bodyWords", desc := "(I)I" } : Jvm.MethodName) prog_2_method_4_code (2 : Nat) (Option.some Jvm.ClassFile.FieldType.int)) ∈ WB_ := wb_mk (i := 147) (by decide +kernel) (by decide +kernel)
theorem wd_148 : (Jvm.Cond.methodLink "TabledStore$Memory" (108 : Nat) ({ cls := "TabledStore$Memory", name := "slide", desc := "()V" } : Jvm.MethodName)) ∈ WB_ := wb_mk (i := 148) (by decide +kernel) (by decide +kernel)
theorem wd_150 : (Jvm.Cond.instanceMethod ({ cls := "TabledStore$Memory", name := "slide", desc := "()V" } : Jvm.MethodName)) ∈ WB_ := wb_mk (i := 150) (by decide +kernel) (by decide +kernel)
theorem wd_151 : (Jvm.Cond.code ({ cls := "TabledStore$Memory", name := "slide", desc := "()V" } : Jvm.MethodName) prog_2_method_34_code (5 : Nat) (Option.none : Option Jvm.ClassFile.FieldType)) ∈ WB_ := wb_mk (i := 151) (by decide +kernel) (by decide +kernel)
theorem wd_152 : (Jvm.Cond.methodLink "TabledStore$Memory" (123 : Nat) ({ cls := "TabledStore$Memory", name := "bodyWordsAt", desc := "(I)I" } : Jvm.MethodName)) ∈ WB_ := wb_mk (i := 152) (by decide +kernel) (by decide +kernel)
theorem wd_154 : (Jvm.Cond.instanceMethod ({ cls := "TabledStore$Memory", name := "bodyWordsAt", desc := "(I)I" } : Jvm.MethodName)) ∈ WB_ := wb_mk (i := 154) (by decide +kernel) (by decide +kernel)
theorem wd_155 : (Jvm.Cond.code ({ cls := "TabledStore$Memory", name := "bodyWordsAt", desc := "(I)I" } : Jvm.MethodName) prog_2_method_33_code (2 : Nat) (Option.some Jvm.ClassFile.FieldType.int)) ∈ WB_ := wb_mk (i := 155) (by decide +kernel) (by decide +kernel)
theorem wd_156 : (Jvm.Cond.methodLink "TabledStore$Memory" (86 : Nat) ({ cls := "java/lang/System", name := "arraycopy", desc := "(Ljava/lang/Object;ILjava/lang/Object;II)V" } : Jvm.MethodName)) ∈ WB_ := wb_mk (i := 156) (by decide +kernel) (by decide +kernel)
theorem wd_157 : (Jvm.Cond.static ({ cls := "java/lang/System", name := "arraycopy", desc := "(Ljava/lang/Object;ILjava/lang/Object;II)V" } : Jvm.MethodName)) ∈ WB_ := wb_mk (i := 157) (by decide +kernel) (by decide +kernel)
theorem wd_158 : (Jvm.Cond.native ({ cls := "java/lang/System", name := "arraycopy", desc := "(Ljava/lang/Object;ILjava/lang/Object;II)V" } : Jvm.MethodName)) ∈ WB_ := wb_mk (i := 158) (by decide +kernel) (by decide +kernel)
theorem wd_159 : (Jvm.Cond.methodLink "TabledStore" (123 : Nat) ({ cls := "TabledStore$Memory", name := "freeWords", desc := "()I" } : Jvm.MethodName)) ∈ WB_ := wb_mk (i := 159) (by decide +kernel) (by decide +kernel)
theorem wd_160 : (Jvm.Cond.instanceMethod ({ cls := "TabledStore$Memory", name := "freeWords", desc := "()I" } : Jvm.MethodName)) ∈ WB_ := wb_mk (i := 160) (by decide +kernel) (by decide +kernel)
theorem wd_161 : (Jvm.Cond.selects "TabledStore$Memory" ({ cls := "TabledStore$Memory", name := "freeWords", desc := "()I" } : Jvm.MethodName) ({ cls := "TabledStore$Memory", name := "freeWords", desc := "()I" } : Jvm.MethodName)) ∈ WB_ := wb_mk (i := 161) (by decide +kernel) (by decide +kernel)
theorem wd_162 : (Jvm.Cond.code ({ cls := "TabledStore$Memory", name := "freeWords", desc := "()I" } : Jvm.MethodName) prog_2_method_19_code (1 : Nat) (Option.some Jvm.ClassFile.FieldType.int)) ∈ WB_ := wb_mk (i := 162) (by decide +kernel) (by decide +kernel)
theorem wd_167 : (Jvm.Cond.methodLink "TabledStore" (127 : Nat) ({ cls := "TabledStore$Memory", name := "freeEntries", desc := "()I" } : Jvm.MethodName)) ∈ WB_ := wb_mk (i := 167) (by decide +kernel) (by decide +kernel)
theorem wd_168 : (Jvm.Cond.instanceMethod ({ cls := "TabledStore$Memory", name := "freeEntries", desc := "()I" } : Jvm.MethodName)) ∈ WB_ := wb_mk (i := 168) (by decide +kernel) (by decide +kernel)
theorem wd_169 : (Jvm.Cond.selects "TabledStore$Memory" ({ cls := "TabledStore$Memory", name := "freeEntries", desc := "()I" } : Jvm.MethodName) ({ cls := "TabledStore$Memory", name := "freeEntries", desc := "()I" } : Jvm.MethodName)) ∈ WB_ := wb_mk (i := 169) (by decide +kernel) (by decide +kernel)
theorem wd_170 : (Jvm.Cond.code ({ cls := "TabledStore$Memory", name := "freeEntries", desc := "()I" } : Jvm.MethodName) prog_2_method_20_code (1 : Nat) (Option.some Jvm.ClassFile.FieldType.int)) ∈ WB_ := wb_mk (i := 170) (by decide +kernel) (by decide +kernel)
theorem wd_182 : (Jvm.Cond.methodLink "TabledStore" (27 : Nat) ({ cls := "TabledStore", name := "needRegister", desc := "(I)V" } : Jvm.MethodName)) ∈ WB_ := wb_mk (i := 182) (by decide +kernel) (by decide +kernel)
theorem wd_183 : (Jvm.Cond.static ({ cls := "TabledStore", name := "needRegister", desc := "(I)V" } : Jvm.MethodName)) ∈ WB_ := wb_mk (i := 183) (by decide +kernel) (by decide +kernel)
theorem wd_184 : (Jvm.Cond.code ({ cls := "TabledStore", name := "needRegister", desc := "(I)V" } : Jvm.MethodName) prog_1_method_28_code (1 : Nat) (Option.none : Option Jvm.ClassFile.FieldType)) ∈ WB_ := wb_mk (i := 184) (by decide +kernel) (by decide +kernel)
theorem wd_185 : (Jvm.Cond.classLink "TabledStore" (149 : Nat) "java/lang/IllegalArgumentException") ∈ WB_ := wb_mk (i := 185) (by decide +kernel) (by decide +kernel)
theorem wd_253 : (Jvm.Cond.constant "TabledStore" (31 : Nat) (-1073741824 : Int32)) ∈ WB_ := wb_mk (i := 253) (by decide +kernel) (by decide +kernel)
theorem wd_254 : (Jvm.Cond.constant "TabledStore" (32 : Nat) (1073741823 : Int32)) ∈ WB_ := wb_mk (i := 254) (by decide +kernel) (by decide +kernel)
theorem wd_255 : (Jvm.Cond.methodLink "TabledStore" (33 : Nat) ({ cls := "TabledStore", name := "needBetween", desc := "(III)V" } : Jvm.MethodName)) ∈ WB_ := wb_mk (i := 255) (by decide +kernel) (by decide +kernel)
theorem wd_256 : (Jvm.Cond.static ({ cls := "TabledStore", name := "needBetween", desc := "(III)V" } : Jvm.MethodName)) ∈ WB_ := wb_mk (i := 256) (by decide +kernel) (by decide +kernel)
theorem wd_257 : (Jvm.Cond.code ({ cls := "TabledStore", name := "needBetween", desc := "(III)V" } : Jvm.MethodName) prog_1_method_27_code (3 : Nat) (Option.none : Option Jvm.ClassFile.FieldType)) ∈ WB_ := wb_mk (i := 257) (by decide +kernel) (by decide +kernel)
theorem wd_259 : (Jvm.Cond.methodLink "TabledStore" (37 : Nat) ({ cls := "TabledStore$Value", name := "ofNumber", desc := "(I)I" } : Jvm.MethodName)) ∈ WB_ := wb_mk (i := 259) (by decide +kernel) (by decide +kernel)
theorem wd_260 : (Jvm.Cond.static ({ cls := "TabledStore$Value", name := "ofNumber", desc := "(I)I" } : Jvm.MethodName)) ∈ WB_ := wb_mk (i := 260) (by decide +kernel) (by decide +kernel)
theorem wd_261 : (Jvm.Cond.code ({ cls := "TabledStore$Value", name := "ofNumber", desc := "(I)I" } : Jvm.MethodName) prog_3_method_2_code (1 : Nat) (Option.some Jvm.ClassFile.FieldType.int)) ∈ WB_ := wb_mk (i := 261) (by decide +kernel) (by decide +kernel)
theorem wd_262 : (Jvm.Cond.methodLink "TabledStore" (43 : Nat) ({ cls := "TabledStore", name := "setRegister", desc := "(II)V" } : Jvm.MethodName)) ∈ WB_ := wb_mk (i := 262) (by decide +kernel) (by decide +kernel)
theorem wd_264 : (Jvm.Cond.instanceMethod ({ cls := "TabledStore", name := "setRegister", desc := "(II)V" } : Jvm.MethodName)) ∈ WB_ := wb_mk (i := 264) (by decide +kernel) (by decide +kernel)
theorem wd_265 : (Jvm.Cond.code ({ cls := "TabledStore", name := "setRegister", desc := "(II)V" } : Jvm.MethodName) prog_1_method_25_code (3 : Nat) (Option.none : Option Jvm.ClassFile.FieldType)) ∈ WB_ := wb_mk (i := 265) (by decide +kernel) (by decide +kernel)
theorem wd_266 : (Jvm.Cond.methodLink "TabledStore" (146 : Nat) ({ cls := "TabledStore$Memory", name := "letGo", desc := "(I)V" } : Jvm.MethodName)) ∈ WB_ := wb_mk (i := 266) (by decide +kernel) (by decide +kernel)
theorem wd_267 : (Jvm.Cond.instanceMethod ({ cls := "TabledStore$Memory", name := "letGo", desc := "(I)V" } : Jvm.MethodName)) ∈ WB_ := wb_mk (i := 267) (by decide +kernel) (by decide +kernel)
theorem wd_268 : (Jvm.Cond.selects "TabledStore$Memory" ({ cls := "TabledStore$Memory", name := "letGo", desc := "(I)V" } : Jvm.MethodName) ({ cls := "TabledStore$Memory", name := "letGo", desc := "(I)V" } : Jvm.MethodName)) ∈ WB_ := wb_mk (i := 268) (by decide +kernel) (by decide +kernel)
theorem wd_269 : (Jvm.Cond.code ({ cls := "TabledStore$Memory", name := "letGo", desc := "(I)V" } : Jvm.MethodName) prog_2_method_18_code (2 : Nat) (Option.none : Option Jvm.ClassFile.FieldType)) ∈ WB_ := wb_mk (i := 269) (by decide +kernel) (by decide +kernel)
theorem wd_292 : (Jvm.Cond.methodLink "TabledStore" (46 : Nat) ({ cls := "TabledStore$Memory", name := "shape", desc := "(IZ)I" } : Jvm.MethodName)) ∈ WB_ := wb_mk (i := 292) (by decide +kernel) (by decide +kernel)
theorem wd_293 : (Jvm.Cond.static ({ cls := "TabledStore$Memory", name := "shape", desc := "(IZ)I" } : Jvm.MethodName)) ∈ WB_ := wb_mk (i := 293) (by decide +kernel) (by decide +kernel)
theorem wd_294 : (Jvm.Cond.code ({ cls := "TabledStore$Memory", name := "shape", desc := "(IZ)I" } : Jvm.MethodName) prog_2_method_2_code (2 : Nat) (Option.some Jvm.ClassFile.FieldType.int)) ∈ WB_ := wb_mk (i := 294) (by decide +kernel) (by decide +kernel)
theorem wd_295 : (Jvm.Cond.methodLink "TabledStore" (50 : Nat) ({ cls := "TabledStore$Memory", name := "build", desc := "(II[I)I" } : Jvm.MethodName)) ∈ WB_ := wb_mk (i := 295) (by decide +kernel) (by decide +kernel)
theorem wd_296 : (Jvm.Cond.instanceMethod ({ cls := "TabledStore$Memory", name := "build", desc := "(II[I)I" } : Jvm.MethodName)) ∈ WB_ := wb_mk (i := 296) (by decide +kernel) (by decide +kernel)
theorem wd_297 : (Jvm.Cond.selects "TabledStore$Memory" ({ cls := "TabledStore$Memory", name := "build", desc := "(II[I)I" } : Jvm.MethodName) ({ cls := "TabledStore$Memory", name := "build", desc := "(II[I)I" } : Jvm.MethodName)) ∈ WB_ := wb_mk (i := 297) (by decide +kernel) (by decide +kernel)
theorem wd_298 : (Jvm.Cond.code ({ cls := "TabledStore$Memory", name := "build", desc := "(II[I)I" } : Jvm.MethodName) prog_2_method_21_code (8 : Nat) (Option.some Jvm.ClassFile.FieldType.int)) ∈ WB_ := wb_mk (i := 298) (by decide +kernel) (by decide +kernel)
theorem wd_299 : (Jvm.Cond.methodLink "TabledStore$Memory" (66 : Nat) ({ cls := "TabledStore$Memory", name := "fits", desc := "(I)Z" } : Jvm.MethodName)) ∈ WB_ := wb_mk (i := 299) (by decide +kernel) (by decide +kernel)
theorem wd_301 : (Jvm.Cond.instanceMethod ({ cls := "TabledStore$Memory", name := "fits", desc := "(I)Z" } : Jvm.MethodName)) ∈ WB_ := wb_mk (i := 301) (by decide +kernel) (by decide +kernel)
theorem wd_302 : (Jvm.Cond.code ({ cls := "TabledStore$Memory", name := "fits", desc := "(I)Z" } : Jvm.MethodName) prog_2_method_23_code (2 : Nat) (Option.some Jvm.ClassFile.FieldType.boolean)) ∈ WB_ := wb_mk (i := 302) (by decide +kernel) (by decide +kernel)
theorem wd_303 : (Jvm.Cond.methodLink "TabledStore$Memory" (92 : Nat) ({ cls := "TabledStore$Memory", name := "freeWords", desc := "()I" } : Jvm.MethodName)) ∈ WB_ := wb_mk (i := 303) (by decide +kernel) (by decide +kernel)
theorem wd_304 : (Jvm.Cond.methodLink "TabledStore$Memory" (69 : Nat) ({ cls := "TabledStore$Memory", name := "settle", desc := "([I)V" } : Jvm.MethodName)) ∈ WB_ := wb_mk (i := 304) (by decide +kernel) (by decide +kernel)
theorem wd_305 : (Jvm.Cond.methodLink "TabledStore$Memory" (76 : Nat) ({ cls := "TabledStore$Value", name := "ofEntry", desc := "(I)I" } : Jvm.MethodName)) ∈ WB_ := wb_mk (i := 305) (by decide +kernel) (by decide +kernel)
theorem wd_306 : (Jvm.Cond.static ({ cls := "TabledStore$Value", name := "ofEntry", desc := "(I)I" } : Jvm.MethodName)) ∈ WB_ := wb_mk (i := 306) (by decide +kernel) (by decide +kernel)
theorem wd_307 : (Jvm.Cond.code ({ cls := "TabledStore$Value", name := "ofEntry", desc := "(I)I" } : Jvm.MethodName) prog_3_method_3_code (1 : Nat) (Option.some Jvm.ClassFile.FieldType.int)) ∈ WB_ := wb_mk (i := 307) (by decide +kernel) (by decide +kernel)
theorem wd_308 : (Jvm.Cond.methodLink "TabledStore" (54 : Nat) ({ cls := "TabledStore", name := "needMade", desc := "(I)V" } : Jvm.MethodName)) ∈ WB_ := wb_mk (i := 308) (by decide +kernel) (by decide +kernel)
theorem wd_309 : (Jvm.Cond.static ({ cls := "TabledStore", name := "needMade", desc := "(I)V" } : Jvm.MethodName)) ∈ WB_ := wb_mk (i := 309) (by decide +kernel) (by decide +kernel)
theorem wd_310 : (Jvm.Cond.code ({ cls := "TabledStore", name := "needMade", desc := "(I)V" } : Jvm.MethodName) prog_1_method_33_code (1 : Nat) (Option.none : Option Jvm.ClassFile.FieldType)) ∈ WB_ := wb_mk (i := 310) (by decide +kernel) (by decide +kernel)
theorem wd_311 : (Jvm.Cond.classLink "TabledStore" (169 : Nat) "java/lang/UnsupportedOperationException") ∈ WB_ := wb_mk (i := 311) (by decide +kernel) (by decide +kernel)
theorem wd_327 : (Jvm.Cond.methodLink "TabledStore" (57 : Nat) ({ cls := "TabledStore$Memory", name := "identity", desc := "(I)I" } : Jvm.MethodName)) ∈ WB_ := wb_mk (i := 327) (by decide +kernel) (by decide +kernel)
theorem wd_328 : (Jvm.Cond.instanceMethod ({ cls := "TabledStore$Memory", name := "identity", desc := "(I)I" } : Jvm.MethodName)) ∈ WB_ := wb_mk (i := 328) (by decide +kernel) (by decide +kernel)
theorem wd_329 : (Jvm.Cond.selects "TabledStore$Memory" ({ cls := "TabledStore$Memory", name := "identity", desc := "(I)I" } : Jvm.MethodName) ({ cls := "TabledStore$Memory", name := "identity", desc := "(I)I" } : Jvm.MethodName)) ∈ WB_ := wb_mk (i := 329) (by decide +kernel) (by decide +kernel)
theorem wd_330 : (Jvm.Cond.code ({ cls := "TabledStore$Memory", name := "identity", desc := "(I)I" } : Jvm.MethodName) prog_2_method_9_code (2 : Nat) (Option.some Jvm.ClassFile.FieldType.int)) ∈ WB_ := wb_mk (i := 330) (by decide +kernel) (by decide +kernel)
theorem wd_331 : (Jvm.Cond.methodLink "TabledStore$Memory" (46 : Nat) ({ cls := "TabledStore$Memory", name := "place", desc := "(I)I" } : Jvm.MethodName)) ∈ WB_ := wb_mk (i := 331) (by decide +kernel) (by decide +kernel)
theorem wd_333 : (Jvm.Cond.instanceMethod ({ cls := "TabledStore$Memory", name := "place", desc := "(I)I" } : Jvm.MethodName)) ∈ WB_ := wb_mk (i := 333) (by decide +kernel) (by decide +kernel)
theorem wd_334 : (Jvm.Cond.code ({ cls := "TabledStore$Memory", name := "place", desc := "(I)I" } : Jvm.MethodName) prog_2_method_5_code (2 : Nat) (Option.some Jvm.ClassFile.FieldType.int)) ∈ WB_ := wb_mk (i := 334) (by decide +kernel) (by decide +kernel)
theorem wd_342 : (Jvm.Cond.methodLink "TabledStore" (60 : Nat) ({ cls := "TabledStore", name := "needObject", desc := "(I)V" } : Jvm.MethodName)) ∈ WB_ := wb_mk (i := 342) (by decide +kernel) (by decide +kernel)
theorem wd_344 : (Jvm.Cond.instanceMethod ({ cls := "TabledStore", name := "needObject", desc := "(I)V" } : Jvm.MethodName)) ∈ WB_ := wb_mk (i := 344) (by decide +kernel) (by decide +kernel)
theorem wd_345 : (Jvm.Cond.code ({ cls := "TabledStore", name := "needObject", desc := "(I)V" } : Jvm.MethodName) prog_1_method_29_code (2 : Nat) (Option.none : Option Jvm.ClassFile.FieldType)) ∈ WB_ := wb_mk (i := 345) (by decide +kernel) (by decide +kernel)
theorem wd_346 : (Jvm.Cond.methodLink "TabledStore" (113 : Nat) ({ cls := "TabledStore$Value", name := "isObject", desc := "(I)Z" } : Jvm.MethodName)) ∈ WB_ := wb_mk (i := 346) (by decide +kernel) (by decide +kernel)
theorem wd_348 : (Jvm.Cond.methodLink "TabledStore" (63 : Nat) ({ cls := "TabledStore$Memory", name := "buildLike", desc := "(I[I)I" } : Jvm.MethodName)) ∈ WB_ := wb_mk (i := 348) (by decide +kernel) (by decide +kernel)
theorem wd_349 : (Jvm.Cond.instanceMethod ({ cls := "TabledStore$Memory", name := "buildLike", desc := "(I[I)I" } : Jvm.MethodName)) ∈ WB_ := wb_mk (i := 349) (by decide +kernel) (by decide +kernel)
theorem wd_350 : (Jvm.Cond.selects "TabledStore$Memory" ({ cls := "TabledStore$Memory", name := "buildLike", desc := "(I[I)I" } : Jvm.MethodName) ({ cls := "TabledStore$Memory", name := "buildLike", desc := "(I[I)I" } : Jvm.MethodName)) ∈ WB_ := wb_mk (i := 350) (by decide +kernel) (by decide +kernel)
theorem wd_351 : (Jvm.Cond.code ({ cls := "TabledStore$Memory", name := "buildLike", desc := "(I[I)I" } : Jvm.MethodName) prog_2_method_22_code (5 : Nat) (Option.some Jvm.ClassFile.FieldType.int)) ∈ WB_ := wb_mk (i := 351) (by decide +kernel) (by decide +kernel)
theorem wd_352 : (Jvm.Cond.methodLink "TabledStore$Memory" (79 : Nat) ({ cls := "TabledStore$Memory", name := "itsClass", desc := "(I)I" } : Jvm.MethodName)) ∈ WB_ := wb_mk (i := 352) (by decide +kernel) (by decide +kernel)
theorem wd_353 : (Jvm.Cond.instanceMethod ({ cls := "TabledStore$Memory", name := "itsClass", desc := "(I)I" } : Jvm.MethodName)) ∈ WB_ := wb_mk (i := 353) (by decide +kernel) (by decide +kernel)
theorem wd_354 : (Jvm.Cond.selects "TabledStore$Memory" ({ cls := "TabledStore$Memory", name := "itsClass", desc := "(I)I" } : Jvm.MethodName) ({ cls := "TabledStore$Memory", name := "itsClass", desc := "(I)I" } : Jvm.MethodName)) ∈ WB_ := wb_mk (i := 354) (by decide +kernel) (by decide +kernel)
theorem wd_355 : (Jvm.Cond.code ({ cls := "TabledStore$Memory", name := "itsClass", desc := "(I)I" } : Jvm.MethodName) prog_2_method_10_code (2 : Nat) (Option.some Jvm.ClassFile.FieldType.int)) ∈ WB_ := wb_mk (i := 355) (by decide +kernel) (by decide +kernel)
theorem wd_356 : (Jvm.Cond.methodLink "TabledStore$Memory" (82 : Nat) ({ cls := "TabledStore$Memory", name := "build", desc := "(II[I)I" } : Jvm.MethodName)) ∈ WB_ := wb_mk (i := 356) (by decide +kernel) (by decide +kernel)
theorem wd_364 : (Jvm.Cond.methodLink "TabledStore" (67 : Nat) ({ cls := "TabledStore$Memory", name := "setSlot", desc := "(III)V" } : Jvm.MethodName)) ∈ WB_ := wb_mk (i := 364) (by decide +kernel) (by decide +kernel)
theorem wd_365 : (Jvm.Cond.instanceMethod ({ cls := "TabledStore$Memory", name := "setSlot", desc := "(III)V" } : Jvm.MethodName)) ∈ WB_ := wb_mk (i := 365) (by decide +kernel) (by decide +kernel)
theorem wd_366 : (Jvm.Cond.selects "TabledStore$Memory" ({ cls := "TabledStore$Memory", name := "setSlot", desc := "(III)V" } : Jvm.MethodName) ({ cls := "TabledStore$Memory", name := "setSlot", desc := "(III)V" } : Jvm.MethodName)) ∈ WB_ := wb_mk (i := 366) (by decide +kernel) (by decide +kernel)
theorem wd_367 : (Jvm.Cond.code ({ cls := "TabledStore$Memory", name := "setSlot", desc := "(III)V" } : Jvm.MethodName) prog_2_method_13_code (4 : Nat) (Option.none : Option Jvm.ClassFile.FieldType)) ∈ WB_ := wb_mk (i := 367) (by decide +kernel) (by decide +kernel)
theorem wd_368 : (Jvm.Cond.methodLink "TabledStore$Memory" (49 : Nat) ({ cls := "TabledStore$Memory", name := "overwrite", desc := "(II)V" } : Jvm.MethodName)) ∈ WB_ := wb_mk (i := 368) (by decide +kernel) (by decide +kernel)
theorem wd_370 : (Jvm.Cond.instanceMethod ({ cls := "TabledStore$Memory", name := "overwrite", desc := "(II)V" } : Jvm.MethodName)) ∈ WB_ := wb_mk (i := 370) (by decide +kernel) (by decide +kernel)
theorem wd_371 : (Jvm.Cond.code ({ cls := "TabledStore$Memory", name := "overwrite", desc := "(II)V" } : Jvm.MethodName) prog_2_method_17_code (3 : Nat) (Option.none : Option Jvm.ClassFile.FieldType)) ∈ WB_ := wb_mk (i := 371) (by decide +kernel) (by decide +kernel)
theorem wd_372 : (Jvm.Cond.methodLink "TabledStore$Memory" (56 : Nat) ({ cls := "TabledStore$Memory", name := "letGo", desc := "(I)V" } : Jvm.MethodName)) ∈ WB_ := wb_mk (i := 372) (by decide +kernel) (by decide +kernel)
theorem wd_381 : (Jvm.Cond.methodLink "TabledStore" (70 : Nat) ({ cls := "TabledStore", name := "needSlots", desc := "(I)V" } : Jvm.MethodName)) ∈ WB_ := wb_mk (i := 381) (by decide +kernel) (by decide +kernel)
theorem wd_383 : (Jvm.Cond.instanceMethod ({ cls := "TabledStore", name := "needSlots", desc := "(I)V" } : Jvm.MethodName)) ∈ WB_ := wb_mk (i := 383) (by decide +kernel) (by decide +kernel)
theorem wd_384 : (Jvm.Cond.code ({ cls := "TabledStore", name := "needSlots", desc := "(I)V" } : Jvm.MethodName) prog_1_method_30_code (2 : Nat) (Option.none : Option Jvm.ClassFile.FieldType)) ∈ WB_ := wb_mk (i := 384) (by decide +kernel) (by decide +kernel)
theorem wd_385 : (Jvm.Cond.methodLink "TabledStore" (80 : Nat) ({ cls := "TabledStore$Memory", name := "holdsSlots", desc := "(I)Z" } : Jvm.MethodName)) ∈ WB_ := wb_mk (i := 385) (by decide +kernel) (by decide +kernel)
theorem wd_386 : (Jvm.Cond.instanceMethod ({ cls := "TabledStore$Memory", name := "holdsSlots", desc := "(I)Z" } : Jvm.MethodName)) ∈ WB_ := wb_mk (i := 386) (by decide +kernel) (by decide +kernel)
theorem wd_387 : (Jvm.Cond.selects "TabledStore$Memory" ({ cls := "TabledStore$Memory", name := "holdsSlots", desc := "(I)Z" } : Jvm.MethodName) ({ cls := "TabledStore$Memory", name := "holdsSlots", desc := "(I)Z" } : Jvm.MethodName)) ∈ WB_ := wb_mk (i := 387) (by decide +kernel) (by decide +kernel)
theorem wd_388 : (Jvm.Cond.code ({ cls := "TabledStore$Memory", name := "holdsSlots", desc := "(I)Z" } : Jvm.MethodName) prog_2_method_6_code (2 : Nat) (Option.some Jvm.ClassFile.FieldType.boolean)) ∈ WB_ := wb_mk (i := 388) (by decide +kernel) (by decide +kernel)
theorem wd_390 : (Jvm.Cond.methodLink "TabledStore" (73 : Nat) ({ cls := "TabledStore", name := "needIndex", desc := "(II)V" } : Jvm.MethodName)) ∈ WB_ := wb_mk (i := 390) (by decide +kernel) (by decide +kernel)
theorem wd_392 : (Jvm.Cond.instanceMethod ({ cls := "TabledStore", name := "needIndex", desc := "(II)V" } : Jvm.MethodName)) ∈ WB_ := wb_mk (i := 392) (by decide +kernel) (by decide +kernel)
theorem wd_393 : (Jvm.Cond.code ({ cls := "TabledStore", name := "needIndex", desc := "(II)V" } : Jvm.MethodName) prog_1_method_32_code (3 : Nat) (Option.none : Option Jvm.ClassFile.FieldType)) ∈ WB_ := wb_mk (i := 393) (by decide +kernel) (by decide +kernel)
theorem wd_394 : (Jvm.Cond.methodLink "TabledStore" (84 : Nat) ({ cls := "TabledStore$Memory", name := "count", desc := "(I)I" } : Jvm.MethodName)) ∈ WB_ := wb_mk (i := 394) (by decide +kernel) (by decide +kernel)
theorem wd_395 : (Jvm.Cond.instanceMethod ({ cls := "TabledStore$Memory", name := "count", desc := "(I)I" } : Jvm.MethodName)) ∈ WB_ := wb_mk (i := 395) (by decide +kernel) (by decide +kernel)
theorem wd_396 : (Jvm.Cond.selects "TabledStore$Memory" ({ cls := "TabledStore$Memory", name := "count", desc := "(I)I" } : Jvm.MethodName) ({ cls := "TabledStore$Memory", name := "count", desc := "(I)I" } : Jvm.MethodName)) ∈ WB_ := wb_mk (i := 396) (by decide +kernel) (by decide +kernel)
theorem wd_397 : (Jvm.Cond.code ({ cls := "TabledStore$Memory", name := "count", desc := "(I)I" } : Jvm.MethodName) prog_2_method_8_code (2 : Nat) (Option.some Jvm.ClassFile.FieldType.int)) ∈ WB_ := wb_mk (i := 397) (by decide +kernel) (by decide +kernel)
theorem wd_398 : (Jvm.Cond.classLink "TabledStore" (164 : Nat) "java/lang/IndexOutOfBoundsException") ∈ WB_ := wb_mk (i := 398) (by decide +kernel) (by decide +kernel)
theorem wd_414 : (Jvm.Cond.methodLink "TabledStore" (76 : Nat) ({ cls := "TabledStore$Memory", name := "slot", desc := "(II)I" } : Jvm.MethodName)) ∈ WB_ := wb_mk (i := 414) (by decide +kernel) (by decide +kernel)
theorem wd_415 : (Jvm.Cond.instanceMethod ({ cls := "TabledStore$Memory", name := "slot", desc := "(II)I" } : Jvm.MethodName)) ∈ WB_ := wb_mk (i := 415) (by decide +kernel) (by decide +kernel)
theorem wd_416 : (Jvm.Cond.selects "TabledStore$Memory" ({ cls := "TabledStore$Memory", name := "slot", desc := "(II)I" } : Jvm.MethodName) ({ cls := "TabledStore$Memory", name := "slot", desc := "(II)I" } : Jvm.MethodName)) ∈ WB_ := wb_mk (i := 416) (by decide +kernel) (by decide +kernel)
theorem wd_417 : (Jvm.Cond.code ({ cls := "TabledStore$Memory", name := "slot", desc := "(II)I" } : Jvm.MethodName) prog_2_method_12_code (3 : Nat) (Option.some Jvm.ClassFile.FieldType.int)) ∈ WB_ := wb_mk (i := 417) (by decide +kernel) (by decide +kernel)
theorem wd_439 : (Jvm.Cond.methodLink "TabledStore" (87 : Nat) ({ cls := "TabledStore$Memory", name := "itsClass", desc := "(I)I" } : Jvm.MethodName)) ∈ WB_ := wb_mk (i := 439) (by decide +kernel) (by decide +kernel)
theorem wd_447 : (Jvm.Cond.methodLink "TabledStore" (90 : Nat) ({ cls := "TabledStore$Memory", name := "setItsClass", desc := "(II)V" } : Jvm.MethodName)) ∈ WB_ := wb_mk (i := 447) (by decide +kernel) (by decide +kernel)
theorem wd_448 : (Jvm.Cond.instanceMethod ({ cls := "TabledStore$Memory", name := "setItsClass", desc := "(II)V" } : Jvm.MethodName)) ∈ WB_ := wb_mk (i := 448) (by decide +kernel) (by decide +kernel)
theorem wd_449 : (Jvm.Cond.selects "TabledStore$Memory" ({ cls := "TabledStore$Memory", name := "setItsClass", desc := "(II)V" } : Jvm.MethodName) ({ cls := "TabledStore$Memory", name := "setItsClass", desc := "(II)V" } : Jvm.MethodName)) ∈ WB_ := wb_mk (i := 449) (by decide +kernel) (by decide +kernel)
theorem wd_450 : (Jvm.Cond.code ({ cls := "TabledStore$Memory", name := "setItsClass", desc := "(II)V" } : Jvm.MethodName) prog_2_method_11_code (3 : Nat) (Option.none : Option Jvm.ClassFile.FieldType)) ∈ WB_ := wb_mk (i := 450) (by decide +kernel) (by decide +kernel)
theorem wd_458 : (Jvm.Cond.methodLink "TabledStore" (93 : Nat) ({ cls := "TabledStore", name := "needBytes", desc := "(I)V" } : Jvm.MethodName)) ∈ WB_ := wb_mk (i := 458) (by decide +kernel) (by decide +kernel)
theorem wd_460 : (Jvm.Cond.instanceMethod ({ cls := "TabledStore", name := "needBytes", desc := "(I)V" } : Jvm.MethodName)) ∈ WB_ := wb_mk (i := 460) (by decide +kernel) (by decide +kernel)
theorem wd_461 : (Jvm.Cond.code ({ cls := "TabledStore", name := "needBytes", desc := "(I)V" } : Jvm.MethodName) prog_1_method_31_code (2 : Nat) (Option.none : Option Jvm.ClassFile.FieldType)) ∈ WB_ := wb_mk (i := 461) (by decide +kernel) (by decide +kernel)
theorem wd_462 : (Jvm.Cond.methodLink "TabledStore" (143 : Nat) ({ cls := "TabledStore$Memory", name := "holdsBytes", desc := "(I)Z" } : Jvm.MethodName)) ∈ WB_ := wb_mk (i := 462) (by decide +kernel) (by decide +kernel)
theorem wd_463 : (Jvm.Cond.instanceMethod ({ cls := "TabledStore$Memory", name := "holdsBytes", desc := "(I)Z" } : Jvm.MethodName)) ∈ WB_ := wb_mk (i := 463) (by decide +kernel) (by decide +kernel)
theorem wd_464 : (Jvm.Cond.selects "TabledStore$Memory" ({ cls := "TabledStore$Memory", name := "holdsBytes", desc := "(I)Z" } : Jvm.MethodName) ({ cls := "TabledStore$Memory", name := "holdsBytes", desc := "(I)Z" } : Jvm.MethodName)) ∈ WB_ := wb_mk (i := 464) (by decide +kernel) (by decide +kernel)
theorem wd_465 : (Jvm.Cond.code ({ cls := "TabledStore$Memory", name := "holdsBytes", desc := "(I)Z" } : Jvm.MethodName) prog_2_method_7_code (2 : Nat) (Option.some Jvm.ClassFile.FieldType.boolean)) ∈ WB_ := wb_mk (i := 465) (by decide +kernel) (by decide +kernel)
theorem wd_467 : (Jvm.Cond.methodLink "TabledStore" (96 : Nat) ({ cls := "TabledStore$Memory", name := "oneByte", desc := "(II)I" } : Jvm.MethodName)) ∈ WB_ := wb_mk (i := 467) (by decide +kernel) (by decide +kernel)
theorem wd_468 : (Jvm.Cond.instanceMethod ({ cls := "TabledStore$Memory", name := "oneByte", desc := "(II)I" } : Jvm.MethodName)) ∈ WB_ := wb_mk (i := 468) (by decide +kernel) (by decide +kernel)
theorem wd_469 : (Jvm.Cond.selects "TabledStore$Memory" ({ cls := "TabledStore$Memory", name := "oneByte", desc := "(II)I" } : Jvm.MethodName) ({ cls := "TabledStore$Memory", name := "oneByte", desc := "(II)I" } : Jvm.MethodName)) ∈ WB_ := wb_mk (i := 469) (by decide +kernel) (by decide +kernel)
theorem wd_470 : (Jvm.Cond.code ({ cls := "TabledStore$Memory", name := "oneByte", desc := "(II)I" } : Jvm.MethodName) prog_2_method_14_code (4 : Nat) (Option.some Jvm.ClassFile.FieldType.int)) ∈ WB_ := wb_mk (i := 470) (by decide +kernel) (by decide +kernel)
theorem wd_471 : (Jvm.Cond.methodLink "TabledStore$Memory" (53 : Nat) ({ cls := "TabledStore$Memory", name := "shiftOf", desc := "(I)I" } : Jvm.MethodName)) ∈ WB_ := wb_mk (i := 471) (by decide +kernel) (by decide +kernel)
theorem wd_472 : (Jvm.Cond.static ({ cls := "TabledStore$Memory", name := "shiftOf", desc := "(I)I" } : Jvm.MethodName)) ∈ WB_ := wb_mk (i := 472) (by decide +kernel) (by decide +kernel)
theorem wd_473 : (Jvm.Cond.code ({ cls := "TabledStore$Memory", name := "shiftOf", desc := "(I)I" } : Jvm.MethodName) prog_2_method_16_code (1 : Nat) (Option.some Jvm.ClassFile.FieldType.int)) ∈ WB_ := wb_mk (i := 473) (by decide +kernel) (by decide +kernel)
theorem wd_481 : (Jvm.Cond.methodLink "TabledStore" (99 : Nat) ({ cls := "java/lang/Math", name := "min", desc := "(II)I" } : Jvm.MethodName)) ∈ WB_ := wb_mk (i := 481) (by decide +kernel) (by decide +kernel)
theorem wd_482 : (Jvm.Cond.static ({ cls := "java/lang/Math", name := "min", desc := "(II)I" } : Jvm.MethodName)) ∈ WB_ := wb_mk (i := 482) (by decide +kernel) (by decide +kernel)
theorem wd_483 : (Jvm.Cond.code ({ cls := "java/lang/Math", name := "min", desc := "(II)I" } : Jvm.MethodName) prog_9_method_69_code (2 : Nat) (Option.some Jvm.ClassFile.FieldType.int)) ∈ WB_ := wb_mk (i := 483) (by decide +kernel) (by decide +kernel)
theorem wd_484 : (Jvm.Cond.methodLink "TabledStore" (104 : Nat) ({ cls := "TabledStore$Memory", name := "setOneByte", desc := "(III)V" } : Jvm.MethodName)) ∈ WB_ := wb_mk (i := 484) (by decide +kernel) (by decide +kernel)
theorem wd_485 : (Jvm.Cond.instanceMethod ({ cls := "TabledStore$Memory", name := "setOneByte", desc := "(III)V" } : Jvm.MethodName)) ∈ WB_ := wb_mk (i := 485) (by decide +kernel) (by decide +kernel)
theorem wd_486 : (Jvm.Cond.selects "TabledStore$Memory" ({ cls := "TabledStore$Memory", name := "setOneByte", desc := "(III)V" } : Jvm.MethodName) ({ cls := "TabledStore$Memory", name := "setOneByte", desc := "(III)V" } : Jvm.MethodName)) ∈ WB_ := wb_mk (i := 486) (by decide +kernel) (by decide +kernel)
theorem wd_487 : (Jvm.Cond.code ({ cls := "TabledStore$Memory", name := "setOneByte", desc := "(III)V" } : Jvm.MethodName) prog_2_method_15_code (6 : Nat) (Option.none : Option Jvm.ClassFile.FieldType)) ∈ WB_ := wb_mk (i := 487) (by decide +kernel) (by decide +kernel)
theorem wd_495 : (Jvm.Cond.methodLink "TabledStore" (107 : Nat) ({ cls := "TabledStore$Value", name := "isNumber", desc := "(I)Z" } : Jvm.MethodName)) ∈ WB_ := wb_mk (i := 495) (by decide +kernel) (by decide +kernel)
theorem wd_503 : (Jvm.Cond.methodLink "TabledStore" (110 : Nat) ({ cls := "TabledStore$Value", name := "toNumber", desc := "(I)I" } : Jvm.MethodName)) ∈ WB_ := wb_mk (i := 503) (by decide +kernel) (by decide +kernel)
theorem wd_504 : (Jvm.Cond.static ({ cls := "TabledStore$Value", name := "toNumber", desc := "(I)I" } : Jvm.MethodName)) ∈ WB_ := wb_mk (i := 504) (by decide +kernel) (by decide +kernel)
theorem wd_505 : (Jvm.Cond.code ({ cls := "TabledStore$Value", name := "toNumber", desc := "(I)I" } : Jvm.MethodName) prog_3_method_6_code (1 : Nat) (Option.some Jvm.ClassFile.FieldType.int)) ∈ WB_ := wb_mk (i := 505) (by decide +kernel) (by decide +kernel)
theorem wd_520 : (Jvm.Cond.methodLink "TabledStore" (116 : Nat) ({ cls := "TabledStore$Memory", name := "swap", desc := "(II)V" } : Jvm.MethodName)) ∈ WB_ := wb_mk (i := 520) (by decide +kernel) (by decide +kernel)
theorem wd_521 : (Jvm.Cond.instanceMethod ({ cls := "TabledStore$Memory", name := "swap", desc := "(II)V" } : Jvm.MethodName)) ∈ WB_ := wb_mk (i := 521) (by decide +kernel) (by decide +kernel)
theorem wd_522 : (Jvm.Cond.selects "TabledStore$Memory" ({ cls := "TabledStore$Memory", name := "swap", desc := "(II)V" } : Jvm.MethodName) ({ cls := "TabledStore$Memory", name := "swap", desc := "(II)V" } : Jvm.MethodName)) ∈ WB_ := wb_mk (i := 522) (by decide +kernel) (by decide +kernel)
theorem wd_523 : (Jvm.Cond.code ({ cls := "TabledStore$Memory", name := "swap", desc := "(II)V" } : Jvm.MethodName) prog_2_method_24_code (5 : Nat) (Option.none : Option Jvm.ClassFile.FieldType)) ∈ WB_ := wb_mk (i := 523) (by decide +kernel) (by decide +kernel)
theorem wd_524 : (Jvm.Cond.methodLink "TabledStore$Memory" (96 : Nat) ({ cls := "TabledStore$Memory", name := "seat", desc := "(II)V" } : Jvm.MethodName)) ∈ WB_ := wb_mk (i := 524) (by decide +kernel) (by decide +kernel)
theorem wd_526 : (Jvm.Cond.instanceMethod ({ cls := "TabledStore$Memory", name := "seat", desc := "(II)V" } : Jvm.MethodName)) ∈ WB_ := wb_mk (i := 526) (by decide +kernel) (by decide +kernel)
theorem wd_527 : (Jvm.Cond.code ({ cls := "TabledStore$Memory", name := "seat", desc := "(II)V" } : Jvm.MethodName) prog_2_method_25_code (3 : Nat) (Option.none : Option Jvm.ClassFile.FieldType)) ∈ WB_ := wb_mk (i := 527) (by decide +kernel) (by decide +kernel)
theorem wd_535 : (Jvm.Cond.constant "TabledStore" (132 : Nat) (2147483647 : Int32)) ∈ WB_ := wb_mk (i := 535) (by decide +kernel) (by decide +kernel)
theorem wd_536 : (Jvm.Cond.methodLink "TabledStore" (133 : Nat) ({ cls := "TabledStore$Memory", name := "findOfClass", desc := "(II)I" } : Jvm.MethodName)) ∈ WB_ := wb_mk (i := 536) (by decide +kernel) (by decide +kernel)
theorem wd_537 : (Jvm.Cond.instanceMethod ({ cls := "TabledStore$Memory", name := "findOfClass", desc := "(II)I" } : Jvm.MethodName)) ∈ WB_ := wb_mk (i := 537) (by decide +kernel) (by decide +kernel)
theorem wd_538 : (Jvm.Cond.selects "TabledStore$Memory" ({ cls := "TabledStore$Memory", name := "findOfClass", desc := "(II)I" } : Jvm.MethodName) ({ cls := "TabledStore$Memory", name := "findOfClass", desc := "(II)I" } : Jvm.MethodName)) ∈ WB_ := wb_mk (i := 538) (by decide +kernel) (by decide +kernel)
theorem wd_539 : (Jvm.Cond.code ({ cls := "TabledStore$Memory", name := "findOfClass", desc := "(II)I" } : Jvm.MethodName) prog_2_method_35_code (5 : Nat) (Option.some Jvm.ClassFile.FieldType.int)) ∈ WB_ := wb_mk (i := 539) (by decide +kernel) (by decide +kernel)
theorem wd_547 : (Jvm.Cond.methodLink "TabledStore" (136 : Nat) ({ cls := "TabledStore$Memory", name := "countHolders", desc := "(I)I" } : Jvm.MethodName)) ∈ WB_ := wb_mk (i := 547) (by decide +kernel) (by decide +kernel)
theorem wd_548 : (Jvm.Cond.instanceMethod ({ cls := "TabledStore$Memory", name := "countHolders", desc := "(I)I" } : Jvm.MethodName)) ∈ WB_ := wb_mk (i := 548) (by decide +kernel) (by decide +kernel)
theorem wd_549 : (Jvm.Cond.selects "TabledStore$Memory" ({ cls := "TabledStore$Memory", name := "countHolders", desc := "(I)I" } : Jvm.MethodName) ({ cls := "TabledStore$Memory", name := "countHolders", desc := "(I)I" } : Jvm.MethodName)) ∈ WB_ := wb_mk (i := 549) (by decide +kernel) (by decide +kernel)
theorem wd_550 : (Jvm.Cond.code ({ cls := "TabledStore$Memory", name := "countHolders", desc := "(I)I" } : Jvm.MethodName) prog_2_method_36_code (6 : Nat) (Option.some Jvm.ClassFile.FieldType.int)) ∈ WB_ := wb_mk (i := 550) (by decide +kernel) (by decide +kernel)
theorem wd_558 : (Jvm.Cond.methodLink "TabledStore" (139 : Nat) ({ cls := "TabledStore$Memory", name := "leadsTo", desc := "(II)Z" } : Jvm.MethodName)) ∈ WB_ := wb_mk (i := 558) (by decide +kernel) (by decide +kernel)
theorem wd_559 : (Jvm.Cond.instanceMethod ({ cls := "TabledStore$Memory", name := "leadsTo", desc := "(II)Z" } : Jvm.MethodName)) ∈ WB_ := wb_mk (i := 559) (by decide +kernel) (by decide +kernel)
theorem wd_560 : (Jvm.Cond.selects "TabledStore$Memory" ({ cls := "TabledStore$Memory", name := "leadsTo", desc := "(II)Z" } : Jvm.MethodName) ({ cls := "TabledStore$Memory", name := "leadsTo", desc := "(II)Z" } : Jvm.MethodName)) ∈ WB_ := wb_mk (i := 560) (by decide +kernel) (by decide +kernel)
theorem wd_561 : (Jvm.Cond.code ({ cls := "TabledStore$Memory", name := "leadsTo", desc := "(II)Z" } : Jvm.MethodName) prog_2_method_27_code (3 : Nat) (Option.some Jvm.ClassFile.FieldType.boolean)) ∈ WB_ := wb_mk (i := 561) (by decide +kernel) (by decide +kernel)
theorem g_V_7 : GoodIn WB_ (va_wsS R_V 7 y_V_isNumber ws_V_isNumber) := gS_ wd_124 wd_125 wd_40 wd_126
theorem g_M_33 : GoodIn WB_ (va_wsS R_M 33 y_M_isOfBytes ws_M_isOfBytes) := gS_ wd_142 wd_143 wd_34 wd_144
theorem g_M_37 : GoodIn WB_ (va_wsS R_M 37 y_V_toEntry ws_V_toEntry) := gS_ wd_127 wd_128 wd_40 wd_129
theorem g_M_43 : GoodIn WB_ (va_wsS R_M 43 y_V_isObject ws_V_isObject) := gS_ wd_121 wd_122 wd_40 wd_123
theorem g_M_46 : GoodIn WB_ (wsV R_M 46 R_M y_M_place ws_M_place) := gV_ wd_331 wd_333 wd_10 wd_34 wd_334
theorem g_M_53 : GoodIn WB_ (va_wsS R_M 53 y_M_shiftOf ws_M_shiftOf) := gS_ wd_471 wd_472 wd_34 wd_473
theorem g_M_92 : GoodIn WB_ (wsV R_M 92 R_M y_M_freeWords ws_M_freeWords) := gV_ wd_303 wd_160 wd_161 wd_34 wd_162
theorem g_M_63 : GoodIn WB_ (va_wsS R_M 63 y_M_bodyWords ws_M_bodyWords) := gS_ wd_145 wd_146 wd_34 wd_147
theorem g_M_123 : GoodIn WB_ (wsV R_M 123 R_M y_M_bodyWordsAt ws_M_bodyWordsAt) := gV_ wd_152 wd_154 wd_6 wd_34 wd_155
theorem g_M_76 : GoodIn WB_ (va_wsS R_M 76 y_V_ofEntry ws_V_ofEntry) := gS_ wd_305 wd_306 wd_40 wd_307
theorem g_M_120 : GoodIn WB_ (wsV R_M 120 R_M y_M_endOfSlots ws_M_endOfSlots) := gV_ wd_138 wd_140 wd_4 wd_34 wd_141
theorem g_M_56 : GoodIn WB_ (wsV R_M 56 R_M y_M_letGo ws_M_letGo) := gV_ wd_372 wd_267 wd_268 wd_34 wd_269
theorem g_M_49 : GoodIn WB_ (wsV R_M 49 R_M y_M_overwrite ws_M_overwrite) := gV_ wd_368 wd_370 wd_12 wd_34 wd_371
theorem g_M_96 : GoodIn WB_ (wsV R_M 96 R_M y_M_seat ws_M_seat) := gV_ wd_524 wd_526 wd_16 wd_34 wd_527
theorem g_M_111 : GoodIn WB_ (wsV R_M 111 R_M y_M_isReached ws_M_isReached) := gV_ wd_130 wd_132 wd_2 wd_34 wd_133
theorem g_M_102 : GoodIn WB_ (wsV R_M 102 R_M y_M_reach ws_M_reach) := gV_ wd_117 wd_119 wd_1 wd_34 wd_120
theorem g_M_99 : GoodIn WB_ (wsV R_M 99 R_M y_M_startRound ws_M_startRound) := gV_ wd_113 wd_115 wd_0 wd_34 wd_116
theorem g_M_105 : GoodIn WB_ (wsV R_M 105 R_M y_M_spread ws_M_spread) := gV_ wd_134 wd_136 wd_3 wd_34 wd_137
theorem g_M_108 : GoodIn WB_ (wsV R_M 108 R_M y_M_slide ws_M_slide) := gV_ wd_148 wd_150 wd_5 wd_34 wd_151
theorem g_M_66 : GoodIn WB_ (wsV R_M 66 R_M y_M_fits ws_M_fits) := gV_ wd_299 wd_301 wd_9 wd_34 wd_302
theorem g_M_69 : GoodIn WB_ (wsV R_M 69 R_M y_M_settle ws_M_settle) := gV_ wd_304 wd_110 wd_111 wd_34 wd_112
theorem g_M_79 : GoodIn WB_ (wsV R_M 79 R_M y_M_itsClass ws_M_itsClass) := gV_ wd_352 wd_353 wd_354 wd_34 wd_355
theorem g_M_82 : GoodIn WB_ (wsV R_M 82 R_M y_M_build ws_M_build) := gV_ wd_356 wd_296 wd_297 wd_34 wd_298
theorem g_T_16 : GoodIn WB_ (va_wsS R_T 16 y_T_isBetween ws_T_isBetween) := gS_ wd_56 wd_57 wd_33 wd_58
theorem g_T_27 : GoodIn WB_ (va_wsS R_T 27 y_T_needRegister ws_T_needRegister) := gS_ wd_182 wd_183 wd_33 wd_184
theorem g_T_113 : GoodIn WB_ (va_wsS R_T 113 y_V_isObject ws_V_isObject) := gS_ wd_346 wd_122 wd_40 wd_123
theorem g_T_80 : GoodIn WB_ (wsV R_T 80 R_M y_M_holdsSlots ws_M_holdsSlots) := gV_ wd_385 wd_386 wd_387 wd_34 wd_388
theorem g_T_143 : GoodIn WB_ (wsV R_T 143 R_M y_M_holdsBytes ws_M_holdsBytes) := gV_ wd_462 wd_463 wd_464 wd_34 wd_465
theorem g_T_84 : GoodIn WB_ (wsV R_T 84 R_M y_M_count ws_M_count) := gV_ wd_394 wd_395 wd_396 wd_34 wd_397
theorem g_T_146 : GoodIn WB_ (wsV R_T 146 R_M y_M_letGo ws_M_letGo) := gV_ wd_266 wd_267 wd_268 wd_34 wd_269
theorem g_T_33 : GoodIn WB_ (va_wsS R_T 33 y_T_needBetween ws_T_needBetween) := gS_ wd_255 wd_256 wd_33 wd_257
theorem g_T_37 : GoodIn WB_ (va_wsS R_T 37 y_V_ofNumber ws_V_ofNumber) := gS_ wd_259 wd_260 wd_40 wd_261
theorem g_T_43 : GoodIn WB_ (wsV R_T 43 R_T y_T_setRegister ws_T_setRegister) := gV_ wd_262 wd_264 wd_8 wd_33 wd_265
theorem g_T_46 : GoodIn WB_ (va_wsS R_T 46 y_M_shape ws_M_shape) := gS_ wd_292 wd_293 wd_34 wd_294
theorem g_T_50 : GoodIn WB_ (wsV R_T 50 R_M y_M_build ws_M_build) := gV_ wd_295 wd_296 wd_297 wd_34 wd_298
theorem g_T_54 : GoodIn WB_ (va_wsS R_T 54 y_T_needMade ws_T_needMade) := gS_ wd_308 wd_309 wd_33 wd_310
theorem g_T_57 : GoodIn WB_ (wsV R_T 57 R_M y_M_identity ws_M_identity) := gV_ wd_327 wd_328 wd_329 wd_34 wd_330
theorem g_T_60 : GoodIn WB_ (wsV R_T 60 R_T y_T_needObject ws_T_needObject) := gV_ wd_342 wd_344 wd_11 wd_33 wd_345
theorem g_T_63 : GoodIn WB_ (wsV R_T 63 R_M y_M_buildLike ws_M_buildLike) := gV_ wd_348 wd_349 wd_350 wd_34 wd_351
theorem g_T_67 : GoodIn WB_ (wsV R_T 67 R_M y_M_setSlot ws_M_setSlot) := gV_ wd_364 wd_365 wd_366 wd_34 wd_367
theorem g_T_70 : GoodIn WB_ (wsV R_T 70 R_T y_T_needSlots ws_T_needSlots) := gV_ wd_381 wd_383 wd_13 wd_33 wd_384
theorem g_T_73 : GoodIn WB_ (wsV R_T 73 R_T y_T_needIndex ws_T_needIndex) := gV_ wd_390 wd_392 wd_14 wd_33 wd_393
theorem g_T_76 : GoodIn WB_ (wsV R_T 76 R_M y_M_slot ws_M_slot) := gV_ wd_414 wd_415 wd_416 wd_34 wd_417
theorem g_T_87 : GoodIn WB_ (wsV R_T 87 R_M y_M_itsClass ws_M_itsClass) := gV_ wd_439 wd_353 wd_354 wd_34 wd_355
theorem g_T_90 : GoodIn WB_ (wsV R_T 90 R_M y_M_setItsClass ws_M_setItsClass) := gV_ wd_447 wd_448 wd_449 wd_34 wd_450
theorem g_T_93 : GoodIn WB_ (wsV R_T 93 R_T y_T_needBytes ws_T_needBytes) := gV_ wd_458 wd_460 wd_15 wd_33 wd_461
theorem g_T_96 : GoodIn WB_ (wsV R_T 96 R_M y_M_oneByte ws_M_oneByte) := gV_ wd_467 wd_468 wd_469 wd_34 wd_470
theorem g_T_104 : GoodIn WB_ (wsV R_T 104 R_M y_M_setOneByte ws_M_setOneByte) := gV_ wd_484 wd_485 wd_486 wd_34 wd_487
theorem g_T_107 : GoodIn WB_ (va_wsS R_T 107 y_V_isNumber ws_V_isNumber) := gS_ wd_495 wd_125 wd_40 wd_126
theorem g_T_110 : GoodIn WB_ (va_wsS R_T 110 y_V_toNumber ws_V_toNumber) := gS_ wd_503 wd_504 wd_40 wd_505
theorem g_T_116 : GoodIn WB_ (wsV R_T 116 R_M y_M_swap ws_M_swap) := gV_ wd_520 wd_521 wd_522 wd_34 wd_523
theorem g_T_119 : GoodIn WB_ (wsV R_T 119 R_M y_M_settle ws_M_settle) := gV_ wd_109 wd_110 wd_111 wd_34 wd_112
theorem g_T_123 : GoodIn WB_ (wsV R_T 123 R_M y_M_freeWords ws_M_freeWords) := gV_ wd_159 wd_160 wd_161 wd_34 wd_162
theorem g_T_127 : GoodIn WB_ (wsV R_T 127 R_M y_M_freeEntries ws_M_freeEntries) := gV_ wd_167 wd_168 wd_169 wd_34 wd_170
theorem g_T_133 : GoodIn WB_ (wsV R_T 133 R_M y_M_findOfClass ws_M_findOfClass) := gV_ wd_536 wd_537 wd_538 wd_34 wd_539
theorem g_T_136 : GoodIn WB_ (wsV R_T 136 R_M y_M_countHolders ws_M_countHolders) := gV_ wd_547 wd_548 wd_549 wd_34 wd_550
theorem g_T_139 : GoodIn WB_ (wsV R_T 139 R_M y_M_leadsTo ws_M_leadsTo) := gV_ wd_558 wd_559 wd_560 wd_34 wd_561
theorem xa_T_153 : ∀ w ∈ (vx_atS R_T 153 "java/lang/IllegalArgumentException" ["java/lang/RuntimeException", "java/lang/Exception"]).filter goodWord, w ∈ WB_ := by decide +kernel
theorem xa_T_153_n : ∀ w ∈ (vx_atS R_T 153 "java/lang/IllegalArgumentException" ["java/lang/RuntimeException", "java/lang/Exception"]).filter (fun w => !goodWord w), w ∈ [Cond.castable "java/lang/IllegalArgumentException" "java/lang/IllegalArgumentException", Cond.declares (Bundle.initS "java/lang/RuntimeException"), Cond.declares (Bundle.initS "java/lang/Exception"), Cond.declares (Bundle.initS "java/lang/Throwable")] := by decide +kernel
theorem xa_T_173 : ∀ w ∈ (vx_atS R_T 173 "java/lang/UnsupportedOperationException" ["java/lang/RuntimeException", "java/lang/Exception"]).filter goodWord, w ∈ WB_ := by decide +kernel
theorem xa_T_173_n : ∀ w ∈ (vx_atS R_T 173 "java/lang/UnsupportedOperationException" ["java/lang/RuntimeException", "java/lang/Exception"]).filter (fun w => !goodWord w), w ∈ [Cond.castable "java/lang/UnsupportedOperationException" "java/lang/UnsupportedOperationException", Cond.declares (Bundle.initS "java/lang/RuntimeException"), Cond.declares (Bundle.initS "java/lang/Exception"), Cond.declares (Bundle.initS "java/lang/Throwable")] := by decide +kernel
theorem xa_T_168 : ∀ w ∈ (vx_atS R_T 168 "java/lang/IndexOutOfBoundsException" ["java/lang/RuntimeException", "java/lang/Exception"]).filter goodWord, w ∈ WB_ := by decide +kernel
theorem xa_T_168_n : ∀ w ∈ (vx_atS R_T 168 "java/lang/IndexOutOfBoundsException" ["java/lang/RuntimeException", "java/lang/Exception"]).filter (fun w => !goodWord w), w ∈ [Cond.castable "java/lang/IndexOutOfBoundsException" "java/lang/IndexOutOfBoundsException", Cond.declares (Bundle.initS "java/lang/RuntimeException"), Cond.declares (Bundle.initS "java/lang/Exception"), Cond.declares (Bundle.initS "java/lang/Throwable")] := by decide +kernel
end
section
theorem d_V_ofNumber_0 : decode c_V_ofNumber 0 = .ok (.iconst 2, 1) := by decide +kernel
theorem d_V_ofNumber_1 : decode c_V_ofNumber 1 = .ok (.iload_n 0, 1) := by decide +kernel
theorem d_V_ofNumber_2 : decode c_V_ofNumber 2 = .ok (.imul, 1) := by decide +kernel
theorem d_V_ofNumber_3 : decode c_V_ofNumber 3 = .ok (.iconst 1, 1) := by decide +kernel
theorem d_V_ofNumber_4 : decode c_V_ofNumber 4 = .ok (.iadd, 1) := by decide +kernel
theorem d_V_ofNumber_5 : decode c_V_ofNumber 5 = .ok (.ireturn, 1) := by decide +kernel
theorem d_V_ofEntry_0 : decode c_V_ofEntry 0 = .ok (.iconst 2, 1) := by decide +kernel
theorem d_V_ofEntry_1 : decode c_V_ofEntry 1 = .ok (.iload_n 0, 1) := by decide +kernel
theorem d_V_ofEntry_2 : decode c_V_ofEntry 2 = .ok (.imul, 1) := by decide +kernel
theorem d_V_ofEntry_3 : decode c_V_ofEntry 3 = .ok (.iconst 2, 1) := by decide +kernel
theorem d_V_ofEntry_4 : decode c_V_ofEntry 4 = .ok (.iadd, 1) := by decide +kernel
theorem d_V_ofEntry_5 : decode c_V_ofEntry 5 = .ok (.ireturn, 1) := by decide +kernel
theorem d_V_isNumber_0 : decode c_V_isNumber 0 = .ok (.iload_n 0, 1) := by decide +kernel
theorem d_V_isNumber_1 : decode c_V_isNumber 1 = .ok (.iconst 1, 1) := by decide +kernel
theorem d_V_isNumber_2 : decode c_V_isNumber 2 = .ok (.iand, 1) := by decide +kernel
theorem d_V_isNumber_3 : decode c_V_isNumber 3 = .ok (.ifCond .eq 7, 3) := by decide +kernel
theorem d_V_isNumber_6 : decode c_V_isNumber 6 = .ok (.iconst 1, 1) := by decide +kernel
theorem d_V_isNumber_7 : decode c_V_isNumber 7 = .ok (.goto 4, 3) := by decide +kernel
theorem d_V_isNumber_10 : decode c_V_isNumber 10 = .ok (.iconst 0, 1) := by decide +kernel
theorem d_V_isNumber_11 : decode c_V_isNumber 11 = .ok (.ireturn, 1) := by decide +kernel
theorem d_V_isObject_0 : decode c_V_isObject 0 = .ok (.iload_n 0, 1) := by decide +kernel
theorem d_V_isObject_1 : decode c_V_isObject 1 = .ok (.ifCond .eq 14, 3) := by decide +kernel
theorem d_V_isObject_4 : decode c_V_isObject 4 = .ok (.iload_n 0, 1) := by decide +kernel
theorem d_V_isObject_5 : decode c_V_isObject 5 = .ok (.invokestatic 7, 3) := by decide +kernel
theorem d_V_isObject_8 : decode c_V_isObject 8 = .ok (.ifCond .ne 7, 3) := by decide +kernel
theorem d_V_isObject_11 : decode c_V_isObject 11 = .ok (.iconst 1, 1) := by decide +kernel
theorem d_V_isObject_12 : decode c_V_isObject 12 = .ok (.goto 4, 3) := by decide +kernel
theorem d_V_isObject_15 : decode c_V_isObject 15 = .ok (.iconst 0, 1) := by decide +kernel
theorem d_V_isObject_16 : decode c_V_isObject 16 = .ok (.ireturn, 1) := by decide +kernel
theorem d_V_toNumber_0 : decode c_V_toNumber 0 = .ok (.iload_n 0, 1) := by decide +kernel
theorem d_V_toNumber_1 : decode c_V_toNumber 1 = .ok (.iconst 1, 1) := by decide +kernel
theorem d_V_toNumber_2 : decode c_V_toNumber 2 = .ok (.ishr, 1) := by decide +kernel
theorem d_V_toNumber_3 : decode c_V_toNumber 3 = .ok (.ireturn, 1) := by decide +kernel
theorem d_V_toEntry_0 : decode c_V_toEntry 0 = .ok (.iload_n 0, 1) := by decide +kernel
theorem d_V_toEntry_1 : decode c_V_toEntry 1 = .ok (.iconst 1, 1) := by decide +kernel
theorem d_V_toEntry_2 : decode c_V_toEntry 2 = .ok (.ishr, 1) := by decide +kernel
theorem d_V_toEntry_3 : decode c_V_toEntry 3 = .ok (.iconst 1, 1) := by decide +kernel
theorem d_V_toEntry_4 : decode c_V_toEntry 4 = .ok (.isub, 1) := by decide +kernel
theorem d_V_toEntry_5 : decode c_V_toEntry 5 = .ok (.ireturn, 1) := by decide +kernel
theorem d_M_init_0 : decode c_M_init 0 = .ok (.aload_n 0, 1) := by decide +kernel
theorem d_M_init_1 : decode c_M_init 1 = .ok (.invokespecial 1, 3) := by decide +kernel
theorem d_M_init_4 : decode c_M_init 4 = .ok (.aload_n 0, 1) := by decide +kernel
theorem d_M_init_5 : decode c_M_init 5 = .ok (.iload_n 1, 1) := by decide +kernel
theorem d_M_init_6 : decode c_M_init 6 = .ok (.newarray .int, 2) := by decide +kernel
theorem d_M_init_8 : decode c_M_init 8 = .ok (.putfield 7, 3) := by decide +kernel
theorem d_M_init_11 : decode c_M_init 11 = .ok (.aload_n 0, 1) := by decide +kernel
theorem d_M_init_12 : decode c_M_init 12 = .ok (.iload_n 2, 1) := by decide +kernel
theorem d_M_init_13 : decode c_M_init 13 = .ok (.newarray .int, 2) := by decide +kernel
theorem d_M_init_15 : decode c_M_init 15 = .ok (.putfield 13, 3) := by decide +kernel
theorem d_M_init_18 : decode c_M_init 18 = .ok (.aload_n 0, 1) := by decide +kernel
theorem d_M_init_19 : decode c_M_init 19 = .ok (.iload_n 2, 1) := by decide +kernel
theorem d_M_init_20 : decode c_M_init 20 = .ok (.newarray .int, 2) := by decide +kernel
theorem d_M_init_22 : decode c_M_init 22 = .ok (.putfield 16, 3) := by decide +kernel
theorem d_M_init_25 : decode c_M_init 25 = .ok (.aload_n 0, 1) := by decide +kernel
theorem d_M_init_26 : decode c_M_init 26 = .ok (.iload_n 2, 1) := by decide +kernel
theorem d_M_init_27 : decode c_M_init 27 = .ok (.newarray .int, 2) := by decide +kernel
theorem d_M_init_29 : decode c_M_init 29 = .ok (.putfield 19, 3) := by decide +kernel
theorem d_M_init_32 : decode c_M_init 32 = .ok (.aload_n 0, 1) := by decide +kernel
theorem d_M_init_33 : decode c_M_init 33 = .ok (.iload_n 2, 1) := by decide +kernel
theorem d_M_init_34 : decode c_M_init 34 = .ok (.newarray .int, 2) := by decide +kernel
theorem d_M_init_36 : decode c_M_init 36 = .ok (.putfield 22, 3) := by decide +kernel
theorem d_M_init_39 : decode c_M_init 39 = .ok (.iconst 0, 1) := by decide +kernel
theorem d_M_init_40 : decode c_M_init 40 = .ok (.istore_n 3, 1) := by decide +kernel
theorem d_M_init_41 : decode c_M_init 41 = .ok (.iload_n 3, 1) := by decide +kernel
theorem d_M_init_42 : decode c_M_init 42 = .ok (.iload_n 2, 1) := by decide +kernel
theorem d_M_init_43 : decode c_M_init 43 = .ok (.if_icmp .ge 16, 3) := by decide +kernel
theorem d_M_init_46 : decode c_M_init 46 = .ok (.aload_n 0, 1) := by decide +kernel
theorem d_M_init_47 : decode c_M_init 47 = .ok (.getfield 16, 3) := by decide +kernel
theorem d_M_init_50 : decode c_M_init 50 = .ok (.iload_n 3, 1) := by decide +kernel
theorem d_M_init_51 : decode c_M_init 51 = .ok (.iload_n 3, 1) := by decide +kernel
theorem d_M_init_52 : decode c_M_init 52 = .ok (.iastore, 1) := by decide +kernel
theorem d_M_init_53 : decode c_M_init 53 = .ok (.iinc 3 1, 3) := by decide +kernel
theorem d_M_init_56 : decode c_M_init 56 = .ok (.goto (-15), 3) := by decide +kernel
theorem d_M_init_59 : decode c_M_init 59 = .ok (.aload_n 0, 1) := by decide +kernel
theorem d_M_init_60 : decode c_M_init 60 = .ok (.iload_n 2, 1) := by decide +kernel
theorem d_M_init_61 : decode c_M_init 61 = .ok (.putfield 25, 3) := by decide +kernel
theorem d_M_init_64 : decode c_M_init 64 = .ok (.aload_n 0, 1) := by decide +kernel
theorem d_M_init_65 : decode c_M_init 65 = .ok (.iconst 1, 1) := by decide +kernel
theorem d_M_init_66 : decode c_M_init 66 = .ok (.putfield 29, 3) := by decide +kernel
theorem d_M_init_69 : decode c_M_init 69 = .ok (.return_, 1) := by decide +kernel
theorem d_M_shape_0 : decode c_M_shape 0 = .ok (.iload_n 1, 1) := by decide +kernel
theorem d_M_shape_1 : decode c_M_shape 1 = .ok (.ifCond .eq 9, 3) := by decide +kernel
theorem d_M_shape_4 : decode c_M_shape 4 = .ok (.iconst 2, 1) := by decide +kernel
theorem d_M_shape_5 : decode c_M_shape 5 = .ok (.iload_n 0, 1) := by decide +kernel
theorem d_M_shape_6 : decode c_M_shape 6 = .ok (.imul, 1) := by decide +kernel
theorem d_M_shape_7 : decode c_M_shape 7 = .ok (.goto 8, 3) := by decide +kernel
theorem d_M_shape_10 : decode c_M_shape 10 = .ok (.iconst 2, 1) := by decide +kernel
theorem d_M_shape_11 : decode c_M_shape 11 = .ok (.iload_n 0, 1) := by decide +kernel
theorem d_M_shape_12 : decode c_M_shape 12 = .ok (.imul, 1) := by decide +kernel
theorem d_M_shape_13 : decode c_M_shape 13 = .ok (.iconst 1, 1) := by decide +kernel
theorem d_M_shape_14 : decode c_M_shape 14 = .ok (.iadd, 1) := by decide +kernel
theorem d_M_shape_15 : decode c_M_shape 15 = .ok (.ireturn, 1) := by decide +kernel
theorem d_M_isOfBytes_0 : decode c_M_isOfBytes 0 = .ok (.iload_n 0, 1) := by decide +kernel
theorem d_M_isOfBytes_1 : decode c_M_isOfBytes 1 = .ok (.iconst 1, 1) := by decide +kernel
theorem d_M_isOfBytes_2 : decode c_M_isOfBytes 2 = .ok (.iand, 1) := by decide +kernel
theorem d_M_isOfBytes_3 : decode c_M_isOfBytes 3 = .ok (.ifCond .eq 7, 3) := by decide +kernel
theorem d_M_isOfBytes_6 : decode c_M_isOfBytes 6 = .ok (.iconst 1, 1) := by decide +kernel
theorem d_M_isOfBytes_7 : decode c_M_isOfBytes 7 = .ok (.goto 4, 3) := by decide +kernel
theorem d_M_isOfBytes_10 : decode c_M_isOfBytes 10 = .ok (.iconst 0, 1) := by decide +kernel
theorem d_M_isOfBytes_11 : decode c_M_isOfBytes 11 = .ok (.ireturn, 1) := by decide +kernel
theorem d_M_bodyWords_0 : decode c_M_bodyWords 0 = .ok (.iload_n 0, 1) := by decide +kernel
theorem d_M_bodyWords_1 : decode c_M_bodyWords 1 = .ok (.iconst 1, 1) := by decide +kernel
theorem d_M_bodyWords_2 : decode c_M_bodyWords 2 = .ok (.ishr, 1) := by decide +kernel
theorem d_M_bodyWords_3 : decode c_M_bodyWords 3 = .ok (.istore_n 1, 1) := by decide +kernel
theorem d_M_bodyWords_4 : decode c_M_bodyWords 4 = .ok (.iload_n 0, 1) := by decide +kernel
theorem d_M_bodyWords_5 : decode c_M_bodyWords 5 = .ok (.invokestatic 33, 3) := by decide +kernel
theorem d_M_bodyWords_8 : decode c_M_bodyWords 8 = .ok (.ifCond .eq 11, 3) := by decide +kernel
theorem d_M_bodyWords_11 : decode c_M_bodyWords 11 = .ok (.iload_n 1, 1) := by decide +kernel
theorem d_M_bodyWords_12 : decode c_M_bodyWords 12 = .ok (.iconst 3, 1) := by decide +kernel
theorem d_M_bodyWords_13 : decode c_M_bodyWords 13 = .ok (.iadd, 1) := by decide +kernel
theorem d_M_bodyWords_14 : decode c_M_bodyWords 14 = .ok (.iconst 2, 1) := by decide +kernel
theorem d_M_bodyWords_15 : decode c_M_bodyWords 15 = .ok (.ishr, 1) := by decide +kernel
theorem d_M_bodyWords_16 : decode c_M_bodyWords 16 = .ok (.goto 4, 3) := by decide +kernel
theorem d_M_bodyWords_19 : decode c_M_bodyWords 19 = .ok (.iload_n 1, 1) := by decide +kernel
theorem d_M_bodyWords_20 : decode c_M_bodyWords 20 = .ok (.ireturn, 1) := by decide +kernel
theorem d_M_place_0 : decode c_M_place 0 = .ok (.aload_n 0, 1) := by decide +kernel
theorem d_M_place_1 : decode c_M_place 1 = .ok (.getfield 13, 3) := by decide +kernel
theorem d_M_place_4 : decode c_M_place 4 = .ok (.iload_n 1, 1) := by decide +kernel
theorem d_M_place_5 : decode c_M_place 5 = .ok (.invokestatic 37, 3) := by decide +kernel
theorem d_M_place_8 : decode c_M_place 8 = .ok (.iaload, 1) := by decide +kernel
theorem d_M_place_9 : decode c_M_place 9 = .ok (.ireturn, 1) := by decide +kernel
theorem d_M_holdsSlots_0 : decode c_M_holdsSlots 0 = .ok (.iload_n 1, 1) := by decide +kernel
theorem d_M_holdsSlots_1 : decode c_M_holdsSlots 1 = .ok (.invokestatic 43, 3) := by decide +kernel
theorem d_M_holdsSlots_4 : decode c_M_holdsSlots 4 = .ok (.ifCond .eq 25, 3) := by decide +kernel
theorem d_M_holdsSlots_7 : decode c_M_holdsSlots 7 = .ok (.aload_n 0, 1) := by decide +kernel
theorem d_M_holdsSlots_8 : decode c_M_holdsSlots 8 = .ok (.getfield 7, 3) := by decide +kernel
theorem d_M_holdsSlots_11 : decode c_M_holdsSlots 11 = .ok (.aload_n 0, 1) := by decide +kernel
theorem d_M_holdsSlots_12 : decode c_M_holdsSlots 12 = .ok (.iload_n 1, 1) := by decide +kernel
theorem d_M_holdsSlots_13 : decode c_M_holdsSlots 13 = .ok (.invokevirtual 46, 3) := by decide +kernel
theorem d_M_holdsSlots_16 : decode c_M_holdsSlots 16 = .ok (.iconst 3, 1) := by decide +kernel
theorem d_M_holdsSlots_17 : decode c_M_holdsSlots 17 = .ok (.iadd, 1) := by decide +kernel
theorem d_M_holdsSlots_18 : decode c_M_holdsSlots 18 = .ok (.iaload, 1) := by decide +kernel
theorem d_M_holdsSlots_19 : decode c_M_holdsSlots 19 = .ok (.invokestatic 33, 3) := by decide +kernel
theorem d_M_holdsSlots_22 : decode c_M_holdsSlots 22 = .ok (.ifCond .ne 7, 3) := by decide +kernel
theorem d_M_holdsSlots_25 : decode c_M_holdsSlots 25 = .ok (.iconst 1, 1) := by decide +kernel
theorem d_M_holdsSlots_26 : decode c_M_holdsSlots 26 = .ok (.goto 4, 3) := by decide +kernel
theorem d_M_holdsSlots_29 : decode c_M_holdsSlots 29 = .ok (.iconst 0, 1) := by decide +kernel
theorem d_M_holdsSlots_30 : decode c_M_holdsSlots 30 = .ok (.ireturn, 1) := by decide +kernel
theorem d_M_holdsBytes_0 : decode c_M_holdsBytes 0 = .ok (.iload_n 1, 1) := by decide +kernel
theorem d_M_holdsBytes_1 : decode c_M_holdsBytes 1 = .ok (.invokestatic 43, 3) := by decide +kernel
theorem d_M_holdsBytes_4 : decode c_M_holdsBytes 4 = .ok (.ifCond .eq 25, 3) := by decide +kernel
theorem d_M_holdsBytes_7 : decode c_M_holdsBytes 7 = .ok (.aload_n 0, 1) := by decide +kernel
theorem d_M_holdsBytes_8 : decode c_M_holdsBytes 8 = .ok (.getfield 7, 3) := by decide +kernel
theorem d_M_holdsBytes_11 : decode c_M_holdsBytes 11 = .ok (.aload_n 0, 1) := by decide +kernel
theorem d_M_holdsBytes_12 : decode c_M_holdsBytes 12 = .ok (.iload_n 1, 1) := by decide +kernel
theorem d_M_holdsBytes_13 : decode c_M_holdsBytes 13 = .ok (.invokevirtual 46, 3) := by decide +kernel
theorem d_M_holdsBytes_16 : decode c_M_holdsBytes 16 = .ok (.iconst 3, 1) := by decide +kernel
theorem d_M_holdsBytes_17 : decode c_M_holdsBytes 17 = .ok (.iadd, 1) := by decide +kernel
theorem d_M_holdsBytes_18 : decode c_M_holdsBytes 18 = .ok (.iaload, 1) := by decide +kernel
theorem d_M_holdsBytes_19 : decode c_M_holdsBytes 19 = .ok (.invokestatic 33, 3) := by decide +kernel
theorem d_M_holdsBytes_22 : decode c_M_holdsBytes 22 = .ok (.ifCond .eq 7, 3) := by decide +kernel
theorem d_M_holdsBytes_25 : decode c_M_holdsBytes 25 = .ok (.iconst 1, 1) := by decide +kernel
theorem d_M_holdsBytes_26 : decode c_M_holdsBytes 26 = .ok (.goto 4, 3) := by decide +kernel
theorem d_M_holdsBytes_29 : decode c_M_holdsBytes 29 = .ok (.iconst 0, 1) := by decide +kernel
theorem d_M_holdsBytes_30 : decode c_M_holdsBytes 30 = .ok (.ireturn, 1) := by decide +kernel
theorem d_M_count_0 : decode c_M_count 0 = .ok (.aload_n 0, 1) := by decide +kernel
theorem d_M_count_1 : decode c_M_count 1 = .ok (.getfield 7, 3) := by decide +kernel
theorem d_M_count_4 : decode c_M_count 4 = .ok (.aload_n 0, 1) := by decide +kernel
theorem d_M_count_5 : decode c_M_count 5 = .ok (.iload_n 1, 1) := by decide +kernel
theorem d_M_count_6 : decode c_M_count 6 = .ok (.invokevirtual 46, 3) := by decide +kernel
theorem d_M_count_9 : decode c_M_count 9 = .ok (.iconst 3, 1) := by decide +kernel
theorem d_M_count_10 : decode c_M_count 10 = .ok (.iadd, 1) := by decide +kernel
theorem d_M_count_11 : decode c_M_count 11 = .ok (.iaload, 1) := by decide +kernel
theorem d_M_count_12 : decode c_M_count 12 = .ok (.iconst 1, 1) := by decide +kernel
theorem d_M_count_13 : decode c_M_count 13 = .ok (.ishr, 1) := by decide +kernel
theorem d_M_count_14 : decode c_M_count 14 = .ok (.ireturn, 1) := by decide +kernel
theorem d_M_identity_0 : decode c_M_identity 0 = .ok (.aload_n 0, 1) := by decide +kernel
theorem d_M_identity_1 : decode c_M_identity 1 = .ok (.getfield 7, 3) := by decide +kernel
theorem d_M_identity_4 : decode c_M_identity 4 = .ok (.aload_n 0, 1) := by decide +kernel
theorem d_M_identity_5 : decode c_M_identity 5 = .ok (.iload_n 1, 1) := by decide +kernel
theorem d_M_identity_6 : decode c_M_identity 6 = .ok (.invokevirtual 46, 3) := by decide +kernel
theorem d_M_identity_9 : decode c_M_identity 9 = .ok (.iconst 1, 1) := by decide +kernel
theorem d_M_identity_10 : decode c_M_identity 10 = .ok (.iadd, 1) := by decide +kernel
theorem d_M_identity_11 : decode c_M_identity 11 = .ok (.iaload, 1) := by decide +kernel
theorem d_M_identity_12 : decode c_M_identity 12 = .ok (.ireturn, 1) := by decide +kernel
theorem d_M_itsClass_0 : decode c_M_itsClass 0 = .ok (.aload_n 0, 1) := by decide +kernel
theorem d_M_itsClass_1 : decode c_M_itsClass 1 = .ok (.getfield 7, 3) := by decide +kernel
theorem d_M_itsClass_4 : decode c_M_itsClass 4 = .ok (.aload_n 0, 1) := by decide +kernel
theorem d_M_itsClass_5 : decode c_M_itsClass 5 = .ok (.iload_n 1, 1) := by decide +kernel
theorem d_M_itsClass_6 : decode c_M_itsClass 6 = .ok (.invokevirtual 46, 3) := by decide +kernel
theorem d_M_itsClass_9 : decode c_M_itsClass 9 = .ok (.iconst 2, 1) := by decide +kernel
theorem d_M_itsClass_10 : decode c_M_itsClass 10 = .ok (.iadd, 1) := by decide +kernel
theorem d_M_itsClass_11 : decode c_M_itsClass 11 = .ok (.iaload, 1) := by decide +kernel
theorem d_M_itsClass_12 : decode c_M_itsClass 12 = .ok (.ireturn, 1) := by decide +kernel
theorem d_M_setItsClass_0 : decode c_M_setItsClass 0 = .ok (.aload_n 0, 1) := by decide +kernel
theorem d_M_setItsClass_1 : decode c_M_setItsClass 1 = .ok (.aload_n 0, 1) := by decide +kernel
theorem d_M_setItsClass_2 : decode c_M_setItsClass 2 = .ok (.iload_n 1, 1) := by decide +kernel
theorem d_M_setItsClass_3 : decode c_M_setItsClass 3 = .ok (.invokevirtual 46, 3) := by decide +kernel
theorem d_M_setItsClass_6 : decode c_M_setItsClass 6 = .ok (.iconst 2, 1) := by decide +kernel
theorem d_M_setItsClass_7 : decode c_M_setItsClass 7 = .ok (.iadd, 1) := by decide +kernel
theorem d_M_setItsClass_8 : decode c_M_setItsClass 8 = .ok (.iload_n 2, 1) := by decide +kernel
theorem d_M_setItsClass_9 : decode c_M_setItsClass 9 = .ok (.invokevirtual 49, 3) := by decide +kernel
theorem d_M_setItsClass_12 : decode c_M_setItsClass 12 = .ok (.return_, 1) := by decide +kernel
theorem d_M_slot_0 : decode c_M_slot 0 = .ok (.aload_n 0, 1) := by decide +kernel
theorem d_M_slot_1 : decode c_M_slot 1 = .ok (.getfield 7, 3) := by decide +kernel
theorem d_M_slot_4 : decode c_M_slot 4 = .ok (.aload_n 0, 1) := by decide +kernel
theorem d_M_slot_5 : decode c_M_slot 5 = .ok (.iload_n 1, 1) := by decide +kernel
theorem d_M_slot_6 : decode c_M_slot 6 = .ok (.invokevirtual 46, 3) := by decide +kernel
theorem d_M_slot_9 : decode c_M_slot 9 = .ok (.iconst 4, 1) := by decide +kernel
theorem d_M_slot_10 : decode c_M_slot 10 = .ok (.iadd, 1) := by decide +kernel
theorem d_M_slot_11 : decode c_M_slot 11 = .ok (.iload_n 2, 1) := by decide +kernel
theorem d_M_slot_12 : decode c_M_slot 12 = .ok (.iadd, 1) := by decide +kernel
theorem d_M_slot_13 : decode c_M_slot 13 = .ok (.iaload, 1) := by decide +kernel
theorem d_M_slot_14 : decode c_M_slot 14 = .ok (.ireturn, 1) := by decide +kernel
theorem d_M_setSlot_0 : decode c_M_setSlot 0 = .ok (.aload_n 0, 1) := by decide +kernel
theorem d_M_setSlot_1 : decode c_M_setSlot 1 = .ok (.aload_n 0, 1) := by decide +kernel
theorem d_M_setSlot_2 : decode c_M_setSlot 2 = .ok (.iload_n 1, 1) := by decide +kernel
theorem d_M_setSlot_3 : decode c_M_setSlot 3 = .ok (.invokevirtual 46, 3) := by decide +kernel
theorem d_M_setSlot_6 : decode c_M_setSlot 6 = .ok (.iconst 4, 1) := by decide +kernel
theorem d_M_setSlot_7 : decode c_M_setSlot 7 = .ok (.iadd, 1) := by decide +kernel
theorem d_M_setSlot_8 : decode c_M_setSlot 8 = .ok (.iload_n 2, 1) := by decide +kernel
theorem d_M_setSlot_9 : decode c_M_setSlot 9 = .ok (.iadd, 1) := by decide +kernel
theorem d_M_setSlot_10 : decode c_M_setSlot 10 = .ok (.iload_n 3, 1) := by decide +kernel
theorem d_M_setSlot_11 : decode c_M_setSlot 11 = .ok (.invokevirtual 49, 3) := by decide +kernel
theorem d_M_setSlot_14 : decode c_M_setSlot 14 = .ok (.return_, 1) := by decide +kernel
theorem d_M_oneByte_0 : decode c_M_oneByte 0 = .ok (.aload_n 0, 1) := by decide +kernel
theorem d_M_oneByte_1 : decode c_M_oneByte 1 = .ok (.getfield 7, 3) := by decide +kernel
theorem d_M_oneByte_4 : decode c_M_oneByte 4 = .ok (.aload_n 0, 1) := by decide +kernel
theorem d_M_oneByte_5 : decode c_M_oneByte 5 = .ok (.iload_n 1, 1) := by decide +kernel
theorem d_M_oneByte_6 : decode c_M_oneByte 6 = .ok (.invokevirtual 46, 3) := by decide +kernel
theorem d_M_oneByte_9 : decode c_M_oneByte 9 = .ok (.iconst 4, 1) := by decide +kernel
theorem d_M_oneByte_10 : decode c_M_oneByte 10 = .ok (.iadd, 1) := by decide +kernel
theorem d_M_oneByte_11 : decode c_M_oneByte 11 = .ok (.iload_n 2, 1) := by decide +kernel
theorem d_M_oneByte_12 : decode c_M_oneByte 12 = .ok (.iconst 2, 1) := by decide +kernel
theorem d_M_oneByte_13 : decode c_M_oneByte 13 = .ok (.ishr, 1) := by decide +kernel
theorem d_M_oneByte_14 : decode c_M_oneByte 14 = .ok (.iadd, 1) := by decide +kernel
theorem d_M_oneByte_15 : decode c_M_oneByte 15 = .ok (.iaload, 1) := by decide +kernel
theorem d_M_oneByte_16 : decode c_M_oneByte 16 = .ok (.istore_n 3, 1) := by decide +kernel
theorem d_M_oneByte_17 : decode c_M_oneByte 17 = .ok (.iload_n 3, 1) := by decide +kernel
theorem d_M_oneByte_18 : decode c_M_oneByte 18 = .ok (.iload_n 2, 1) := by decide +kernel
theorem d_M_oneByte_19 : decode c_M_oneByte 19 = .ok (.invokestatic 53, 3) := by decide +kernel
theorem d_M_oneByte_22 : decode c_M_oneByte 22 = .ok (.iushr, 1) := by decide +kernel
theorem d_M_oneByte_23 : decode c_M_oneByte 23 = .ok (.sipush 255, 3) := by decide +kernel
theorem d_M_oneByte_26 : decode c_M_oneByte 26 = .ok (.iand, 1) := by decide +kernel
theorem d_M_oneByte_27 : decode c_M_oneByte 27 = .ok (.ireturn, 1) := by decide +kernel
theorem d_M_setOneByte_0 : decode c_M_setOneByte 0 = .ok (.aload_n 0, 1) := by decide +kernel
theorem d_M_setOneByte_1 : decode c_M_setOneByte 1 = .ok (.iload_n 1, 1) := by decide +kernel
theorem d_M_setOneByte_2 : decode c_M_setOneByte 2 = .ok (.invokevirtual 46, 3) := by decide +kernel
theorem d_M_setOneByte_5 : decode c_M_setOneByte 5 = .ok (.iconst 4, 1) := by decide +kernel
theorem d_M_setOneByte_6 : decode c_M_setOneByte 6 = .ok (.iadd, 1) := by decide +kernel
theorem d_M_setOneByte_7 : decode c_M_setOneByte 7 = .ok (.iload_n 2, 1) := by decide +kernel
theorem d_M_setOneByte_8 : decode c_M_setOneByte 8 = .ok (.iconst 2, 1) := by decide +kernel
theorem d_M_setOneByte_9 : decode c_M_setOneByte 9 = .ok (.ishr, 1) := by decide +kernel
theorem d_M_setOneByte_10 : decode c_M_setOneByte 10 = .ok (.iadd, 1) := by decide +kernel
theorem d_M_setOneByte_11 : decode c_M_setOneByte 11 = .ok (.istore 4, 2) := by decide +kernel
theorem d_M_setOneByte_13 : decode c_M_setOneByte 13 = .ok (.aload_n 0, 1) := by decide +kernel
theorem d_M_setOneByte_14 : decode c_M_setOneByte 14 = .ok (.getfield 7, 3) := by decide +kernel
theorem d_M_setOneByte_17 : decode c_M_setOneByte 17 = .ok (.iload 4, 2) := by decide +kernel
theorem d_M_setOneByte_19 : decode c_M_setOneByte 19 = .ok (.iaload, 1) := by decide +kernel
theorem d_M_setOneByte_20 : decode c_M_setOneByte 20 = .ok (.sipush 255, 3) := by decide +kernel
theorem d_M_setOneByte_23 : decode c_M_setOneByte 23 = .ok (.iload_n 2, 1) := by decide +kernel
theorem d_M_setOneByte_24 : decode c_M_setOneByte 24 = .ok (.invokestatic 53, 3) := by decide +kernel
theorem d_M_setOneByte_27 : decode c_M_setOneByte 27 = .ok (.ishl, 1) := by decide +kernel
theorem d_M_setOneByte_28 : decode c_M_setOneByte 28 = .ok (.iconst (-1), 1) := by decide +kernel
theorem d_M_setOneByte_29 : decode c_M_setOneByte 29 = .ok (.ixor, 1) := by decide +kernel
theorem d_M_setOneByte_30 : decode c_M_setOneByte 30 = .ok (.iand, 1) := by decide +kernel
theorem d_M_setOneByte_31 : decode c_M_setOneByte 31 = .ok (.istore 5, 2) := by decide +kernel
theorem d_M_setOneByte_33 : decode c_M_setOneByte 33 = .ok (.aload_n 0, 1) := by decide +kernel
theorem d_M_setOneByte_34 : decode c_M_setOneByte 34 = .ok (.getfield 7, 3) := by decide +kernel
theorem d_M_setOneByte_37 : decode c_M_setOneByte 37 = .ok (.iload 4, 2) := by decide +kernel
theorem d_M_setOneByte_39 : decode c_M_setOneByte 39 = .ok (.iload 5, 2) := by decide +kernel
theorem d_M_setOneByte_41 : decode c_M_setOneByte 41 = .ok (.iload_n 3, 1) := by decide +kernel
theorem d_M_setOneByte_42 : decode c_M_setOneByte 42 = .ok (.iload_n 2, 1) := by decide +kernel
theorem d_M_setOneByte_43 : decode c_M_setOneByte 43 = .ok (.invokestatic 53, 3) := by decide +kernel
theorem d_M_setOneByte_46 : decode c_M_setOneByte 46 = .ok (.ishl, 1) := by decide +kernel
theorem d_M_setOneByte_47 : decode c_M_setOneByte 47 = .ok (.ior, 1) := by decide +kernel
theorem d_M_setOneByte_48 : decode c_M_setOneByte 48 = .ok (.iastore, 1) := by decide +kernel
theorem d_M_setOneByte_49 : decode c_M_setOneByte 49 = .ok (.return_, 1) := by decide +kernel
theorem d_M_shiftOf_0 : decode c_M_shiftOf 0 = .ok (.bipush 8, 2) := by decide +kernel
theorem d_M_shiftOf_2 : decode c_M_shiftOf 2 = .ok (.iload_n 0, 1) := by decide +kernel
theorem d_M_shiftOf_3 : decode c_M_shiftOf 3 = .ok (.iconst 3, 1) := by decide +kernel
theorem d_M_shiftOf_4 : decode c_M_shiftOf 4 = .ok (.iand, 1) := by decide +kernel
theorem d_M_shiftOf_5 : decode c_M_shiftOf 5 = .ok (.imul, 1) := by decide +kernel
theorem d_M_shiftOf_6 : decode c_M_shiftOf 6 = .ok (.ireturn, 1) := by decide +kernel
theorem d_M_overwrite_0 : decode c_M_overwrite 0 = .ok (.aload_n 0, 1) := by decide +kernel
theorem d_M_overwrite_1 : decode c_M_overwrite 1 = .ok (.aload_n 0, 1) := by decide +kernel
theorem d_M_overwrite_2 : decode c_M_overwrite 2 = .ok (.getfield 7, 3) := by decide +kernel
theorem d_M_overwrite_5 : decode c_M_overwrite 5 = .ok (.iload_n 1, 1) := by decide +kernel
theorem d_M_overwrite_6 : decode c_M_overwrite 6 = .ok (.iaload, 1) := by decide +kernel
theorem d_M_overwrite_7 : decode c_M_overwrite 7 = .ok (.invokevirtual 56, 3) := by decide +kernel
theorem d_M_overwrite_10 : decode c_M_overwrite 10 = .ok (.aload_n 0, 1) := by decide +kernel
theorem d_M_overwrite_11 : decode c_M_overwrite 11 = .ok (.getfield 7, 3) := by decide +kernel
theorem d_M_overwrite_14 : decode c_M_overwrite 14 = .ok (.iload_n 1, 1) := by decide +kernel
theorem d_M_overwrite_15 : decode c_M_overwrite 15 = .ok (.iload_n 2, 1) := by decide +kernel
theorem d_M_overwrite_16 : decode c_M_overwrite 16 = .ok (.iastore, 1) := by decide +kernel
theorem d_M_overwrite_17 : decode c_M_overwrite 17 = .ok (.return_, 1) := by decide +kernel
theorem d_M_letGo_0 : decode c_M_letGo 0 = .ok (.iload_n 1, 1) := by decide +kernel
theorem d_M_letGo_1 : decode c_M_letGo 1 = .ok (.invokestatic 43, 3) := by decide +kernel
theorem d_M_letGo_4 : decode c_M_letGo 4 = .ok (.ifCond .eq 8, 3) := by decide +kernel
theorem d_M_letGo_7 : decode c_M_letGo 7 = .ok (.aload_n 0, 1) := by decide +kernel
theorem d_M_letGo_8 : decode c_M_letGo 8 = .ok (.iconst 0, 1) := by decide +kernel
theorem d_M_letGo_9 : decode c_M_letGo 9 = .ok (.putfield 29, 3) := by decide +kernel
theorem d_M_letGo_12 : decode c_M_letGo 12 = .ok (.return_, 1) := by decide +kernel
theorem d_M_freeWords_0 : decode c_M_freeWords 0 = .ok (.aload_n 0, 1) := by decide +kernel
theorem d_M_freeWords_1 : decode c_M_freeWords 1 = .ok (.getfield 7, 3) := by decide +kernel
theorem d_M_freeWords_4 : decode c_M_freeWords 4 = .ok (.arraylength, 1) := by decide +kernel
theorem d_M_freeWords_5 : decode c_M_freeWords 5 = .ok (.aload_n 0, 1) := by decide +kernel
theorem d_M_freeWords_6 : decode c_M_freeWords 6 = .ok (.getfield 60, 3) := by decide +kernel
theorem d_M_freeWords_9 : decode c_M_freeWords 9 = .ok (.isub, 1) := by decide +kernel
theorem d_M_freeWords_10 : decode c_M_freeWords 10 = .ok (.ireturn, 1) := by decide +kernel
theorem d_M_freeEntries_0 : decode c_M_freeEntries 0 = .ok (.aload_n 0, 1) := by decide +kernel
theorem d_M_freeEntries_1 : decode c_M_freeEntries 1 = .ok (.getfield 25, 3) := by decide +kernel
theorem d_M_freeEntries_4 : decode c_M_freeEntries 4 = .ok (.ireturn, 1) := by decide +kernel
theorem d_M_build_0 : decode c_M_build 0 = .ok (.iconst 4, 1) := by decide +kernel
theorem d_M_build_1 : decode c_M_build 1 = .ok (.iload_n 2, 1) := by decide +kernel
theorem d_M_build_2 : decode c_M_build 2 = .ok (.invokestatic 63, 3) := by decide +kernel
theorem d_M_build_5 : decode c_M_build 5 = .ok (.iadd, 1) := by decide +kernel
theorem d_M_build_6 : decode c_M_build 6 = .ok (.istore 4, 2) := by decide +kernel
theorem d_M_build_8 : decode c_M_build 8 = .ok (.aload_n 0, 1) := by decide +kernel
theorem d_M_build_9 : decode c_M_build 9 = .ok (.iload 4, 2) := by decide +kernel
theorem d_M_build_11 : decode c_M_build 11 = .ok (.invokevirtual 66, 3) := by decide +kernel
theorem d_M_build_14 : decode c_M_build 14 = .ok (.ifCond .ne 8, 3) := by decide +kernel
theorem d_M_build_17 : decode c_M_build 17 = .ok (.aload_n 0, 1) := by decide +kernel
theorem d_M_build_18 : decode c_M_build 18 = .ok (.aload_n 3, 1) := by decide +kernel
theorem d_M_build_19 : decode c_M_build 19 = .ok (.invokevirtual 69, 3) := by decide +kernel
theorem d_M_build_22 : decode c_M_build 22 = .ok (.aload_n 0, 1) := by decide +kernel
theorem d_M_build_23 : decode c_M_build 23 = .ok (.iload 4, 2) := by decide +kernel
theorem d_M_build_25 : decode c_M_build 25 = .ok (.invokevirtual 66, 3) := by decide +kernel
theorem d_M_build_28 : decode c_M_build 28 = .ok (.ifCond .ne 5, 3) := by decide +kernel
theorem d_M_build_31 : decode c_M_build 31 = .ok (.iconst 0, 1) := by decide +kernel
theorem d_M_build_32 : decode c_M_build 32 = .ok (.ireturn, 1) := by decide +kernel
theorem d_M_build_33 : decode c_M_build 33 = .ok (.aload_n 0, 1) := by decide +kernel
theorem d_M_build_34 : decode c_M_build 34 = .ok (.dup, 1) := by decide +kernel
theorem d_M_build_35 : decode c_M_build 35 = .ok (.getfield 25, 3) := by decide +kernel
theorem d_M_build_38 : decode c_M_build 38 = .ok (.iconst 1, 1) := by decide +kernel
theorem d_M_build_39 : decode c_M_build 39 = .ok (.isub, 1) := by decide +kernel
theorem d_M_build_40 : decode c_M_build 40 = .ok (.putfield 25, 3) := by decide +kernel
theorem d_M_build_43 : decode c_M_build 43 = .ok (.aload_n 0, 1) := by decide +kernel
theorem d_M_build_44 : decode c_M_build 44 = .ok (.getfield 16, 3) := by decide +kernel
theorem d_M_build_47 : decode c_M_build 47 = .ok (.aload_n 0, 1) := by decide +kernel
theorem d_M_build_48 : decode c_M_build 48 = .ok (.getfield 25, 3) := by decide +kernel
theorem d_M_build_51 : decode c_M_build 51 = .ok (.iaload, 1) := by decide +kernel
theorem d_M_build_52 : decode c_M_build 52 = .ok (.istore 5, 2) := by decide +kernel
theorem d_M_build_54 : decode c_M_build 54 = .ok (.aload_n 0, 1) := by decide +kernel
theorem d_M_build_55 : decode c_M_build 55 = .ok (.getfield 60, 3) := by decide +kernel
theorem d_M_build_58 : decode c_M_build 58 = .ok (.istore 6, 2) := by decide +kernel
theorem d_M_build_60 : decode c_M_build 60 = .ok (.aload_n 0, 1) := by decide +kernel
theorem d_M_build_61 : decode c_M_build 61 = .ok (.dup, 1) := by decide +kernel
theorem d_M_build_62 : decode c_M_build 62 = .ok (.getfield 60, 3) := by decide +kernel
theorem d_M_build_65 : decode c_M_build 65 = .ok (.iload 4, 2) := by decide +kernel
theorem d_M_build_67 : decode c_M_build 67 = .ok (.iadd, 1) := by decide +kernel
theorem d_M_build_68 : decode c_M_build 68 = .ok (.putfield 60, 3) := by decide +kernel
theorem d_M_build_71 : decode c_M_build 71 = .ok (.aload_n 0, 1) := by decide +kernel
theorem d_M_build_72 : decode c_M_build 72 = .ok (.dup, 1) := by decide +kernel
theorem d_M_build_73 : decode c_M_build 73 = .ok (.getfield 73, 3) := by decide +kernel
theorem d_M_build_76 : decode c_M_build 76 = .ok (.iconst 1, 1) := by decide +kernel
theorem d_M_build_77 : decode c_M_build 77 = .ok (.iadd, 1) := by decide +kernel
theorem d_M_build_78 : decode c_M_build 78 = .ok (.putfield 73, 3) := by decide +kernel
theorem d_M_build_81 : decode c_M_build 81 = .ok (.aload_n 0, 1) := by decide +kernel
theorem d_M_build_82 : decode c_M_build 82 = .ok (.getfield 13, 3) := by decide +kernel
theorem d_M_build_85 : decode c_M_build 85 = .ok (.iload 5, 2) := by decide +kernel
theorem d_M_build_87 : decode c_M_build 87 = .ok (.iload 6, 2) := by decide +kernel
theorem d_M_build_89 : decode c_M_build 89 = .ok (.iastore, 1) := by decide +kernel
theorem d_M_build_90 : decode c_M_build 90 = .ok (.aload_n 0, 1) := by decide +kernel
theorem d_M_build_91 : decode c_M_build 91 = .ok (.getfield 7, 3) := by decide +kernel
theorem d_M_build_94 : decode c_M_build 94 = .ok (.iload 6, 2) := by decide +kernel
theorem d_M_build_96 : decode c_M_build 96 = .ok (.iconst 0, 1) := by decide +kernel
theorem d_M_build_97 : decode c_M_build 97 = .ok (.iadd, 1) := by decide +kernel
theorem d_M_build_98 : decode c_M_build 98 = .ok (.iload 5, 2) := by decide +kernel
theorem d_M_build_100 : decode c_M_build 100 = .ok (.iastore, 1) := by decide +kernel
theorem d_M_build_101 : decode c_M_build 101 = .ok (.aload_n 0, 1) := by decide +kernel
theorem d_M_build_102 : decode c_M_build 102 = .ok (.getfield 7, 3) := by decide +kernel
theorem d_M_build_105 : decode c_M_build 105 = .ok (.iload 6, 2) := by decide +kernel
theorem d_M_build_107 : decode c_M_build 107 = .ok (.iconst 1, 1) := by decide +kernel
theorem d_M_build_108 : decode c_M_build 108 = .ok (.iadd, 1) := by decide +kernel
theorem d_M_build_109 : decode c_M_build 109 = .ok (.aload_n 0, 1) := by decide +kernel
theorem d_M_build_110 : decode c_M_build 110 = .ok (.getfield 73, 3) := by decide +kernel
theorem d_M_build_113 : decode c_M_build 113 = .ok (.iastore, 1) := by decide +kernel
theorem d_M_build_114 : decode c_M_build 114 = .ok (.aload_n 0, 1) := by decide +kernel
theorem d_M_build_115 : decode c_M_build 115 = .ok (.getfield 7, 3) := by decide +kernel
theorem d_M_build_118 : decode c_M_build 118 = .ok (.iload 6, 2) := by decide +kernel
theorem d_M_build_120 : decode c_M_build 120 = .ok (.iconst 2, 1) := by decide +kernel
theorem d_M_build_121 : decode c_M_build 121 = .ok (.iadd, 1) := by decide +kernel
theorem d_M_build_122 : decode c_M_build 122 = .ok (.iload_n 1, 1) := by decide +kernel
theorem d_M_build_123 : decode c_M_build 123 = .ok (.iastore, 1) := by decide +kernel
theorem d_M_build_124 : decode c_M_build 124 = .ok (.aload_n 0, 1) := by decide +kernel
theorem d_M_build_125 : decode c_M_build 125 = .ok (.getfield 7, 3) := by decide +kernel
theorem d_M_build_128 : decode c_M_build 128 = .ok (.iload 6, 2) := by decide +kernel
theorem d_M_build_130 : decode c_M_build 130 = .ok (.iconst 3, 1) := by decide +kernel
theorem d_M_build_131 : decode c_M_build 131 = .ok (.iadd, 1) := by decide +kernel
theorem d_M_build_132 : decode c_M_build 132 = .ok (.iload_n 2, 1) := by decide +kernel
theorem d_M_build_133 : decode c_M_build 133 = .ok (.iastore, 1) := by decide +kernel
theorem d_M_build_134 : decode c_M_build 134 = .ok (.iload 6, 2) := by decide +kernel
theorem d_M_build_136 : decode c_M_build 136 = .ok (.iconst 4, 1) := by decide +kernel
theorem d_M_build_137 : decode c_M_build 137 = .ok (.iadd, 1) := by decide +kernel
theorem d_M_build_138 : decode c_M_build 138 = .ok (.istore 7, 2) := by decide +kernel
theorem d_M_build_140 : decode c_M_build 140 = .ok (.iload 7, 2) := by decide +kernel
theorem d_M_build_142 : decode c_M_build 142 = .ok (.aload_n 0, 1) := by decide +kernel
theorem d_M_build_143 : decode c_M_build 143 = .ok (.getfield 60, 3) := by decide +kernel
theorem d_M_build_146 : decode c_M_build 146 = .ok (.if_icmp .ge 17, 3) := by decide +kernel
theorem d_M_build_149 : decode c_M_build 149 = .ok (.aload_n 0, 1) := by decide +kernel
theorem d_M_build_150 : decode c_M_build 150 = .ok (.getfield 7, 3) := by decide +kernel
theorem d_M_build_153 : decode c_M_build 153 = .ok (.iload 7, 2) := by decide +kernel
theorem d_M_build_155 : decode c_M_build 155 = .ok (.iconst 0, 1) := by decide +kernel
theorem d_M_build_156 : decode c_M_build 156 = .ok (.iastore, 1) := by decide +kernel
theorem d_M_build_157 : decode c_M_build 157 = .ok (.iinc 7 1, 3) := by decide +kernel
theorem d_M_build_160 : decode c_M_build 160 = .ok (.goto (-20), 3) := by decide +kernel
theorem d_M_build_163 : decode c_M_build 163 = .ok (.iload 5, 2) := by decide +kernel
theorem d_M_build_165 : decode c_M_build 165 = .ok (.invokestatic 76, 3) := by decide +kernel
theorem d_M_build_168 : decode c_M_build 168 = .ok (.ireturn, 1) := by decide +kernel
theorem d_M_buildLike_0 : decode c_M_buildLike 0 = .ok (.aload_n 0, 1) := by decide +kernel
theorem d_M_buildLike_1 : decode c_M_buildLike 1 = .ok (.getfield 7, 3) := by decide +kernel
theorem d_M_buildLike_4 : decode c_M_buildLike 4 = .ok (.aload_n 0, 1) := by decide +kernel
theorem d_M_buildLike_5 : decode c_M_buildLike 5 = .ok (.iload_n 1, 1) := by decide +kernel
theorem d_M_buildLike_6 : decode c_M_buildLike 6 = .ok (.invokevirtual 46, 3) := by decide +kernel
theorem d_M_buildLike_9 : decode c_M_buildLike 9 = .ok (.iconst 3, 1) := by decide +kernel
theorem d_M_buildLike_10 : decode c_M_buildLike 10 = .ok (.iadd, 1) := by decide +kernel
theorem d_M_buildLike_11 : decode c_M_buildLike 11 = .ok (.iaload, 1) := by decide +kernel
theorem d_M_buildLike_12 : decode c_M_buildLike 12 = .ok (.istore_n 3, 1) := by decide +kernel
theorem d_M_buildLike_13 : decode c_M_buildLike 13 = .ok (.aload_n 0, 1) := by decide +kernel
theorem d_M_buildLike_14 : decode c_M_buildLike 14 = .ok (.aload_n 0, 1) := by decide +kernel
theorem d_M_buildLike_15 : decode c_M_buildLike 15 = .ok (.iload_n 1, 1) := by decide +kernel
theorem d_M_buildLike_16 : decode c_M_buildLike 16 = .ok (.invokevirtual 79, 3) := by decide +kernel
theorem d_M_buildLike_19 : decode c_M_buildLike 19 = .ok (.iload_n 3, 1) := by decide +kernel
theorem d_M_buildLike_20 : decode c_M_buildLike 20 = .ok (.aload_n 2, 1) := by decide +kernel
theorem d_M_buildLike_21 : decode c_M_buildLike 21 = .ok (.invokevirtual 82, 3) := by decide +kernel
theorem d_M_buildLike_24 : decode c_M_buildLike 24 = .ok (.istore 4, 2) := by decide +kernel
theorem d_M_buildLike_26 : decode c_M_buildLike 26 = .ok (.iload 4, 2) := by decide +kernel
theorem d_M_buildLike_28 : decode c_M_buildLike 28 = .ok (.ifCond .eq 33, 3) := by decide +kernel
theorem d_M_buildLike_31 : decode c_M_buildLike 31 = .ok (.aload_n 0, 1) := by decide +kernel
theorem d_M_buildLike_32 : decode c_M_buildLike 32 = .ok (.getfield 7, 3) := by decide +kernel
theorem d_M_buildLike_35 : decode c_M_buildLike 35 = .ok (.aload_n 0, 1) := by decide +kernel
theorem d_M_buildLike_36 : decode c_M_buildLike 36 = .ok (.iload_n 1, 1) := by decide +kernel
theorem d_M_buildLike_37 : decode c_M_buildLike 37 = .ok (.invokevirtual 46, 3) := by decide +kernel
theorem d_M_buildLike_40 : decode c_M_buildLike 40 = .ok (.iconst 4, 1) := by decide +kernel
theorem d_M_buildLike_41 : decode c_M_buildLike 41 = .ok (.iadd, 1) := by decide +kernel
theorem d_M_buildLike_42 : decode c_M_buildLike 42 = .ok (.aload_n 0, 1) := by decide +kernel
theorem d_M_buildLike_43 : decode c_M_buildLike 43 = .ok (.getfield 7, 3) := by decide +kernel
theorem d_M_buildLike_46 : decode c_M_buildLike 46 = .ok (.aload_n 0, 1) := by decide +kernel
theorem d_M_buildLike_47 : decode c_M_buildLike 47 = .ok (.iload 4, 2) := by decide +kernel
theorem d_M_buildLike_49 : decode c_M_buildLike 49 = .ok (.invokevirtual 46, 3) := by decide +kernel
theorem d_M_buildLike_52 : decode c_M_buildLike 52 = .ok (.iconst 4, 1) := by decide +kernel
theorem d_M_buildLike_53 : decode c_M_buildLike 53 = .ok (.iadd, 1) := by decide +kernel
theorem d_M_buildLike_54 : decode c_M_buildLike 54 = .ok (.iload_n 3, 1) := by decide +kernel
theorem d_M_buildLike_55 : decode c_M_buildLike 55 = .ok (.invokestatic 63, 3) := by decide +kernel
theorem d_M_buildLike_58 : decode c_M_buildLike 58 = .ok (.invokestatic 86, 3) := by decide +kernel
theorem d_M_buildLike_61 : decode c_M_buildLike 61 = .ok (.iload 4, 2) := by decide +kernel
theorem d_M_buildLike_63 : decode c_M_buildLike 63 = .ok (.ireturn, 1) := by decide +kernel
theorem d_M_fits_0 : decode c_M_fits 0 = .ok (.aload_n 0, 1) := by decide +kernel
theorem d_M_fits_1 : decode c_M_fits 1 = .ok (.getfield 25, 3) := by decide +kernel
theorem d_M_fits_4 : decode c_M_fits 4 = .ok (.ifCond .le 15, 3) := by decide +kernel
theorem d_M_fits_7 : decode c_M_fits 7 = .ok (.iload_n 1, 1) := by decide +kernel
theorem d_M_fits_8 : decode c_M_fits 8 = .ok (.aload_n 0, 1) := by decide +kernel
theorem d_M_fits_9 : decode c_M_fits 9 = .ok (.invokevirtual 92, 3) := by decide +kernel
theorem d_M_fits_12 : decode c_M_fits 12 = .ok (.if_icmp .gt 7, 3) := by decide +kernel
theorem d_M_fits_15 : decode c_M_fits 15 = .ok (.iconst 1, 1) := by decide +kernel
theorem d_M_fits_16 : decode c_M_fits 16 = .ok (.goto 4, 3) := by decide +kernel
theorem d_M_fits_19 : decode c_M_fits 19 = .ok (.iconst 0, 1) := by decide +kernel
theorem d_M_fits_20 : decode c_M_fits 20 = .ok (.ireturn, 1) := by decide +kernel
theorem d_M_swap_0 : decode c_M_swap 0 = .ok (.aload_n 0, 1) := by decide +kernel
theorem d_M_swap_1 : decode c_M_swap 1 = .ok (.iload_n 1, 1) := by decide +kernel
theorem d_M_swap_2 : decode c_M_swap 2 = .ok (.invokevirtual 46, 3) := by decide +kernel
theorem d_M_swap_5 : decode c_M_swap 5 = .ok (.istore_n 3, 1) := by decide +kernel
theorem d_M_swap_6 : decode c_M_swap 6 = .ok (.aload_n 0, 1) := by decide +kernel
theorem d_M_swap_7 : decode c_M_swap 7 = .ok (.iload_n 2, 1) := by decide +kernel
theorem d_M_swap_8 : decode c_M_swap 8 = .ok (.invokevirtual 46, 3) := by decide +kernel
theorem d_M_swap_11 : decode c_M_swap 11 = .ok (.istore 4, 2) := by decide +kernel
theorem d_M_swap_13 : decode c_M_swap 13 = .ok (.aload_n 0, 1) := by decide +kernel
theorem d_M_swap_14 : decode c_M_swap 14 = .ok (.iload_n 1, 1) := by decide +kernel
theorem d_M_swap_15 : decode c_M_swap 15 = .ok (.invokestatic 37, 3) := by decide +kernel
theorem d_M_swap_18 : decode c_M_swap 18 = .ok (.iload 4, 2) := by decide +kernel
theorem d_M_swap_20 : decode c_M_swap 20 = .ok (.invokevirtual 96, 3) := by decide +kernel
theorem d_M_swap_23 : decode c_M_swap 23 = .ok (.aload_n 0, 1) := by decide +kernel
theorem d_M_swap_24 : decode c_M_swap 24 = .ok (.iload_n 2, 1) := by decide +kernel
theorem d_M_swap_25 : decode c_M_swap 25 = .ok (.invokestatic 37, 3) := by decide +kernel
theorem d_M_swap_28 : decode c_M_swap 28 = .ok (.iload_n 3, 1) := by decide +kernel
theorem d_M_swap_29 : decode c_M_swap 29 = .ok (.invokevirtual 96, 3) := by decide +kernel
theorem d_M_swap_32 : decode c_M_swap 32 = .ok (.return_, 1) := by decide +kernel
theorem d_M_seat_0 : decode c_M_seat 0 = .ok (.aload_n 0, 1) := by decide +kernel
theorem d_M_seat_1 : decode c_M_seat 1 = .ok (.getfield 13, 3) := by decide +kernel
theorem d_M_seat_4 : decode c_M_seat 4 = .ok (.iload_n 1, 1) := by decide +kernel
theorem d_M_seat_5 : decode c_M_seat 5 = .ok (.iload_n 2, 1) := by decide +kernel
theorem d_M_seat_6 : decode c_M_seat 6 = .ok (.iastore, 1) := by decide +kernel
theorem d_M_seat_7 : decode c_M_seat 7 = .ok (.aload_n 0, 1) := by decide +kernel
theorem d_M_seat_8 : decode c_M_seat 8 = .ok (.getfield 7, 3) := by decide +kernel
theorem d_M_seat_11 : decode c_M_seat 11 = .ok (.iload_n 2, 1) := by decide +kernel
theorem d_M_seat_12 : decode c_M_seat 12 = .ok (.iconst 0, 1) := by decide +kernel
theorem d_M_seat_13 : decode c_M_seat 13 = .ok (.iadd, 1) := by decide +kernel
theorem d_M_seat_14 : decode c_M_seat 14 = .ok (.iload_n 1, 1) := by decide +kernel
theorem d_M_seat_15 : decode c_M_seat 15 = .ok (.iastore, 1) := by decide +kernel
theorem d_M_seat_16 : decode c_M_seat 16 = .ok (.return_, 1) := by decide +kernel
theorem d_M_settle_0 : decode c_M_settle 0 = .ok (.aload_n 0, 1) := by decide +kernel
theorem d_M_settle_1 : decode c_M_settle 1 = .ok (.getfield 29, 3) := by decide +kernel
theorem d_M_settle_4 : decode c_M_settle 4 = .ok (.ifCond .eq 4, 3) := by decide +kernel
theorem d_M_settle_7 : decode c_M_settle 7 = .ok (.return_, 1) := by decide +kernel
theorem d_M_settle_8 : decode c_M_settle 8 = .ok (.aload_n 0, 1) := by decide +kernel
theorem d_M_settle_9 : decode c_M_settle 9 = .ok (.invokevirtual 99, 3) := by decide +kernel
theorem d_M_settle_12 : decode c_M_settle 12 = .ok (.aload_n 1, 1) := by decide +kernel
theorem d_M_settle_13 : decode c_M_settle 13 = .ok (.astore_n 2, 1) := by decide +kernel
theorem d_M_settle_14 : decode c_M_settle 14 = .ok (.aload_n 2, 1) := by decide +kernel
theorem d_M_settle_15 : decode c_M_settle 15 = .ok (.arraylength, 1) := by decide +kernel
theorem d_M_settle_16 : decode c_M_settle 16 = .ok (.istore_n 3, 1) := by decide +kernel
theorem d_M_settle_17 : decode c_M_settle 17 = .ok (.iconst 0, 1) := by decide +kernel
theorem d_M_settle_18 : decode c_M_settle 18 = .ok (.istore 4, 2) := by decide +kernel
theorem d_M_settle_20 : decode c_M_settle 20 = .ok (.iload 4, 2) := by decide +kernel
theorem d_M_settle_22 : decode c_M_settle 22 = .ok (.iload_n 3, 1) := by decide +kernel
theorem d_M_settle_23 : decode c_M_settle 23 = .ok (.if_icmp .ge 21, 3) := by decide +kernel
theorem d_M_settle_26 : decode c_M_settle 26 = .ok (.aload_n 2, 1) := by decide +kernel
theorem d_M_settle_27 : decode c_M_settle 27 = .ok (.iload 4, 2) := by decide +kernel
theorem d_M_settle_29 : decode c_M_settle 29 = .ok (.iaload, 1) := by decide +kernel
theorem d_M_settle_30 : decode c_M_settle 30 = .ok (.istore 5, 2) := by decide +kernel
theorem d_M_settle_32 : decode c_M_settle 32 = .ok (.aload_n 0, 1) := by decide +kernel
theorem d_M_settle_33 : decode c_M_settle 33 = .ok (.iload 5, 2) := by decide +kernel
theorem d_M_settle_35 : decode c_M_settle 35 = .ok (.invokevirtual 102, 3) := by decide +kernel
theorem d_M_settle_38 : decode c_M_settle 38 = .ok (.iinc 4 1, 3) := by decide +kernel
theorem d_M_settle_41 : decode c_M_settle 41 = .ok (.goto (-21), 3) := by decide +kernel
theorem d_M_settle_44 : decode c_M_settle 44 = .ok (.aload_n 0, 1) := by decide +kernel
theorem d_M_settle_45 : decode c_M_settle 45 = .ok (.invokevirtual 105, 3) := by decide +kernel
theorem d_M_settle_48 : decode c_M_settle 48 = .ok (.aload_n 0, 1) := by decide +kernel
theorem d_M_settle_49 : decode c_M_settle 49 = .ok (.invokevirtual 108, 3) := by decide +kernel
theorem d_M_settle_52 : decode c_M_settle 52 = .ok (.aload_n 0, 1) := by decide +kernel
theorem d_M_settle_53 : decode c_M_settle 53 = .ok (.iconst 1, 1) := by decide +kernel
theorem d_M_settle_54 : decode c_M_settle 54 = .ok (.putfield 29, 3) := by decide +kernel
theorem d_M_settle_57 : decode c_M_settle 57 = .ok (.return_, 1) := by decide +kernel
theorem d_M_leadsTo_0 : decode c_M_leadsTo 0 = .ok (.aload_n 0, 1) := by decide +kernel
theorem d_M_leadsTo_1 : decode c_M_leadsTo 1 = .ok (.invokevirtual 99, 3) := by decide +kernel
theorem d_M_leadsTo_4 : decode c_M_leadsTo 4 = .ok (.aload_n 0, 1) := by decide +kernel
theorem d_M_leadsTo_5 : decode c_M_leadsTo 5 = .ok (.iload_n 1, 1) := by decide +kernel
theorem d_M_leadsTo_6 : decode c_M_leadsTo 6 = .ok (.invokevirtual 102, 3) := by decide +kernel
theorem d_M_leadsTo_9 : decode c_M_leadsTo 9 = .ok (.aload_n 0, 1) := by decide +kernel
theorem d_M_leadsTo_10 : decode c_M_leadsTo 10 = .ok (.invokevirtual 105, 3) := by decide +kernel
theorem d_M_leadsTo_13 : decode c_M_leadsTo 13 = .ok (.aload_n 0, 1) := by decide +kernel
theorem d_M_leadsTo_14 : decode c_M_leadsTo 14 = .ok (.iload_n 2, 1) := by decide +kernel
theorem d_M_leadsTo_15 : decode c_M_leadsTo 15 = .ok (.invokestatic 37, 3) := by decide +kernel
theorem d_M_leadsTo_18 : decode c_M_leadsTo 18 = .ok (.invokevirtual 111, 3) := by decide +kernel
theorem d_M_leadsTo_21 : decode c_M_leadsTo 21 = .ok (.ireturn, 1) := by decide +kernel
theorem d_M_startRound_0 : decode c_M_startRound 0 = .ok (.aload_n 0, 1) := by decide +kernel
theorem d_M_startRound_1 : decode c_M_startRound 1 = .ok (.dup, 1) := by decide +kernel
theorem d_M_startRound_2 : decode c_M_startRound 2 = .ok (.getfield 114, 3) := by decide +kernel
theorem d_M_startRound_5 : decode c_M_startRound 5 = .ok (.iconst 1, 1) := by decide +kernel
theorem d_M_startRound_6 : decode c_M_startRound 6 = .ok (.iadd, 1) := by decide +kernel
theorem d_M_startRound_7 : decode c_M_startRound 7 = .ok (.putfield 114, 3) := by decide +kernel
theorem d_M_startRound_10 : decode c_M_startRound 10 = .ok (.aload_n 0, 1) := by decide +kernel
theorem d_M_startRound_11 : decode c_M_startRound 11 = .ok (.iconst 0, 1) := by decide +kernel
theorem d_M_startRound_12 : decode c_M_startRound 12 = .ok (.putfield 117, 3) := by decide +kernel
theorem d_M_startRound_15 : decode c_M_startRound 15 = .ok (.return_, 1) := by decide +kernel
theorem d_M_isReached_0 : decode c_M_isReached 0 = .ok (.aload_n 0, 1) := by decide +kernel
theorem d_M_isReached_1 : decode c_M_isReached 1 = .ok (.getfield 22, 3) := by decide +kernel
theorem d_M_isReached_4 : decode c_M_isReached 4 = .ok (.iload_n 1, 1) := by decide +kernel
theorem d_M_isReached_5 : decode c_M_isReached 5 = .ok (.iaload, 1) := by decide +kernel
theorem d_M_isReached_6 : decode c_M_isReached 6 = .ok (.aload_n 0, 1) := by decide +kernel
theorem d_M_isReached_7 : decode c_M_isReached 7 = .ok (.getfield 114, 3) := by decide +kernel
theorem d_M_isReached_10 : decode c_M_isReached 10 = .ok (.if_icmp .ne 7, 3) := by decide +kernel
theorem d_M_isReached_13 : decode c_M_isReached 13 = .ok (.iconst 1, 1) := by decide +kernel
theorem d_M_isReached_14 : decode c_M_isReached 14 = .ok (.goto 4, 3) := by decide +kernel
theorem d_M_isReached_17 : decode c_M_isReached 17 = .ok (.iconst 0, 1) := by decide +kernel
theorem d_M_isReached_18 : decode c_M_isReached 18 = .ok (.ireturn, 1) := by decide +kernel
theorem d_M_reach_0 : decode c_M_reach 0 = .ok (.iload_n 1, 1) := by decide +kernel
theorem d_M_reach_1 : decode c_M_reach 1 = .ok (.invokestatic 43, 3) := by decide +kernel
theorem d_M_reach_4 : decode c_M_reach 4 = .ok (.ifCond .ne 4, 3) := by decide +kernel
theorem d_M_reach_7 : decode c_M_reach 7 = .ok (.return_, 1) := by decide +kernel
theorem d_M_reach_8 : decode c_M_reach 8 = .ok (.iload_n 1, 1) := by decide +kernel
theorem d_M_reach_9 : decode c_M_reach 9 = .ok (.invokestatic 37, 3) := by decide +kernel
theorem d_M_reach_12 : decode c_M_reach 12 = .ok (.istore_n 2, 1) := by decide +kernel
theorem d_M_reach_13 : decode c_M_reach 13 = .ok (.aload_n 0, 1) := by decide +kernel
theorem d_M_reach_14 : decode c_M_reach 14 = .ok (.iload_n 2, 1) := by decide +kernel
theorem d_M_reach_15 : decode c_M_reach 15 = .ok (.invokevirtual 111, 3) := by decide +kernel
theorem d_M_reach_18 : decode c_M_reach 18 = .ok (.ifCond .ne 33, 3) := by decide +kernel
theorem d_M_reach_21 : decode c_M_reach 21 = .ok (.aload_n 0, 1) := by decide +kernel
theorem d_M_reach_22 : decode c_M_reach 22 = .ok (.getfield 22, 3) := by decide +kernel
theorem d_M_reach_25 : decode c_M_reach 25 = .ok (.iload_n 2, 1) := by decide +kernel
theorem d_M_reach_26 : decode c_M_reach 26 = .ok (.aload_n 0, 1) := by decide +kernel
theorem d_M_reach_27 : decode c_M_reach 27 = .ok (.getfield 114, 3) := by decide +kernel
theorem d_M_reach_30 : decode c_M_reach 30 = .ok (.iastore, 1) := by decide +kernel
theorem d_M_reach_31 : decode c_M_reach 31 = .ok (.aload_n 0, 1) := by decide +kernel
theorem d_M_reach_32 : decode c_M_reach 32 = .ok (.getfield 19, 3) := by decide +kernel
theorem d_M_reach_35 : decode c_M_reach 35 = .ok (.aload_n 0, 1) := by decide +kernel
theorem d_M_reach_36 : decode c_M_reach 36 = .ok (.getfield 117, 3) := by decide +kernel
theorem d_M_reach_39 : decode c_M_reach 39 = .ok (.iload_n 2, 1) := by decide +kernel
theorem d_M_reach_40 : decode c_M_reach 40 = .ok (.iastore, 1) := by decide +kernel
theorem d_M_reach_41 : decode c_M_reach 41 = .ok (.aload_n 0, 1) := by decide +kernel
theorem d_M_reach_42 : decode c_M_reach 42 = .ok (.dup, 1) := by decide +kernel
theorem d_M_reach_43 : decode c_M_reach 43 = .ok (.getfield 117, 3) := by decide +kernel
theorem d_M_reach_46 : decode c_M_reach 46 = .ok (.iconst 1, 1) := by decide +kernel
theorem d_M_reach_47 : decode c_M_reach 47 = .ok (.iadd, 1) := by decide +kernel
theorem d_M_reach_48 : decode c_M_reach 48 = .ok (.putfield 117, 3) := by decide +kernel
theorem d_M_reach_51 : decode c_M_reach 51 = .ok (.return_, 1) := by decide +kernel
theorem d_M_spread_0 : decode c_M_spread 0 = .ok (.iconst 0, 1) := by decide +kernel
theorem d_M_spread_1 : decode c_M_spread 1 = .ok (.istore_n 1, 1) := by decide +kernel
theorem d_M_spread_2 : decode c_M_spread 2 = .ok (.iload_n 1, 1) := by decide +kernel
theorem d_M_spread_3 : decode c_M_spread 3 = .ok (.aload_n 0, 1) := by decide +kernel
theorem d_M_spread_4 : decode c_M_spread 4 = .ok (.getfield 19, 3) := by decide +kernel
theorem d_M_spread_7 : decode c_M_spread 7 = .ok (.arraylength, 1) := by decide +kernel
theorem d_M_spread_8 : decode c_M_spread 8 = .ok (.if_icmp .ge 75, 3) := by decide +kernel
theorem d_M_spread_11 : decode c_M_spread 11 = .ok (.iload_n 1, 1) := by decide +kernel
theorem d_M_spread_12 : decode c_M_spread 12 = .ok (.aload_n 0, 1) := by decide +kernel
theorem d_M_spread_13 : decode c_M_spread 13 = .ok (.getfield 117, 3) := by decide +kernel
theorem d_M_spread_16 : decode c_M_spread 16 = .ok (.if_icmp .ge 67, 3) := by decide +kernel
theorem d_M_spread_19 : decode c_M_spread 19 = .ok (.aload_n 0, 1) := by decide +kernel
theorem d_M_spread_20 : decode c_M_spread 20 = .ok (.getfield 13, 3) := by decide +kernel
theorem d_M_spread_23 : decode c_M_spread 23 = .ok (.aload_n 0, 1) := by decide +kernel
theorem d_M_spread_24 : decode c_M_spread 24 = .ok (.getfield 19, 3) := by decide +kernel
theorem d_M_spread_27 : decode c_M_spread 27 = .ok (.iload_n 1, 1) := by decide +kernel
theorem d_M_spread_28 : decode c_M_spread 28 = .ok (.iaload, 1) := by decide +kernel
theorem d_M_spread_29 : decode c_M_spread 29 = .ok (.iaload, 1) := by decide +kernel
theorem d_M_spread_30 : decode c_M_spread 30 = .ok (.istore_n 2, 1) := by decide +kernel
theorem d_M_spread_31 : decode c_M_spread 31 = .ok (.aload_n 0, 1) := by decide +kernel
theorem d_M_spread_32 : decode c_M_spread 32 = .ok (.aload_n 0, 1) := by decide +kernel
theorem d_M_spread_33 : decode c_M_spread 33 = .ok (.getfield 7, 3) := by decide +kernel
theorem d_M_spread_36 : decode c_M_spread 36 = .ok (.iload_n 2, 1) := by decide +kernel
theorem d_M_spread_37 : decode c_M_spread 37 = .ok (.iconst 2, 1) := by decide +kernel
theorem d_M_spread_38 : decode c_M_spread 38 = .ok (.iadd, 1) := by decide +kernel
theorem d_M_spread_39 : decode c_M_spread 39 = .ok (.iaload, 1) := by decide +kernel
theorem d_M_spread_40 : decode c_M_spread 40 = .ok (.invokevirtual 102, 3) := by decide +kernel
theorem d_M_spread_43 : decode c_M_spread 43 = .ok (.aload_n 0, 1) := by decide +kernel
theorem d_M_spread_44 : decode c_M_spread 44 = .ok (.iload_n 2, 1) := by decide +kernel
theorem d_M_spread_45 : decode c_M_spread 45 = .ok (.invokevirtual 120, 3) := by decide +kernel
theorem d_M_spread_48 : decode c_M_spread 48 = .ok (.istore_n 3, 1) := by decide +kernel
theorem d_M_spread_49 : decode c_M_spread 49 = .ok (.iload_n 2, 1) := by decide +kernel
theorem d_M_spread_50 : decode c_M_spread 50 = .ok (.iconst 4, 1) := by decide +kernel
theorem d_M_spread_51 : decode c_M_spread 51 = .ok (.iadd, 1) := by decide +kernel
theorem d_M_spread_52 : decode c_M_spread 52 = .ok (.istore 4, 2) := by decide +kernel
theorem d_M_spread_54 : decode c_M_spread 54 = .ok (.iload 4, 2) := by decide +kernel
theorem d_M_spread_56 : decode c_M_spread 56 = .ok (.iload_n 3, 1) := by decide +kernel
theorem d_M_spread_57 : decode c_M_spread 57 = .ok (.if_icmp .ge 20, 3) := by decide +kernel
theorem d_M_spread_60 : decode c_M_spread 60 = .ok (.aload_n 0, 1) := by decide +kernel
theorem d_M_spread_61 : decode c_M_spread 61 = .ok (.aload_n 0, 1) := by decide +kernel
theorem d_M_spread_62 : decode c_M_spread 62 = .ok (.getfield 7, 3) := by decide +kernel
theorem d_M_spread_65 : decode c_M_spread 65 = .ok (.iload 4, 2) := by decide +kernel
theorem d_M_spread_67 : decode c_M_spread 67 = .ok (.iaload, 1) := by decide +kernel
theorem d_M_spread_68 : decode c_M_spread 68 = .ok (.invokevirtual 102, 3) := by decide +kernel
theorem d_M_spread_71 : decode c_M_spread 71 = .ok (.iinc 4 1, 3) := by decide +kernel
theorem d_M_spread_74 : decode c_M_spread 74 = .ok (.goto (-20), 3) := by decide +kernel
theorem d_M_spread_77 : decode c_M_spread 77 = .ok (.iinc 1 1, 3) := by decide +kernel
theorem d_M_spread_80 : decode c_M_spread 80 = .ok (.goto (-78), 3) := by decide +kernel
theorem d_M_spread_83 : decode c_M_spread 83 = .ok (.return_, 1) := by decide +kernel
theorem d_M_endOfSlots_0 : decode c_M_endOfSlots 0 = .ok (.aload_n 0, 1) := by decide +kernel
theorem d_M_endOfSlots_1 : decode c_M_endOfSlots 1 = .ok (.getfield 7, 3) := by decide +kernel
theorem d_M_endOfSlots_4 : decode c_M_endOfSlots 4 = .ok (.iload_n 1, 1) := by decide +kernel
theorem d_M_endOfSlots_5 : decode c_M_endOfSlots 5 = .ok (.iconst 3, 1) := by decide +kernel
theorem d_M_endOfSlots_6 : decode c_M_endOfSlots 6 = .ok (.iadd, 1) := by decide +kernel
theorem d_M_endOfSlots_7 : decode c_M_endOfSlots 7 = .ok (.iaload, 1) := by decide +kernel
theorem d_M_endOfSlots_8 : decode c_M_endOfSlots 8 = .ok (.istore_n 2, 1) := by decide +kernel
theorem d_M_endOfSlots_9 : decode c_M_endOfSlots 9 = .ok (.iload_n 1, 1) := by decide +kernel
theorem d_M_endOfSlots_10 : decode c_M_endOfSlots 10 = .ok (.iconst 4, 1) := by decide +kernel
theorem d_M_endOfSlots_11 : decode c_M_endOfSlots 11 = .ok (.iadd, 1) := by decide +kernel
theorem d_M_endOfSlots_12 : decode c_M_endOfSlots 12 = .ok (.iload_n 2, 1) := by decide +kernel
theorem d_M_endOfSlots_13 : decode c_M_endOfSlots 13 = .ok (.invokestatic 33, 3) := by decide +kernel
theorem d_M_endOfSlots_16 : decode c_M_endOfSlots 16 = .ok (.ifCond .eq 7, 3) := by decide +kernel
theorem d_M_endOfSlots_19 : decode c_M_endOfSlots 19 = .ok (.iconst 0, 1) := by decide +kernel
theorem d_M_endOfSlots_20 : decode c_M_endOfSlots 20 = .ok (.goto 7, 3) := by decide +kernel
theorem d_M_endOfSlots_23 : decode c_M_endOfSlots 23 = .ok (.iload_n 2, 1) := by decide +kernel
theorem d_M_endOfSlots_24 : decode c_M_endOfSlots 24 = .ok (.invokestatic 63, 3) := by decide +kernel
theorem d_M_endOfSlots_27 : decode c_M_endOfSlots 27 = .ok (.iadd, 1) := by decide +kernel
theorem d_M_endOfSlots_28 : decode c_M_endOfSlots 28 = .ok (.ireturn, 1) := by decide +kernel
theorem d_M_bodyWordsAt_0 : decode c_M_bodyWordsAt 0 = .ok (.aload_n 0, 1) := by decide +kernel
theorem d_M_bodyWordsAt_1 : decode c_M_bodyWordsAt 1 = .ok (.getfield 7, 3) := by decide +kernel
theorem d_M_bodyWordsAt_4 : decode c_M_bodyWordsAt 4 = .ok (.iload_n 1, 1) := by decide +kernel
theorem d_M_bodyWordsAt_5 : decode c_M_bodyWordsAt 5 = .ok (.iconst 3, 1) := by decide +kernel
theorem d_M_bodyWordsAt_6 : decode c_M_bodyWordsAt 6 = .ok (.iadd, 1) := by decide +kernel
theorem d_M_bodyWordsAt_7 : decode c_M_bodyWordsAt 7 = .ok (.iaload, 1) := by decide +kernel
theorem d_M_bodyWordsAt_8 : decode c_M_bodyWordsAt 8 = .ok (.invokestatic 63, 3) := by decide +kernel
theorem d_M_bodyWordsAt_11 : decode c_M_bodyWordsAt 11 = .ok (.ireturn, 1) := by decide +kernel
theorem d_M_slide_0 : decode c_M_slide 0 = .ok (.aload_n 0, 1) := by decide +kernel
theorem d_M_slide_1 : decode c_M_slide 1 = .ok (.getfield 60, 3) := by decide +kernel
theorem d_M_slide_4 : decode c_M_slide 4 = .ok (.istore_n 1, 1) := by decide +kernel
theorem d_M_slide_5 : decode c_M_slide 5 = .ok (.aload_n 0, 1) := by decide +kernel
theorem d_M_slide_6 : decode c_M_slide 6 = .ok (.iconst 0, 1) := by decide +kernel
theorem d_M_slide_7 : decode c_M_slide 7 = .ok (.putfield 60, 3) := by decide +kernel
theorem d_M_slide_10 : decode c_M_slide 10 = .ok (.iconst 0, 1) := by decide +kernel
theorem d_M_slide_11 : decode c_M_slide 11 = .ok (.istore_n 3, 1) := by decide +kernel
theorem d_M_slide_12 : decode c_M_slide 12 = .ok (.iload_n 3, 1) := by decide +kernel
theorem d_M_slide_13 : decode c_M_slide 13 = .ok (.iload_n 1, 1) := by decide +kernel
theorem d_M_slide_14 : decode c_M_slide 14 = .ok (.if_icmp .ge 103, 3) := by decide +kernel
theorem d_M_slide_17 : decode c_M_slide 17 = .ok (.aload_n 0, 1) := by decide +kernel
theorem d_M_slide_18 : decode c_M_slide 18 = .ok (.iload_n 3, 1) := by decide +kernel
theorem d_M_slide_19 : decode c_M_slide 19 = .ok (.invokevirtual 123, 3) := by decide +kernel
theorem d_M_slide_22 : decode c_M_slide 22 = .ok (.istore_n 2, 1) := by decide +kernel
theorem d_M_slide_23 : decode c_M_slide 23 = .ok (.aload_n 0, 1) := by decide +kernel
theorem d_M_slide_24 : decode c_M_slide 24 = .ok (.getfield 7, 3) := by decide +kernel
theorem d_M_slide_27 : decode c_M_slide 27 = .ok (.iload_n 3, 1) := by decide +kernel
theorem d_M_slide_28 : decode c_M_slide 28 = .ok (.iconst 0, 1) := by decide +kernel
theorem d_M_slide_29 : decode c_M_slide 29 = .ok (.iadd, 1) := by decide +kernel
theorem d_M_slide_30 : decode c_M_slide 30 = .ok (.iaload, 1) := by decide +kernel
theorem d_M_slide_31 : decode c_M_slide 31 = .ok (.istore 4, 2) := by decide +kernel
theorem d_M_slide_33 : decode c_M_slide 33 = .ok (.aload_n 0, 1) := by decide +kernel
theorem d_M_slide_34 : decode c_M_slide 34 = .ok (.iload 4, 2) := by decide +kernel
theorem d_M_slide_36 : decode c_M_slide 36 = .ok (.invokevirtual 111, 3) := by decide +kernel
theorem d_M_slide_39 : decode c_M_slide 39 = .ok (.ifCond .eq 48, 3) := by decide +kernel
theorem d_M_slide_42 : decode c_M_slide 42 = .ok (.aload_n 0, 1) := by decide +kernel
theorem d_M_slide_43 : decode c_M_slide 43 = .ok (.getfield 7, 3) := by decide +kernel
theorem d_M_slide_46 : decode c_M_slide 46 = .ok (.iload_n 3, 1) := by decide +kernel
theorem d_M_slide_47 : decode c_M_slide 47 = .ok (.aload_n 0, 1) := by decide +kernel
theorem d_M_slide_48 : decode c_M_slide 48 = .ok (.getfield 7, 3) := by decide +kernel
theorem d_M_slide_51 : decode c_M_slide 51 = .ok (.aload_n 0, 1) := by decide +kernel
theorem d_M_slide_52 : decode c_M_slide 52 = .ok (.getfield 60, 3) := by decide +kernel
theorem d_M_slide_55 : decode c_M_slide 55 = .ok (.iconst 4, 1) := by decide +kernel
theorem d_M_slide_56 : decode c_M_slide 56 = .ok (.iload_n 2, 1) := by decide +kernel
theorem d_M_slide_57 : decode c_M_slide 57 = .ok (.iadd, 1) := by decide +kernel
theorem d_M_slide_58 : decode c_M_slide 58 = .ok (.invokestatic 86, 3) := by decide +kernel
theorem d_M_slide_61 : decode c_M_slide 61 = .ok (.aload_n 0, 1) := by decide +kernel
theorem d_M_slide_62 : decode c_M_slide 62 = .ok (.getfield 13, 3) := by decide +kernel
theorem d_M_slide_65 : decode c_M_slide 65 = .ok (.iload 4, 2) := by decide +kernel
theorem d_M_slide_67 : decode c_M_slide 67 = .ok (.aload_n 0, 1) := by decide +kernel
theorem d_M_slide_68 : decode c_M_slide 68 = .ok (.getfield 60, 3) := by decide +kernel
theorem d_M_slide_71 : decode c_M_slide 71 = .ok (.iastore, 1) := by decide +kernel
theorem d_M_slide_72 : decode c_M_slide 72 = .ok (.aload_n 0, 1) := by decide +kernel
theorem d_M_slide_73 : decode c_M_slide 73 = .ok (.dup, 1) := by decide +kernel
theorem d_M_slide_74 : decode c_M_slide 74 = .ok (.getfield 60, 3) := by decide +kernel
theorem d_M_slide_77 : decode c_M_slide 77 = .ok (.iconst 4, 1) := by decide +kernel
theorem d_M_slide_78 : decode c_M_slide 78 = .ok (.iload_n 2, 1) := by decide +kernel
theorem d_M_slide_79 : decode c_M_slide 79 = .ok (.iadd, 1) := by decide +kernel
theorem d_M_slide_80 : decode c_M_slide 80 = .ok (.iadd, 1) := by decide +kernel
theorem d_M_slide_81 : decode c_M_slide 81 = .ok (.putfield 60, 3) := by decide +kernel
theorem d_M_slide_84 : decode c_M_slide 84 = .ok (.goto 24, 3) := by decide +kernel
theorem d_M_slide_87 : decode c_M_slide 87 = .ok (.aload_n 0, 1) := by decide +kernel
theorem d_M_slide_88 : decode c_M_slide 88 = .ok (.getfield 16, 3) := by decide +kernel
theorem d_M_slide_91 : decode c_M_slide 91 = .ok (.aload_n 0, 1) := by decide +kernel
theorem d_M_slide_92 : decode c_M_slide 92 = .ok (.getfield 25, 3) := by decide +kernel
theorem d_M_slide_95 : decode c_M_slide 95 = .ok (.iload 4, 2) := by decide +kernel
theorem d_M_slide_97 : decode c_M_slide 97 = .ok (.iastore, 1) := by decide +kernel
theorem d_M_slide_98 : decode c_M_slide 98 = .ok (.aload_n 0, 1) := by decide +kernel
theorem d_M_slide_99 : decode c_M_slide 99 = .ok (.dup, 1) := by decide +kernel
theorem d_M_slide_100 : decode c_M_slide 100 = .ok (.getfield 25, 3) := by decide +kernel
theorem d_M_slide_103 : decode c_M_slide 103 = .ok (.iconst 1, 1) := by decide +kernel
theorem d_M_slide_104 : decode c_M_slide 104 = .ok (.iadd, 1) := by decide +kernel
theorem d_M_slide_105 : decode c_M_slide 105 = .ok (.putfield 25, 3) := by decide +kernel
theorem d_M_slide_108 : decode c_M_slide 108 = .ok (.iload_n 3, 1) := by decide +kernel
theorem d_M_slide_109 : decode c_M_slide 109 = .ok (.iconst 4, 1) := by decide +kernel
theorem d_M_slide_110 : decode c_M_slide 110 = .ok (.iload_n 2, 1) := by decide +kernel
theorem d_M_slide_111 : decode c_M_slide 111 = .ok (.iadd, 1) := by decide +kernel
theorem d_M_slide_112 : decode c_M_slide 112 = .ok (.iadd, 1) := by decide +kernel
theorem d_M_slide_113 : decode c_M_slide 113 = .ok (.istore_n 3, 1) := by decide +kernel
theorem d_M_slide_114 : decode c_M_slide 114 = .ok (.goto (-102), 3) := by decide +kernel
theorem d_M_slide_117 : decode c_M_slide 117 = .ok (.return_, 1) := by decide +kernel
theorem d_M_findOfClass_0 : decode c_M_findOfClass 0 = .ok (.iconst 0, 1) := by decide +kernel
theorem d_M_findOfClass_1 : decode c_M_findOfClass 1 = .ok (.istore_n 3, 1) := by decide +kernel
theorem d_M_findOfClass_2 : decode c_M_findOfClass 2 = .ok (.iconst 0, 1) := by decide +kernel
theorem d_M_findOfClass_3 : decode c_M_findOfClass 3 = .ok (.istore 4, 2) := by decide +kernel
theorem d_M_findOfClass_5 : decode c_M_findOfClass 5 = .ok (.iload 4, 2) := by decide +kernel
theorem d_M_findOfClass_7 : decode c_M_findOfClass 7 = .ok (.aload_n 0, 1) := by decide +kernel
theorem d_M_findOfClass_8 : decode c_M_findOfClass 8 = .ok (.getfield 60, 3) := by decide +kernel
theorem d_M_findOfClass_11 : decode c_M_findOfClass 11 = .ok (.if_icmp .ge 53, 3) := by decide +kernel
theorem d_M_findOfClass_14 : decode c_M_findOfClass 14 = .ok (.aload_n 0, 1) := by decide +kernel
theorem d_M_findOfClass_15 : decode c_M_findOfClass 15 = .ok (.getfield 7, 3) := by decide +kernel
theorem d_M_findOfClass_18 : decode c_M_findOfClass 18 = .ok (.iload 4, 2) := by decide +kernel
theorem d_M_findOfClass_20 : decode c_M_findOfClass 20 = .ok (.iconst 2, 1) := by decide +kernel
theorem d_M_findOfClass_21 : decode c_M_findOfClass 21 = .ok (.iadd, 1) := by decide +kernel
theorem d_M_findOfClass_22 : decode c_M_findOfClass 22 = .ok (.iaload, 1) := by decide +kernel
theorem d_M_findOfClass_23 : decode c_M_findOfClass 23 = .ok (.iload_n 1, 1) := by decide +kernel
theorem d_M_findOfClass_24 : decode c_M_findOfClass 24 = .ok (.if_icmp .ne 24, 3) := by decide +kernel
theorem d_M_findOfClass_27 : decode c_M_findOfClass 27 = .ok (.iload_n 3, 1) := by decide +kernel
theorem d_M_findOfClass_28 : decode c_M_findOfClass 28 = .ok (.iload_n 2, 1) := by decide +kernel
theorem d_M_findOfClass_29 : decode c_M_findOfClass 29 = .ok (.if_icmp .ne 16, 3) := by decide +kernel
theorem d_M_findOfClass_32 : decode c_M_findOfClass 32 = .ok (.aload_n 0, 1) := by decide +kernel
theorem d_M_findOfClass_33 : decode c_M_findOfClass 33 = .ok (.getfield 7, 3) := by decide +kernel
theorem d_M_findOfClass_36 : decode c_M_findOfClass 36 = .ok (.iload 4, 2) := by decide +kernel
theorem d_M_findOfClass_38 : decode c_M_findOfClass 38 = .ok (.iconst 0, 1) := by decide +kernel
theorem d_M_findOfClass_39 : decode c_M_findOfClass 39 = .ok (.iadd, 1) := by decide +kernel
theorem d_M_findOfClass_40 : decode c_M_findOfClass 40 = .ok (.iaload, 1) := by decide +kernel
theorem d_M_findOfClass_41 : decode c_M_findOfClass 41 = .ok (.invokestatic 76, 3) := by decide +kernel
theorem d_M_findOfClass_44 : decode c_M_findOfClass 44 = .ok (.ireturn, 1) := by decide +kernel
theorem d_M_findOfClass_45 : decode c_M_findOfClass 45 = .ok (.iinc 3 1, 3) := by decide +kernel
theorem d_M_findOfClass_48 : decode c_M_findOfClass 48 = .ok (.iload 4, 2) := by decide +kernel
theorem d_M_findOfClass_50 : decode c_M_findOfClass 50 = .ok (.iconst 4, 1) := by decide +kernel
theorem d_M_findOfClass_51 : decode c_M_findOfClass 51 = .ok (.aload_n 0, 1) := by decide +kernel
theorem d_M_findOfClass_52 : decode c_M_findOfClass 52 = .ok (.iload 4, 2) := by decide +kernel
theorem d_M_findOfClass_54 : decode c_M_findOfClass 54 = .ok (.invokevirtual 123, 3) := by decide +kernel
theorem d_M_findOfClass_57 : decode c_M_findOfClass 57 = .ok (.iadd, 1) := by decide +kernel
theorem d_M_findOfClass_58 : decode c_M_findOfClass 58 = .ok (.iadd, 1) := by decide +kernel
theorem d_M_findOfClass_59 : decode c_M_findOfClass 59 = .ok (.istore 4, 2) := by decide +kernel
theorem d_M_findOfClass_61 : decode c_M_findOfClass 61 = .ok (.goto (-56), 3) := by decide +kernel
theorem d_M_findOfClass_64 : decode c_M_findOfClass 64 = .ok (.iconst 0, 1) := by decide +kernel
theorem d_M_findOfClass_65 : decode c_M_findOfClass 65 = .ok (.ireturn, 1) := by decide +kernel
theorem d_M_countHolders_0 : decode c_M_countHolders 0 = .ok (.iconst 0, 1) := by decide +kernel
theorem d_M_countHolders_1 : decode c_M_countHolders 1 = .ok (.istore_n 2, 1) := by decide +kernel
theorem d_M_countHolders_2 : decode c_M_countHolders 2 = .ok (.iconst 0, 1) := by decide +kernel
theorem d_M_countHolders_3 : decode c_M_countHolders 3 = .ok (.istore_n 3, 1) := by decide +kernel
theorem d_M_countHolders_4 : decode c_M_countHolders 4 = .ok (.iload_n 3, 1) := by decide +kernel
theorem d_M_countHolders_5 : decode c_M_countHolders 5 = .ok (.aload_n 0, 1) := by decide +kernel
theorem d_M_countHolders_6 : decode c_M_countHolders 6 = .ok (.getfield 60, 3) := by decide +kernel
theorem d_M_countHolders_9 : decode c_M_countHolders 9 = .ok (.if_icmp .ge 70, 3) := by decide +kernel
theorem d_M_countHolders_12 : decode c_M_countHolders 12 = .ok (.aload_n 0, 1) := by decide +kernel
theorem d_M_countHolders_13 : decode c_M_countHolders 13 = .ok (.getfield 7, 3) := by decide +kernel
theorem d_M_countHolders_16 : decode c_M_countHolders 16 = .ok (.iload_n 3, 1) := by decide +kernel
theorem d_M_countHolders_17 : decode c_M_countHolders 17 = .ok (.iconst 2, 1) := by decide +kernel
theorem d_M_countHolders_18 : decode c_M_countHolders 18 = .ok (.iadd, 1) := by decide +kernel
theorem d_M_countHolders_19 : decode c_M_countHolders 19 = .ok (.iaload, 1) := by decide +kernel
theorem d_M_countHolders_20 : decode c_M_countHolders 20 = .ok (.iload_n 1, 1) := by decide +kernel
theorem d_M_countHolders_21 : decode c_M_countHolders 21 = .ok (.if_icmp .ne 6, 3) := by decide +kernel
theorem d_M_countHolders_24 : decode c_M_countHolders 24 = .ok (.iinc 2 1, 3) := by decide +kernel
theorem d_M_countHolders_27 : decode c_M_countHolders 27 = .ok (.aload_n 0, 1) := by decide +kernel
theorem d_M_countHolders_28 : decode c_M_countHolders 28 = .ok (.iload_n 3, 1) := by decide +kernel
theorem d_M_countHolders_29 : decode c_M_countHolders 29 = .ok (.invokevirtual 120, 3) := by decide +kernel
theorem d_M_countHolders_32 : decode c_M_countHolders 32 = .ok (.istore 4, 2) := by decide +kernel
theorem d_M_countHolders_34 : decode c_M_countHolders 34 = .ok (.iload_n 3, 1) := by decide +kernel
theorem d_M_countHolders_35 : decode c_M_countHolders 35 = .ok (.iconst 4, 1) := by decide +kernel
theorem d_M_countHolders_36 : decode c_M_countHolders 36 = .ok (.iadd, 1) := by decide +kernel
theorem d_M_countHolders_37 : decode c_M_countHolders 37 = .ok (.istore 5, 2) := by decide +kernel
theorem d_M_countHolders_39 : decode c_M_countHolders 39 = .ok (.iload 5, 2) := by decide +kernel
theorem d_M_countHolders_41 : decode c_M_countHolders 41 = .ok (.iload 4, 2) := by decide +kernel
theorem d_M_countHolders_43 : decode c_M_countHolders 43 = .ok (.if_icmp .ge 23, 3) := by decide +kernel
theorem d_M_countHolders_46 : decode c_M_countHolders 46 = .ok (.aload_n 0, 1) := by decide +kernel
theorem d_M_countHolders_47 : decode c_M_countHolders 47 = .ok (.getfield 7, 3) := by decide +kernel
theorem d_M_countHolders_50 : decode c_M_countHolders 50 = .ok (.iload 5, 2) := by decide +kernel
theorem d_M_countHolders_52 : decode c_M_countHolders 52 = .ok (.iaload, 1) := by decide +kernel
theorem d_M_countHolders_53 : decode c_M_countHolders 53 = .ok (.iload_n 1, 1) := by decide +kernel
theorem d_M_countHolders_54 : decode c_M_countHolders 54 = .ok (.if_icmp .ne 6, 3) := by decide +kernel
theorem d_M_countHolders_57 : decode c_M_countHolders 57 = .ok (.iinc 2 1, 3) := by decide +kernel
theorem d_M_countHolders_60 : decode c_M_countHolders 60 = .ok (.iinc 5 1, 3) := by decide +kernel
theorem d_M_countHolders_63 : decode c_M_countHolders 63 = .ok (.goto (-24), 3) := by decide +kernel
theorem d_M_countHolders_66 : decode c_M_countHolders 66 = .ok (.iload_n 3, 1) := by decide +kernel
theorem d_M_countHolders_67 : decode c_M_countHolders 67 = .ok (.iconst 4, 1) := by decide +kernel
theorem d_M_countHolders_68 : decode c_M_countHolders 68 = .ok (.aload_n 0, 1) := by decide +kernel
theorem d_M_countHolders_69 : decode c_M_countHolders 69 = .ok (.iload_n 3, 1) := by decide +kernel
theorem d_M_countHolders_70 : decode c_M_countHolders 70 = .ok (.invokevirtual 123, 3) := by decide +kernel
theorem d_M_countHolders_73 : decode c_M_countHolders 73 = .ok (.iadd, 1) := by decide +kernel
theorem d_M_countHolders_74 : decode c_M_countHolders 74 = .ok (.iadd, 1) := by decide +kernel
theorem d_M_countHolders_75 : decode c_M_countHolders 75 = .ok (.istore_n 3, 1) := by decide +kernel
theorem d_M_countHolders_76 : decode c_M_countHolders 76 = .ok (.goto (-72), 3) := by decide +kernel
theorem d_M_countHolders_79 : decode c_M_countHolders 79 = .ok (.iload_n 2, 1) := by decide +kernel
theorem d_M_countHolders_80 : decode c_M_countHolders 80 = .ok (.ireturn, 1) := by decide +kernel
theorem d_T_init_0 : decode c_T_init 0 = .ok (.aload_n 0, 1) := by decide +kernel
theorem d_T_init_1 : decode c_T_init 1 = .ok (.invokespecial 1, 3) := by decide +kernel
theorem d_T_init_4 : decode c_T_init 4 = .ok (.aload_n 0, 1) := by decide +kernel
theorem d_T_init_5 : decode c_T_init 5 = .ok (.bipush 32, 2) := by decide +kernel
theorem d_T_init_7 : decode c_T_init 7 = .ok (.newarray .int, 2) := by decide +kernel
theorem d_T_init_9 : decode c_T_init 9 = .ok (.putfield 9, 3) := by decide +kernel
theorem d_T_init_12 : decode c_T_init 12 = .ok (.aload_n 0, 1) := by decide +kernel
theorem d_T_init_13 : decode c_T_init 13 = .ok (.new 13, 3) := by decide +kernel
theorem d_T_init_16 : decode c_T_init 16 = .ok (.dup, 1) := by decide +kernel
theorem d_T_init_17 : decode c_T_init 17 = .ok (.iload_n 1, 1) := by decide +kernel
theorem d_T_init_18 : decode c_T_init 18 = .ok (.bipush 64, 2) := by decide +kernel
theorem d_T_init_20 : decode c_T_init 20 = .ok (.ldc 15, 2) := by decide +kernel
theorem d_T_init_22 : decode c_T_init 22 = .ok (.invokestatic 16, 3) := by decide +kernel
theorem d_T_init_25 : decode c_T_init 25 = .ok (.ifCond .eq 7, 3) := by decide +kernel
theorem d_T_init_28 : decode c_T_init 28 = .ok (.iload_n 1, 1) := by decide +kernel
theorem d_T_init_29 : decode c_T_init 29 = .ok (.goto 5, 3) := by decide +kernel
theorem d_T_init_32 : decode c_T_init 32 = .ok (.ldc 15, 2) := by decide +kernel
theorem d_T_init_34 : decode c_T_init 34 = .ok (.iload_n 2, 1) := by decide +kernel
theorem d_T_init_35 : decode c_T_init 35 = .ok (.bipush 16, 2) := by decide +kernel
theorem d_T_init_37 : decode c_T_init 37 = .ok (.sipush 8192, 3) := by decide +kernel
theorem d_T_init_40 : decode c_T_init 40 = .ok (.invokestatic 16, 3) := by decide +kernel
theorem d_T_init_43 : decode c_T_init 43 = .ok (.ifCond .eq 7, 3) := by decide +kernel
theorem d_T_init_46 : decode c_T_init 46 = .ok (.iload_n 2, 1) := by decide +kernel
theorem d_T_init_47 : decode c_T_init 47 = .ok (.goto 6, 3) := by decide +kernel
theorem d_T_init_50 : decode c_T_init 50 = .ok (.sipush 8192, 3) := by decide +kernel
theorem d_T_init_53 : decode c_T_init 53 = .ok (.invokespecial 20, 3) := by decide +kernel
theorem d_T_init_56 : decode c_T_init 56 = .ok (.putfield 23, 3) := by decide +kernel
theorem d_T_init_59 : decode c_T_init 59 = .ok (.return_, 1) := by decide +kernel
theorem d_T_number_0 : decode c_T_number 0 = .ok (.iload_n 1, 1) := by decide +kernel
theorem d_T_number_1 : decode c_T_number 1 = .ok (.invokestatic 27, 3) := by decide +kernel
theorem d_T_number_4 : decode c_T_number 4 = .ok (.iload_n 2, 1) := by decide +kernel
theorem d_T_number_5 : decode c_T_number 5 = .ok (.ldc 31, 2) := by decide +kernel
theorem d_T_number_7 : decode c_T_number 7 = .ok (.ldc 32, 2) := by decide +kernel
theorem d_T_number_9 : decode c_T_number 9 = .ok (.invokestatic 33, 3) := by decide +kernel
theorem d_T_number_12 : decode c_T_number 12 = .ok (.aload_n 0, 1) := by decide +kernel
theorem d_T_number_13 : decode c_T_number 13 = .ok (.iload_n 1, 1) := by decide +kernel
theorem d_T_number_14 : decode c_T_number 14 = .ok (.iload_n 2, 1) := by decide +kernel
theorem d_T_number_15 : decode c_T_number 15 = .ok (.invokestatic 37, 3) := by decide +kernel
theorem d_T_number_18 : decode c_T_number 18 = .ok (.invokevirtual 43, 3) := by decide +kernel
theorem d_T_number_21 : decode c_T_number 21 = .ok (.return_, 1) := by decide +kernel
theorem d_T_move_0 : decode c_T_move 0 = .ok (.iload_n 1, 1) := by decide +kernel
theorem d_T_move_1 : decode c_T_move 1 = .ok (.invokestatic 27, 3) := by decide +kernel
theorem d_T_move_4 : decode c_T_move 4 = .ok (.iload_n 2, 1) := by decide +kernel
theorem d_T_move_5 : decode c_T_move 5 = .ok (.invokestatic 27, 3) := by decide +kernel
theorem d_T_move_8 : decode c_T_move 8 = .ok (.aload_n 0, 1) := by decide +kernel
theorem d_T_move_9 : decode c_T_move 9 = .ok (.iload_n 1, 1) := by decide +kernel
theorem d_T_move_10 : decode c_T_move 10 = .ok (.aload_n 0, 1) := by decide +kernel
theorem d_T_move_11 : decode c_T_move 11 = .ok (.getfield 9, 3) := by decide +kernel
theorem d_T_move_14 : decode c_T_move 14 = .ok (.iload_n 2, 1) := by decide +kernel
theorem d_T_move_15 : decode c_T_move 15 = .ok (.iaload, 1) := by decide +kernel
theorem d_T_move_16 : decode c_T_move 16 = .ok (.invokevirtual 43, 3) := by decide +kernel
theorem d_T_move_19 : decode c_T_move 19 = .ok (.return_, 1) := by decide +kernel
theorem d_T_clear_0 : decode c_T_clear 0 = .ok (.iload_n 1, 1) := by decide +kernel
theorem d_T_clear_1 : decode c_T_clear 1 = .ok (.invokestatic 27, 3) := by decide +kernel
theorem d_T_clear_4 : decode c_T_clear 4 = .ok (.aload_n 0, 1) := by decide +kernel
theorem d_T_clear_5 : decode c_T_clear 5 = .ok (.iload_n 1, 1) := by decide +kernel
theorem d_T_clear_6 : decode c_T_clear 6 = .ok (.iconst 0, 1) := by decide +kernel
theorem d_T_clear_7 : decode c_T_clear 7 = .ok (.invokevirtual 43, 3) := by decide +kernel
theorem d_T_clear_10 : decode c_T_clear 10 = .ok (.return_, 1) := by decide +kernel
theorem d_T_make_0 : decode c_T_make 0 = .ok (.iload_n 1, 1) := by decide +kernel
theorem d_T_make_1 : decode c_T_make 1 = .ok (.invokestatic 27, 3) := by decide +kernel
theorem d_T_make_4 : decode c_T_make 4 = .ok (.iload_n 2, 1) := by decide +kernel
theorem d_T_make_5 : decode c_T_make 5 = .ok (.invokestatic 27, 3) := by decide +kernel
theorem d_T_make_8 : decode c_T_make 8 = .ok (.iload_n 3, 1) := by decide +kernel
theorem d_T_make_9 : decode c_T_make 9 = .ok (.iconst 0, 1) := by decide +kernel
theorem d_T_make_10 : decode c_T_make 10 = .ok (.iload 4, 2) := by decide +kernel
theorem d_T_make_12 : decode c_T_make 12 = .ok (.ifCond .eq 9, 3) := by decide +kernel
theorem d_T_make_15 : decode c_T_make 15 = .ok (.sipush 4000, 3) := by decide +kernel
theorem d_T_make_18 : decode c_T_make 18 = .ok (.goto 6, 3) := by decide +kernel
theorem d_T_make_21 : decode c_T_make 21 = .ok (.sipush 16000, 3) := by decide +kernel
theorem d_T_make_24 : decode c_T_make 24 = .ok (.invokestatic 33, 3) := by decide +kernel
theorem d_T_make_27 : decode c_T_make 27 = .ok (.aload_n 0, 1) := by decide +kernel
theorem d_T_make_28 : decode c_T_make 28 = .ok (.getfield 23, 3) := by decide +kernel
theorem d_T_make_31 : decode c_T_make 31 = .ok (.aload_n 0, 1) := by decide +kernel
theorem d_T_make_32 : decode c_T_make 32 = .ok (.getfield 9, 3) := by decide +kernel
theorem d_T_make_35 : decode c_T_make 35 = .ok (.iload_n 2, 1) := by decide +kernel
theorem d_T_make_36 : decode c_T_make 36 = .ok (.iaload, 1) := by decide +kernel
theorem d_T_make_37 : decode c_T_make 37 = .ok (.iload_n 3, 1) := by decide +kernel
theorem d_T_make_38 : decode c_T_make 38 = .ok (.iload 4, 2) := by decide +kernel
theorem d_T_make_40 : decode c_T_make 40 = .ok (.invokestatic 46, 3) := by decide +kernel
theorem d_T_make_43 : decode c_T_make 43 = .ok (.aload_n 0, 1) := by decide +kernel
theorem d_T_make_44 : decode c_T_make 44 = .ok (.getfield 9, 3) := by decide +kernel
theorem d_T_make_47 : decode c_T_make 47 = .ok (.invokevirtual 50, 3) := by decide +kernel
theorem d_T_make_50 : decode c_T_make 50 = .ok (.istore 5, 2) := by decide +kernel
theorem d_T_make_52 : decode c_T_make 52 = .ok (.iload 5, 2) := by decide +kernel
theorem d_T_make_54 : decode c_T_make 54 = .ok (.invokestatic 54, 3) := by decide +kernel
theorem d_T_make_57 : decode c_T_make 57 = .ok (.aload_n 0, 1) := by decide +kernel
theorem d_T_make_58 : decode c_T_make 58 = .ok (.iload_n 1, 1) := by decide +kernel
theorem d_T_make_59 : decode c_T_make 59 = .ok (.iload 5, 2) := by decide +kernel
theorem d_T_make_61 : decode c_T_make 61 = .ok (.invokevirtual 43, 3) := by decide +kernel
theorem d_T_make_64 : decode c_T_make 64 = .ok (.aload_n 0, 1) := by decide +kernel
theorem d_T_make_65 : decode c_T_make 65 = .ok (.getfield 23, 3) := by decide +kernel
theorem d_T_make_68 : decode c_T_make 68 = .ok (.iload 5, 2) := by decide +kernel
theorem d_T_make_70 : decode c_T_make 70 = .ok (.invokevirtual 57, 3) := by decide +kernel
theorem d_T_make_73 : decode c_T_make 73 = .ok (.ireturn, 1) := by decide +kernel
theorem d_T_copy_0 : decode c_T_copy 0 = .ok (.iload_n 1, 1) := by decide +kernel
theorem d_T_copy_1 : decode c_T_copy 1 = .ok (.invokestatic 27, 3) := by decide +kernel
theorem d_T_copy_4 : decode c_T_copy 4 = .ok (.aload_n 0, 1) := by decide +kernel
theorem d_T_copy_5 : decode c_T_copy 5 = .ok (.iload_n 2, 1) := by decide +kernel
theorem d_T_copy_6 : decode c_T_copy 6 = .ok (.invokevirtual 60, 3) := by decide +kernel
theorem d_T_copy_9 : decode c_T_copy 9 = .ok (.aload_n 0, 1) := by decide +kernel
theorem d_T_copy_10 : decode c_T_copy 10 = .ok (.getfield 23, 3) := by decide +kernel
theorem d_T_copy_13 : decode c_T_copy 13 = .ok (.aload_n 0, 1) := by decide +kernel
theorem d_T_copy_14 : decode c_T_copy 14 = .ok (.getfield 9, 3) := by decide +kernel
theorem d_T_copy_17 : decode c_T_copy 17 = .ok (.iload_n 2, 1) := by decide +kernel
theorem d_T_copy_18 : decode c_T_copy 18 = .ok (.iaload, 1) := by decide +kernel
theorem d_T_copy_19 : decode c_T_copy 19 = .ok (.aload_n 0, 1) := by decide +kernel
theorem d_T_copy_20 : decode c_T_copy 20 = .ok (.getfield 9, 3) := by decide +kernel
theorem d_T_copy_23 : decode c_T_copy 23 = .ok (.invokevirtual 63, 3) := by decide +kernel
theorem d_T_copy_26 : decode c_T_copy 26 = .ok (.istore_n 3, 1) := by decide +kernel
theorem d_T_copy_27 : decode c_T_copy 27 = .ok (.iload_n 3, 1) := by decide +kernel
theorem d_T_copy_28 : decode c_T_copy 28 = .ok (.invokestatic 54, 3) := by decide +kernel
theorem d_T_copy_31 : decode c_T_copy 31 = .ok (.aload_n 0, 1) := by decide +kernel
theorem d_T_copy_32 : decode c_T_copy 32 = .ok (.iload_n 1, 1) := by decide +kernel
theorem d_T_copy_33 : decode c_T_copy 33 = .ok (.iload_n 3, 1) := by decide +kernel
theorem d_T_copy_34 : decode c_T_copy 34 = .ok (.invokevirtual 43, 3) := by decide +kernel
theorem d_T_copy_37 : decode c_T_copy 37 = .ok (.aload_n 0, 1) := by decide +kernel
theorem d_T_copy_38 : decode c_T_copy 38 = .ok (.getfield 23, 3) := by decide +kernel
theorem d_T_copy_41 : decode c_T_copy 41 = .ok (.iload_n 3, 1) := by decide +kernel
theorem d_T_copy_42 : decode c_T_copy 42 = .ok (.invokevirtual 57, 3) := by decide +kernel
theorem d_T_copy_45 : decode c_T_copy 45 = .ok (.ireturn, 1) := by decide +kernel
theorem d_T_chain_0 : decode c_T_chain 0 = .ok (.iload_n 1, 1) := by decide +kernel
theorem d_T_chain_1 : decode c_T_chain 1 = .ok (.invokestatic 27, 3) := by decide +kernel
theorem d_T_chain_4 : decode c_T_chain 4 = .ok (.iload_n 2, 1) := by decide +kernel
theorem d_T_chain_5 : decode c_T_chain 5 = .ok (.invokestatic 27, 3) := by decide +kernel
theorem d_T_chain_8 : decode c_T_chain 8 = .ok (.iload_n 3, 1) := by decide +kernel
theorem d_T_chain_9 : decode c_T_chain 9 = .ok (.iconst 1, 1) := by decide +kernel
theorem d_T_chain_10 : decode c_T_chain 10 = .ok (.bipush 100, 2) := by decide +kernel
theorem d_T_chain_12 : decode c_T_chain 12 = .ok (.invokestatic 33, 3) := by decide +kernel
theorem d_T_chain_15 : decode c_T_chain 15 = .ok (.iload 4, 2) := by decide +kernel
theorem d_T_chain_17 : decode c_T_chain 17 = .ok (.iconst 1, 1) := by decide +kernel
theorem d_T_chain_18 : decode c_T_chain 18 = .ok (.sipush 4000, 3) := by decide +kernel
theorem d_T_chain_21 : decode c_T_chain 21 = .ok (.invokestatic 33, 3) := by decide +kernel
theorem d_T_chain_24 : decode c_T_chain 24 = .ok (.iload_n 3, 1) := by decide +kernel
theorem d_T_chain_25 : decode c_T_chain 25 = .ok (.iconst 1, 1) := by decide +kernel
theorem d_T_chain_26 : decode c_T_chain 26 = .ok (.invokestatic 46, 3) := by decide +kernel
theorem d_T_chain_29 : decode c_T_chain 29 = .ok (.istore 5, 2) := by decide +kernel
theorem d_T_chain_31 : decode c_T_chain 31 = .ok (.iconst 0, 1) := by decide +kernel
theorem d_T_chain_32 : decode c_T_chain 32 = .ok (.istore 6, 2) := by decide +kernel
theorem d_T_chain_34 : decode c_T_chain 34 = .ok (.iload 6, 2) := by decide +kernel
theorem d_T_chain_36 : decode c_T_chain 36 = .ok (.iload 4, 2) := by decide +kernel
theorem d_T_chain_38 : decode c_T_chain 38 = .ok (.if_icmp .ge 62, 3) := by decide +kernel
theorem d_T_chain_41 : decode c_T_chain 41 = .ok (.aload_n 0, 1) := by decide +kernel
theorem d_T_chain_42 : decode c_T_chain 42 = .ok (.getfield 23, 3) := by decide +kernel
theorem d_T_chain_45 : decode c_T_chain 45 = .ok (.aload_n 0, 1) := by decide +kernel
theorem d_T_chain_46 : decode c_T_chain 46 = .ok (.getfield 9, 3) := by decide +kernel
theorem d_T_chain_49 : decode c_T_chain 49 = .ok (.iload_n 2, 1) := by decide +kernel
theorem d_T_chain_50 : decode c_T_chain 50 = .ok (.iaload, 1) := by decide +kernel
theorem d_T_chain_51 : decode c_T_chain 51 = .ok (.iload 5, 2) := by decide +kernel
theorem d_T_chain_53 : decode c_T_chain 53 = .ok (.aload_n 0, 1) := by decide +kernel
theorem d_T_chain_54 : decode c_T_chain 54 = .ok (.getfield 9, 3) := by decide +kernel
theorem d_T_chain_57 : decode c_T_chain 57 = .ok (.invokevirtual 50, 3) := by decide +kernel
theorem d_T_chain_60 : decode c_T_chain 60 = .ok (.istore 7, 2) := by decide +kernel
theorem d_T_chain_62 : decode c_T_chain 62 = .ok (.iload 7, 2) := by decide +kernel
theorem d_T_chain_64 : decode c_T_chain 64 = .ok (.ifCond .ne 6, 3) := by decide +kernel
theorem d_T_chain_67 : decode c_T_chain 67 = .ok (.iload 6, 2) := by decide +kernel
theorem d_T_chain_69 : decode c_T_chain 69 = .ok (.ireturn, 1) := by decide +kernel
theorem d_T_chain_70 : decode c_T_chain 70 = .ok (.aload_n 0, 1) := by decide +kernel
theorem d_T_chain_71 : decode c_T_chain 71 = .ok (.getfield 23, 3) := by decide +kernel
theorem d_T_chain_74 : decode c_T_chain 74 = .ok (.iload 7, 2) := by decide +kernel
theorem d_T_chain_76 : decode c_T_chain 76 = .ok (.iconst 0, 1) := by decide +kernel
theorem d_T_chain_77 : decode c_T_chain 77 = .ok (.aload_n 0, 1) := by decide +kernel
theorem d_T_chain_78 : decode c_T_chain 78 = .ok (.getfield 9, 3) := by decide +kernel
theorem d_T_chain_81 : decode c_T_chain 81 = .ok (.iload_n 1, 1) := by decide +kernel
theorem d_T_chain_82 : decode c_T_chain 82 = .ok (.iaload, 1) := by decide +kernel
theorem d_T_chain_83 : decode c_T_chain 83 = .ok (.invokevirtual 67, 3) := by decide +kernel
theorem d_T_chain_86 : decode c_T_chain 86 = .ok (.aload_n 0, 1) := by decide +kernel
theorem d_T_chain_87 : decode c_T_chain 87 = .ok (.getfield 9, 3) := by decide +kernel
theorem d_T_chain_90 : decode c_T_chain 90 = .ok (.iload_n 1, 1) := by decide +kernel
theorem d_T_chain_91 : decode c_T_chain 91 = .ok (.iload 7, 2) := by decide +kernel
theorem d_T_chain_93 : decode c_T_chain 93 = .ok (.iastore, 1) := by decide +kernel
theorem d_T_chain_94 : decode c_T_chain 94 = .ok (.iinc 6 1, 3) := by decide +kernel
theorem d_T_chain_97 : decode c_T_chain 97 = .ok (.goto (-63), 3) := by decide +kernel
theorem d_T_chain_100 : decode c_T_chain 100 = .ok (.iload 4, 2) := by decide +kernel
theorem d_T_chain_102 : decode c_T_chain 102 = .ok (.ireturn, 1) := by decide +kernel
theorem d_T_get_0 : decode c_T_get 0 = .ok (.iload_n 1, 1) := by decide +kernel
theorem d_T_get_1 : decode c_T_get 1 = .ok (.invokestatic 27, 3) := by decide +kernel
theorem d_T_get_4 : decode c_T_get 4 = .ok (.aload_n 0, 1) := by decide +kernel
theorem d_T_get_5 : decode c_T_get 5 = .ok (.iload_n 2, 1) := by decide +kernel
theorem d_T_get_6 : decode c_T_get 6 = .ok (.invokevirtual 70, 3) := by decide +kernel
theorem d_T_get_9 : decode c_T_get 9 = .ok (.aload_n 0, 1) := by decide +kernel
theorem d_T_get_10 : decode c_T_get 10 = .ok (.iload_n 2, 1) := by decide +kernel
theorem d_T_get_11 : decode c_T_get 11 = .ok (.iload_n 3, 1) := by decide +kernel
theorem d_T_get_12 : decode c_T_get 12 = .ok (.invokevirtual 73, 3) := by decide +kernel
theorem d_T_get_15 : decode c_T_get 15 = .ok (.aload_n 0, 1) := by decide +kernel
theorem d_T_get_16 : decode c_T_get 16 = .ok (.iload_n 1, 1) := by decide +kernel
theorem d_T_get_17 : decode c_T_get 17 = .ok (.aload_n 0, 1) := by decide +kernel
theorem d_T_get_18 : decode c_T_get 18 = .ok (.getfield 23, 3) := by decide +kernel
theorem d_T_get_21 : decode c_T_get 21 = .ok (.aload_n 0, 1) := by decide +kernel
theorem d_T_get_22 : decode c_T_get 22 = .ok (.getfield 9, 3) := by decide +kernel
theorem d_T_get_25 : decode c_T_get 25 = .ok (.iload_n 2, 1) := by decide +kernel
theorem d_T_get_26 : decode c_T_get 26 = .ok (.iaload, 1) := by decide +kernel
theorem d_T_get_27 : decode c_T_get 27 = .ok (.iload_n 3, 1) := by decide +kernel
theorem d_T_get_28 : decode c_T_get 28 = .ok (.invokevirtual 76, 3) := by decide +kernel
theorem d_T_get_31 : decode c_T_get 31 = .ok (.invokevirtual 43, 3) := by decide +kernel
theorem d_T_get_34 : decode c_T_get 34 = .ok (.return_, 1) := by decide +kernel
theorem d_T_put_0 : decode c_T_put 0 = .ok (.iload_n 3, 1) := by decide +kernel
theorem d_T_put_1 : decode c_T_put 1 = .ok (.invokestatic 27, 3) := by decide +kernel
theorem d_T_put_4 : decode c_T_put 4 = .ok (.aload_n 0, 1) := by decide +kernel
theorem d_T_put_5 : decode c_T_put 5 = .ok (.iload_n 1, 1) := by decide +kernel
theorem d_T_put_6 : decode c_T_put 6 = .ok (.invokevirtual 70, 3) := by decide +kernel
theorem d_T_put_9 : decode c_T_put 9 = .ok (.aload_n 0, 1) := by decide +kernel
theorem d_T_put_10 : decode c_T_put 10 = .ok (.iload_n 1, 1) := by decide +kernel
theorem d_T_put_11 : decode c_T_put 11 = .ok (.iload_n 2, 1) := by decide +kernel
theorem d_T_put_12 : decode c_T_put 12 = .ok (.invokevirtual 73, 3) := by decide +kernel
theorem d_T_put_15 : decode c_T_put 15 = .ok (.aload_n 0, 1) := by decide +kernel
theorem d_T_put_16 : decode c_T_put 16 = .ok (.getfield 23, 3) := by decide +kernel
theorem d_T_put_19 : decode c_T_put 19 = .ok (.aload_n 0, 1) := by decide +kernel
theorem d_T_put_20 : decode c_T_put 20 = .ok (.getfield 9, 3) := by decide +kernel
theorem d_T_put_23 : decode c_T_put 23 = .ok (.iload_n 1, 1) := by decide +kernel
theorem d_T_put_24 : decode c_T_put 24 = .ok (.iaload, 1) := by decide +kernel
theorem d_T_put_25 : decode c_T_put 25 = .ok (.iload_n 2, 1) := by decide +kernel
theorem d_T_put_26 : decode c_T_put 26 = .ok (.aload_n 0, 1) := by decide +kernel
theorem d_T_put_27 : decode c_T_put 27 = .ok (.getfield 9, 3) := by decide +kernel
theorem d_T_put_30 : decode c_T_put 30 = .ok (.iload_n 3, 1) := by decide +kernel
theorem d_T_put_31 : decode c_T_put 31 = .ok (.iaload, 1) := by decide +kernel
theorem d_T_put_32 : decode c_T_put 32 = .ok (.invokevirtual 67, 3) := by decide +kernel
theorem d_T_put_35 : decode c_T_put 35 = .ok (.return_, 1) := by decide +kernel
theorem d_T_walk_0 : decode c_T_walk 0 = .ok (.iload_n 1, 1) := by decide +kernel
theorem d_T_walk_1 : decode c_T_walk 1 = .ok (.invokestatic 27, 3) := by decide +kernel
theorem d_T_walk_4 : decode c_T_walk 4 = .ok (.iload_n 3, 1) := by decide +kernel
theorem d_T_walk_5 : decode c_T_walk 5 = .ok (.iconst 0, 1) := by decide +kernel
theorem d_T_walk_6 : decode c_T_walk 6 = .ok (.sipush 10000, 3) := by decide +kernel
theorem d_T_walk_9 : decode c_T_walk 9 = .ok (.invokestatic 33, 3) := by decide +kernel
theorem d_T_walk_12 : decode c_T_walk 12 = .ok (.aload_n 0, 1) := by decide +kernel
theorem d_T_walk_13 : decode c_T_walk 13 = .ok (.getfield 9, 3) := by decide +kernel
theorem d_T_walk_16 : decode c_T_walk 16 = .ok (.iload_n 1, 1) := by decide +kernel
theorem d_T_walk_17 : decode c_T_walk 17 = .ok (.iaload, 1) := by decide +kernel
theorem d_T_walk_18 : decode c_T_walk 18 = .ok (.istore 4, 2) := by decide +kernel
theorem d_T_walk_20 : decode c_T_walk 20 = .ok (.iconst 0, 1) := by decide +kernel
theorem d_T_walk_21 : decode c_T_walk 21 = .ok (.istore 5, 2) := by decide +kernel
theorem d_T_walk_23 : decode c_T_walk 23 = .ok (.iload 5, 2) := by decide +kernel
theorem d_T_walk_25 : decode c_T_walk 25 = .ok (.iload_n 3, 1) := by decide +kernel
theorem d_T_walk_26 : decode c_T_walk 26 = .ok (.if_icmp .ge 52, 3) := by decide +kernel
theorem d_T_walk_29 : decode c_T_walk 29 = .ok (.aload_n 0, 1) := by decide +kernel
theorem d_T_walk_30 : decode c_T_walk 30 = .ok (.getfield 23, 3) := by decide +kernel
theorem d_T_walk_33 : decode c_T_walk 33 = .ok (.iload 4, 2) := by decide +kernel
theorem d_T_walk_35 : decode c_T_walk 35 = .ok (.invokevirtual 80, 3) := by decide +kernel
theorem d_T_walk_38 : decode c_T_walk 38 = .ok (.ifCond .eq 40, 3) := by decide +kernel
theorem d_T_walk_41 : decode c_T_walk 41 = .ok (.iload_n 2, 1) := by decide +kernel
theorem d_T_walk_42 : decode c_T_walk 42 = .ok (.iconst 0, 1) := by decide +kernel
theorem d_T_walk_43 : decode c_T_walk 43 = .ok (.aload_n 0, 1) := by decide +kernel
theorem d_T_walk_44 : decode c_T_walk 44 = .ok (.getfield 23, 3) := by decide +kernel
theorem d_T_walk_47 : decode c_T_walk 47 = .ok (.iload 4, 2) := by decide +kernel
theorem d_T_walk_49 : decode c_T_walk 49 = .ok (.invokevirtual 84, 3) := by decide +kernel
theorem d_T_walk_52 : decode c_T_walk 52 = .ok (.iconst 1, 1) := by decide +kernel
theorem d_T_walk_53 : decode c_T_walk 53 = .ok (.isub, 1) := by decide +kernel
theorem d_T_walk_54 : decode c_T_walk 54 = .ok (.invokestatic 16, 3) := by decide +kernel
theorem d_T_walk_57 : decode c_T_walk 57 = .ok (.ifCond .eq 21, 3) := by decide +kernel
theorem d_T_walk_60 : decode c_T_walk 60 = .ok (.aload_n 0, 1) := by decide +kernel
theorem d_T_walk_61 : decode c_T_walk 61 = .ok (.getfield 23, 3) := by decide +kernel
theorem d_T_walk_64 : decode c_T_walk 64 = .ok (.iload 4, 2) := by decide +kernel
theorem d_T_walk_66 : decode c_T_walk 66 = .ok (.iload_n 2, 1) := by decide +kernel
theorem d_T_walk_67 : decode c_T_walk 67 = .ok (.invokevirtual 76, 3) := by decide +kernel
theorem d_T_walk_70 : decode c_T_walk 70 = .ok (.istore 4, 2) := by decide +kernel
theorem d_T_walk_72 : decode c_T_walk 72 = .ok (.iinc 5 1, 3) := by decide +kernel
theorem d_T_walk_75 : decode c_T_walk 75 = .ok (.goto (-52), 3) := by decide +kernel
theorem d_T_walk_78 : decode c_T_walk 78 = .ok (.aload_n 0, 1) := by decide +kernel
theorem d_T_walk_79 : decode c_T_walk 79 = .ok (.iload_n 1, 1) := by decide +kernel
theorem d_T_walk_80 : decode c_T_walk 80 = .ok (.iload 4, 2) := by decide +kernel
theorem d_T_walk_82 : decode c_T_walk 82 = .ok (.invokevirtual 43, 3) := by decide +kernel
theorem d_T_walk_85 : decode c_T_walk 85 = .ok (.iload 5, 2) := by decide +kernel
theorem d_T_walk_87 : decode c_T_walk 87 = .ok (.ireturn, 1) := by decide +kernel
theorem d_T_classOf_0 : decode c_T_classOf 0 = .ok (.iload_n 1, 1) := by decide +kernel
theorem d_T_classOf_1 : decode c_T_classOf 1 = .ok (.invokestatic 27, 3) := by decide +kernel
theorem d_T_classOf_4 : decode c_T_classOf 4 = .ok (.aload_n 0, 1) := by decide +kernel
theorem d_T_classOf_5 : decode c_T_classOf 5 = .ok (.iload_n 2, 1) := by decide +kernel
theorem d_T_classOf_6 : decode c_T_classOf 6 = .ok (.invokevirtual 60, 3) := by decide +kernel
theorem d_T_classOf_9 : decode c_T_classOf 9 = .ok (.aload_n 0, 1) := by decide +kernel
theorem d_T_classOf_10 : decode c_T_classOf 10 = .ok (.iload_n 1, 1) := by decide +kernel
theorem d_T_classOf_11 : decode c_T_classOf 11 = .ok (.aload_n 0, 1) := by decide +kernel
theorem d_T_classOf_12 : decode c_T_classOf 12 = .ok (.getfield 23, 3) := by decide +kernel
theorem d_T_classOf_15 : decode c_T_classOf 15 = .ok (.aload_n 0, 1) := by decide +kernel
theorem d_T_classOf_16 : decode c_T_classOf 16 = .ok (.getfield 9, 3) := by decide +kernel
theorem d_T_classOf_19 : decode c_T_classOf 19 = .ok (.iload_n 2, 1) := by decide +kernel
theorem d_T_classOf_20 : decode c_T_classOf 20 = .ok (.iaload, 1) := by decide +kernel
theorem d_T_classOf_21 : decode c_T_classOf 21 = .ok (.invokevirtual 87, 3) := by decide +kernel
theorem d_T_classOf_24 : decode c_T_classOf 24 = .ok (.invokevirtual 43, 3) := by decide +kernel
theorem d_T_classOf_27 : decode c_T_classOf 27 = .ok (.return_, 1) := by decide +kernel
theorem d_T_setClass_0 : decode c_T_setClass 0 = .ok (.aload_n 0, 1) := by decide +kernel
theorem d_T_setClass_1 : decode c_T_setClass 1 = .ok (.iload_n 1, 1) := by decide +kernel
theorem d_T_setClass_2 : decode c_T_setClass 2 = .ok (.invokevirtual 60, 3) := by decide +kernel
theorem d_T_setClass_5 : decode c_T_setClass 5 = .ok (.iload_n 2, 1) := by decide +kernel
theorem d_T_setClass_6 : decode c_T_setClass 6 = .ok (.invokestatic 27, 3) := by decide +kernel
theorem d_T_setClass_9 : decode c_T_setClass 9 = .ok (.aload_n 0, 1) := by decide +kernel
theorem d_T_setClass_10 : decode c_T_setClass 10 = .ok (.getfield 23, 3) := by decide +kernel
theorem d_T_setClass_13 : decode c_T_setClass 13 = .ok (.aload_n 0, 1) := by decide +kernel
theorem d_T_setClass_14 : decode c_T_setClass 14 = .ok (.getfield 9, 3) := by decide +kernel
theorem d_T_setClass_17 : decode c_T_setClass 17 = .ok (.iload_n 1, 1) := by decide +kernel
theorem d_T_setClass_18 : decode c_T_setClass 18 = .ok (.iaload, 1) := by decide +kernel
theorem d_T_setClass_19 : decode c_T_setClass 19 = .ok (.aload_n 0, 1) := by decide +kernel
theorem d_T_setClass_20 : decode c_T_setClass 20 = .ok (.getfield 9, 3) := by decide +kernel
theorem d_T_setClass_23 : decode c_T_setClass 23 = .ok (.iload_n 2, 1) := by decide +kernel
theorem d_T_setClass_24 : decode c_T_setClass 24 = .ok (.iaload, 1) := by decide +kernel
theorem d_T_setClass_25 : decode c_T_setClass 25 = .ok (.invokevirtual 90, 3) := by decide +kernel
theorem d_T_setClass_28 : decode c_T_setClass 28 = .ok (.return_, 1) := by decide +kernel
theorem d_T_byteAt_0 : decode c_T_byteAt 0 = .ok (.aload_n 0, 1) := by decide +kernel
theorem d_T_byteAt_1 : decode c_T_byteAt 1 = .ok (.iload_n 1, 1) := by decide +kernel
theorem d_T_byteAt_2 : decode c_T_byteAt 2 = .ok (.invokevirtual 93, 3) := by decide +kernel
theorem d_T_byteAt_5 : decode c_T_byteAt 5 = .ok (.aload_n 0, 1) := by decide +kernel
theorem d_T_byteAt_6 : decode c_T_byteAt 6 = .ok (.iload_n 1, 1) := by decide +kernel
theorem d_T_byteAt_7 : decode c_T_byteAt 7 = .ok (.iload_n 2, 1) := by decide +kernel
theorem d_T_byteAt_8 : decode c_T_byteAt 8 = .ok (.invokevirtual 73, 3) := by decide +kernel
theorem d_T_byteAt_11 : decode c_T_byteAt 11 = .ok (.aload_n 0, 1) := by decide +kernel
theorem d_T_byteAt_12 : decode c_T_byteAt 12 = .ok (.getfield 23, 3) := by decide +kernel
theorem d_T_byteAt_15 : decode c_T_byteAt 15 = .ok (.aload_n 0, 1) := by decide +kernel
theorem d_T_byteAt_16 : decode c_T_byteAt 16 = .ok (.getfield 9, 3) := by decide +kernel
theorem d_T_byteAt_19 : decode c_T_byteAt 19 = .ok (.iload_n 1, 1) := by decide +kernel
theorem d_T_byteAt_20 : decode c_T_byteAt 20 = .ok (.iaload, 1) := by decide +kernel
theorem d_T_byteAt_21 : decode c_T_byteAt 21 = .ok (.iload_n 2, 1) := by decide +kernel
theorem d_T_byteAt_22 : decode c_T_byteAt 22 = .ok (.invokevirtual 96, 3) := by decide +kernel
theorem d_T_byteAt_25 : decode c_T_byteAt 25 = .ok (.ireturn, 1) := by decide +kernel
theorem d_T_bytePut_0 : decode c_T_bytePut 0 = .ok (.aload_n 0, 1) := by decide +kernel
theorem d_T_bytePut_1 : decode c_T_bytePut 1 = .ok (.iload_n 1, 1) := by decide +kernel
theorem d_T_bytePut_2 : decode c_T_bytePut 2 = .ok (.invokevirtual 93, 3) := by decide +kernel
theorem d_T_bytePut_5 : decode c_T_bytePut 5 = .ok (.aload_n 0, 1) := by decide +kernel
theorem d_T_bytePut_6 : decode c_T_bytePut 6 = .ok (.iload_n 1, 1) := by decide +kernel
theorem d_T_bytePut_7 : decode c_T_bytePut 7 = .ok (.iload_n 2, 1) := by decide +kernel
theorem d_T_bytePut_8 : decode c_T_bytePut 8 = .ok (.invokevirtual 73, 3) := by decide +kernel
theorem d_T_bytePut_11 : decode c_T_bytePut 11 = .ok (.aload_n 0, 1) := by decide +kernel
theorem d_T_bytePut_12 : decode c_T_bytePut 12 = .ok (.getfield 9, 3) := by decide +kernel
theorem d_T_bytePut_15 : decode c_T_bytePut 15 = .ok (.iload_n 1, 1) := by decide +kernel
theorem d_T_bytePut_16 : decode c_T_bytePut 16 = .ok (.iaload, 1) := by decide +kernel
theorem d_T_bytePut_17 : decode c_T_bytePut 17 = .ok (.istore 5, 2) := by decide +kernel
theorem d_T_bytePut_19 : decode c_T_bytePut 19 = .ok (.bipush 8, 2) := by decide +kernel
theorem d_T_bytePut_21 : decode c_T_bytePut 21 = .ok (.aload_n 0, 1) := by decide +kernel
theorem d_T_bytePut_22 : decode c_T_bytePut 22 = .ok (.getfield 23, 3) := by decide +kernel
theorem d_T_bytePut_25 : decode c_T_bytePut 25 = .ok (.iload 5, 2) := by decide +kernel
theorem d_T_bytePut_27 : decode c_T_bytePut 27 = .ok (.invokevirtual 84, 3) := by decide +kernel
theorem d_T_bytePut_30 : decode c_T_bytePut 30 = .ok (.iload_n 2, 1) := by decide +kernel
theorem d_T_bytePut_31 : decode c_T_bytePut 31 = .ok (.isub, 1) := by decide +kernel
theorem d_T_bytePut_32 : decode c_T_bytePut 32 = .ok (.invokestatic 99, 3) := by decide +kernel
theorem d_T_bytePut_35 : decode c_T_bytePut 35 = .ok (.istore 6, 2) := by decide +kernel
theorem d_T_bytePut_37 : decode c_T_bytePut 37 = .ok (.iconst 0, 1) := by decide +kernel
theorem d_T_bytePut_38 : decode c_T_bytePut 38 = .ok (.istore 7, 2) := by decide +kernel
theorem d_T_bytePut_40 : decode c_T_bytePut 40 = .ok (.iload 7, 2) := by decide +kernel
theorem d_T_bytePut_42 : decode c_T_bytePut 42 = .ok (.iload 6, 2) := by decide +kernel
theorem d_T_bytePut_44 : decode c_T_bytePut 44 = .ok (.if_icmp .ge 41, 3) := by decide +kernel
theorem d_T_bytePut_47 : decode c_T_bytePut 47 = .ok (.bipush 8, 2) := by decide +kernel
theorem d_T_bytePut_49 : decode c_T_bytePut 49 = .ok (.bipush 7, 2) := by decide +kernel
theorem d_T_bytePut_51 : decode c_T_bytePut 51 = .ok (.iload 7, 2) := by decide +kernel
theorem d_T_bytePut_53 : decode c_T_bytePut 53 = .ok (.isub, 1) := by decide +kernel
theorem d_T_bytePut_54 : decode c_T_bytePut 54 = .ok (.imul, 1) := by decide +kernel
theorem d_T_bytePut_55 : decode c_T_bytePut 55 = .ok (.istore 8, 2) := by decide +kernel
theorem d_T_bytePut_57 : decode c_T_bytePut 57 = .ok (.aload_n 0, 1) := by decide +kernel
theorem d_T_bytePut_58 : decode c_T_bytePut 58 = .ok (.getfield 23, 3) := by decide +kernel
theorem d_T_bytePut_61 : decode c_T_bytePut 61 = .ok (.iload 5, 2) := by decide +kernel
theorem d_T_bytePut_63 : decode c_T_bytePut 63 = .ok (.iload_n 2, 1) := by decide +kernel
theorem d_T_bytePut_64 : decode c_T_bytePut 64 = .ok (.iload 7, 2) := by decide +kernel
theorem d_T_bytePut_66 : decode c_T_bytePut 66 = .ok (.iadd, 1) := by decide +kernel
theorem d_T_bytePut_67 : decode c_T_bytePut 67 = .ok (.lload_n 3, 1) := by decide +kernel
theorem d_T_bytePut_68 : decode c_T_bytePut 68 = .ok (.iload 8, 2) := by decide +kernel
theorem d_T_bytePut_70 : decode c_T_bytePut 70 = .ok (.lushr, 1) := by decide +kernel
theorem d_T_bytePut_71 : decode c_T_bytePut 71 = .ok (.l2i, 1) := by decide +kernel
theorem d_T_bytePut_72 : decode c_T_bytePut 72 = .ok (.sipush 255, 3) := by decide +kernel
theorem d_T_bytePut_75 : decode c_T_bytePut 75 = .ok (.iand, 1) := by decide +kernel
theorem d_T_bytePut_76 : decode c_T_bytePut 76 = .ok (.invokevirtual 104, 3) := by decide +kernel
theorem d_T_bytePut_79 : decode c_T_bytePut 79 = .ok (.iinc 7 1, 3) := by decide +kernel
theorem d_T_bytePut_82 : decode c_T_bytePut 82 = .ok (.goto (-42), 3) := by decide +kernel
theorem d_T_bytePut_85 : decode c_T_bytePut 85 = .ok (.return_, 1) := by decide +kernel
theorem d_T_kind_0 : decode c_T_kind 0 = .ok (.iload_n 1, 1) := by decide +kernel
theorem d_T_kind_1 : decode c_T_kind 1 = .ok (.invokestatic 27, 3) := by decide +kernel
theorem d_T_kind_4 : decode c_T_kind 4 = .ok (.aload_n 0, 1) := by decide +kernel
theorem d_T_kind_5 : decode c_T_kind 5 = .ok (.getfield 9, 3) := by decide +kernel
theorem d_T_kind_8 : decode c_T_kind 8 = .ok (.iload_n 1, 1) := by decide +kernel
theorem d_T_kind_9 : decode c_T_kind 9 = .ok (.iaload, 1) := by decide +kernel
theorem d_T_kind_10 : decode c_T_kind 10 = .ok (.istore_n 2, 1) := by decide +kernel
theorem d_T_kind_11 : decode c_T_kind 11 = .ok (.iload_n 2, 1) := by decide +kernel
theorem d_T_kind_12 : decode c_T_kind 12 = .ok (.ifCond .ne 5, 3) := by decide +kernel
theorem d_T_kind_15 : decode c_T_kind 15 = .ok (.iconst 0, 1) := by decide +kernel
theorem d_T_kind_16 : decode c_T_kind 16 = .ok (.ireturn, 1) := by decide +kernel
theorem d_T_kind_17 : decode c_T_kind 17 = .ok (.iload_n 2, 1) := by decide +kernel
theorem d_T_kind_18 : decode c_T_kind 18 = .ok (.invokestatic 107, 3) := by decide +kernel
theorem d_T_kind_21 : decode c_T_kind 21 = .ok (.ifCond .eq 5, 3) := by decide +kernel
theorem d_T_kind_24 : decode c_T_kind 24 = .ok (.iconst 1, 1) := by decide +kernel
theorem d_T_kind_25 : decode c_T_kind 25 = .ok (.ireturn, 1) := by decide +kernel
theorem d_T_kind_26 : decode c_T_kind 26 = .ok (.aload_n 0, 1) := by decide +kernel
theorem d_T_kind_27 : decode c_T_kind 27 = .ok (.getfield 23, 3) := by decide +kernel
theorem d_T_kind_30 : decode c_T_kind 30 = .ok (.iload_n 2, 1) := by decide +kernel
theorem d_T_kind_31 : decode c_T_kind 31 = .ok (.invokevirtual 80, 3) := by decide +kernel
theorem d_T_kind_34 : decode c_T_kind 34 = .ok (.ifCond .eq 7, 3) := by decide +kernel
theorem d_T_kind_37 : decode c_T_kind 37 = .ok (.iconst 2, 1) := by decide +kernel
theorem d_T_kind_38 : decode c_T_kind 38 = .ok (.goto 4, 3) := by decide +kernel
theorem d_T_kind_41 : decode c_T_kind 41 = .ok (.iconst 3, 1) := by decide +kernel
theorem d_T_kind_42 : decode c_T_kind 42 = .ok (.ireturn, 1) := by decide +kernel
theorem d_T_value_0 : decode c_T_value 0 = .ok (.iload_n 1, 1) := by decide +kernel
theorem d_T_value_1 : decode c_T_value 1 = .ok (.invokestatic 27, 3) := by decide +kernel
theorem d_T_value_4 : decode c_T_value 4 = .ok (.aload_n 0, 1) := by decide +kernel
theorem d_T_value_5 : decode c_T_value 5 = .ok (.getfield 9, 3) := by decide +kernel
theorem d_T_value_8 : decode c_T_value 8 = .ok (.iload_n 1, 1) := by decide +kernel
theorem d_T_value_9 : decode c_T_value 9 = .ok (.iaload, 1) := by decide +kernel
theorem d_T_value_10 : decode c_T_value 10 = .ok (.istore_n 2, 1) := by decide +kernel
theorem d_T_value_11 : decode c_T_value 11 = .ok (.iload_n 2, 1) := by decide +kernel
theorem d_T_value_12 : decode c_T_value 12 = .ok (.ifCond .ne 5, 3) := by decide +kernel
theorem d_T_value_15 : decode c_T_value 15 = .ok (.iconst 0, 1) := by decide +kernel
theorem d_T_value_16 : decode c_T_value 16 = .ok (.ireturn, 1) := by decide +kernel
theorem d_T_value_17 : decode c_T_value 17 = .ok (.iload_n 2, 1) := by decide +kernel
theorem d_T_value_18 : decode c_T_value 18 = .ok (.invokestatic 107, 3) := by decide +kernel
theorem d_T_value_21 : decode c_T_value 21 = .ok (.ifCond .eq 10, 3) := by decide +kernel
theorem d_T_value_24 : decode c_T_value 24 = .ok (.iload_n 2, 1) := by decide +kernel
theorem d_T_value_25 : decode c_T_value 25 = .ok (.invokestatic 110, 3) := by decide +kernel
theorem d_T_value_28 : decode c_T_value 28 = .ok (.goto 11, 3) := by decide +kernel
theorem d_T_value_31 : decode c_T_value 31 = .ok (.aload_n 0, 1) := by decide +kernel
theorem d_T_value_32 : decode c_T_value 32 = .ok (.getfield 23, 3) := by decide +kernel
theorem d_T_value_35 : decode c_T_value 35 = .ok (.iload_n 2, 1) := by decide +kernel
theorem d_T_value_36 : decode c_T_value 36 = .ok (.invokevirtual 57, 3) := by decide +kernel
theorem d_T_value_39 : decode c_T_value 39 = .ok (.ireturn, 1) := by decide +kernel
theorem d_T_size_0 : decode c_T_size 0 = .ok (.iload_n 1, 1) := by decide +kernel
theorem d_T_size_1 : decode c_T_size 1 = .ok (.invokestatic 27, 3) := by decide +kernel
theorem d_T_size_4 : decode c_T_size 4 = .ok (.aload_n 0, 1) := by decide +kernel
theorem d_T_size_5 : decode c_T_size 5 = .ok (.getfield 9, 3) := by decide +kernel
theorem d_T_size_8 : decode c_T_size 8 = .ok (.iload_n 1, 1) := by decide +kernel
theorem d_T_size_9 : decode c_T_size 9 = .ok (.iaload, 1) := by decide +kernel
theorem d_T_size_10 : decode c_T_size 10 = .ok (.invokestatic 113, 3) := by decide +kernel
theorem d_T_size_13 : decode c_T_size 13 = .ok (.ifCond .eq 19, 3) := by decide +kernel
theorem d_T_size_16 : decode c_T_size 16 = .ok (.aload_n 0, 1) := by decide +kernel
theorem d_T_size_17 : decode c_T_size 17 = .ok (.getfield 23, 3) := by decide +kernel
theorem d_T_size_20 : decode c_T_size 20 = .ok (.aload_n 0, 1) := by decide +kernel
theorem d_T_size_21 : decode c_T_size 21 = .ok (.getfield 9, 3) := by decide +kernel
theorem d_T_size_24 : decode c_T_size 24 = .ok (.iload_n 1, 1) := by decide +kernel
theorem d_T_size_25 : decode c_T_size 25 = .ok (.iaload, 1) := by decide +kernel
theorem d_T_size_26 : decode c_T_size 26 = .ok (.invokevirtual 84, 3) := by decide +kernel
theorem d_T_size_29 : decode c_T_size 29 = .ok (.goto 4, 3) := by decide +kernel
theorem d_T_size_32 : decode c_T_size 32 = .ok (.iconst 0, 1) := by decide +kernel
theorem d_T_size_33 : decode c_T_size 33 = .ok (.ireturn, 1) := by decide +kernel
theorem d_T_become_0 : decode c_T_become 0 = .ok (.aload_n 0, 1) := by decide +kernel
theorem d_T_become_1 : decode c_T_become 1 = .ok (.iload_n 1, 1) := by decide +kernel
theorem d_T_become_2 : decode c_T_become 2 = .ok (.invokevirtual 60, 3) := by decide +kernel
theorem d_T_become_5 : decode c_T_become 5 = .ok (.aload_n 0, 1) := by decide +kernel
theorem d_T_become_6 : decode c_T_become 6 = .ok (.iload_n 2, 1) := by decide +kernel
theorem d_T_become_7 : decode c_T_become 7 = .ok (.invokevirtual 60, 3) := by decide +kernel
theorem d_T_become_10 : decode c_T_become 10 = .ok (.aload_n 0, 1) := by decide +kernel
theorem d_T_become_11 : decode c_T_become 11 = .ok (.getfield 23, 3) := by decide +kernel
theorem d_T_become_14 : decode c_T_become 14 = .ok (.aload_n 0, 1) := by decide +kernel
theorem d_T_become_15 : decode c_T_become 15 = .ok (.getfield 9, 3) := by decide +kernel
theorem d_T_become_18 : decode c_T_become 18 = .ok (.iload_n 1, 1) := by decide +kernel
theorem d_T_become_19 : decode c_T_become 19 = .ok (.iaload, 1) := by decide +kernel
theorem d_T_become_20 : decode c_T_become 20 = .ok (.aload_n 0, 1) := by decide +kernel
theorem d_T_become_21 : decode c_T_become 21 = .ok (.getfield 9, 3) := by decide +kernel
theorem d_T_become_24 : decode c_T_become 24 = .ok (.iload_n 2, 1) := by decide +kernel
theorem d_T_become_25 : decode c_T_become 25 = .ok (.iaload, 1) := by decide +kernel
theorem d_T_become_26 : decode c_T_become 26 = .ok (.invokevirtual 116, 3) := by decide +kernel
theorem d_T_become_29 : decode c_T_become 29 = .ok (.return_, 1) := by decide +kernel
theorem d_T_words_0 : decode c_T_words 0 = .ok (.aload_n 0, 1) := by decide +kernel
theorem d_T_words_1 : decode c_T_words 1 = .ok (.getfield 23, 3) := by decide +kernel
theorem d_T_words_4 : decode c_T_words 4 = .ok (.aload_n 0, 1) := by decide +kernel
theorem d_T_words_5 : decode c_T_words 5 = .ok (.getfield 9, 3) := by decide +kernel
theorem d_T_words_8 : decode c_T_words 8 = .ok (.invokevirtual 119, 3) := by decide +kernel
theorem d_T_words_11 : decode c_T_words 11 = .ok (.aload_n 0, 1) := by decide +kernel
theorem d_T_words_12 : decode c_T_words 12 = .ok (.getfield 23, 3) := by decide +kernel
theorem d_T_words_15 : decode c_T_words 15 = .ok (.invokevirtual 123, 3) := by decide +kernel
theorem d_T_words_18 : decode c_T_words 18 = .ok (.ireturn, 1) := by decide +kernel
theorem d_T_entries_0 : decode c_T_entries 0 = .ok (.aload_n 0, 1) := by decide +kernel
theorem d_T_entries_1 : decode c_T_entries 1 = .ok (.getfield 23, 3) := by decide +kernel
theorem d_T_entries_4 : decode c_T_entries 4 = .ok (.aload_n 0, 1) := by decide +kernel
theorem d_T_entries_5 : decode c_T_entries 5 = .ok (.getfield 9, 3) := by decide +kernel
theorem d_T_entries_8 : decode c_T_entries 8 = .ok (.invokevirtual 119, 3) := by decide +kernel
theorem d_T_entries_11 : decode c_T_entries 11 = .ok (.aload_n 0, 1) := by decide +kernel
theorem d_T_entries_12 : decode c_T_entries 12 = .ok (.getfield 23, 3) := by decide +kernel
theorem d_T_entries_15 : decode c_T_entries 15 = .ok (.invokevirtual 127, 3) := by decide +kernel
theorem d_T_entries_18 : decode c_T_entries 18 = .ok (.ireturn, 1) := by decide +kernel
theorem d_T_instance_0 : decode c_T_instance 0 = .ok (.iload_n 1, 1) := by decide +kernel
theorem d_T_instance_1 : decode c_T_instance 1 = .ok (.invokestatic 27, 3) := by decide +kernel
theorem d_T_instance_4 : decode c_T_instance 4 = .ok (.iload_n 2, 1) := by decide +kernel
theorem d_T_instance_5 : decode c_T_instance 5 = .ok (.invokestatic 27, 3) := by decide +kernel
theorem d_T_instance_8 : decode c_T_instance 8 = .ok (.iload_n 3, 1) := by decide +kernel
theorem d_T_instance_9 : decode c_T_instance 9 = .ok (.iconst 0, 1) := by decide +kernel
theorem d_T_instance_10 : decode c_T_instance 10 = .ok (.ldc 132, 2) := by decide +kernel
theorem d_T_instance_12 : decode c_T_instance 12 = .ok (.invokestatic 33, 3) := by decide +kernel
theorem d_T_instance_15 : decode c_T_instance 15 = .ok (.aload_n 0, 1) := by decide +kernel
theorem d_T_instance_16 : decode c_T_instance 16 = .ok (.getfield 23, 3) := by decide +kernel
theorem d_T_instance_19 : decode c_T_instance 19 = .ok (.aload_n 0, 1) := by decide +kernel
theorem d_T_instance_20 : decode c_T_instance 20 = .ok (.getfield 9, 3) := by decide +kernel
theorem d_T_instance_23 : decode c_T_instance 23 = .ok (.invokevirtual 119, 3) := by decide +kernel
theorem d_T_instance_26 : decode c_T_instance 26 = .ok (.aload_n 0, 1) := by decide +kernel
theorem d_T_instance_27 : decode c_T_instance 27 = .ok (.getfield 23, 3) := by decide +kernel
theorem d_T_instance_30 : decode c_T_instance 30 = .ok (.aload_n 0, 1) := by decide +kernel
theorem d_T_instance_31 : decode c_T_instance 31 = .ok (.getfield 9, 3) := by decide +kernel
theorem d_T_instance_34 : decode c_T_instance 34 = .ok (.iload_n 2, 1) := by decide +kernel
theorem d_T_instance_35 : decode c_T_instance 35 = .ok (.iaload, 1) := by decide +kernel
theorem d_T_instance_36 : decode c_T_instance 36 = .ok (.iload_n 3, 1) := by decide +kernel
theorem d_T_instance_37 : decode c_T_instance 37 = .ok (.invokevirtual 133, 3) := by decide +kernel
theorem d_T_instance_40 : decode c_T_instance 40 = .ok (.istore 4, 2) := by decide +kernel
theorem d_T_instance_42 : decode c_T_instance 42 = .ok (.iload 4, 2) := by decide +kernel
theorem d_T_instance_44 : decode c_T_instance 44 = .ok (.ifCond .ne 5, 3) := by decide +kernel
theorem d_T_instance_47 : decode c_T_instance 47 = .ok (.iconst 0, 1) := by decide +kernel
theorem d_T_instance_48 : decode c_T_instance 48 = .ok (.ireturn, 1) := by decide +kernel
theorem d_T_instance_49 : decode c_T_instance 49 = .ok (.aload_n 0, 1) := by decide +kernel
theorem d_T_instance_50 : decode c_T_instance 50 = .ok (.iload_n 1, 1) := by decide +kernel
theorem d_T_instance_51 : decode c_T_instance 51 = .ok (.iload 4, 2) := by decide +kernel
theorem d_T_instance_53 : decode c_T_instance 53 = .ok (.invokevirtual 43, 3) := by decide +kernel
theorem d_T_instance_56 : decode c_T_instance 56 = .ok (.aload_n 0, 1) := by decide +kernel
theorem d_T_instance_57 : decode c_T_instance 57 = .ok (.getfield 23, 3) := by decide +kernel
theorem d_T_instance_60 : decode c_T_instance 60 = .ok (.iload 4, 2) := by decide +kernel
theorem d_T_instance_62 : decode c_T_instance 62 = .ok (.invokevirtual 57, 3) := by decide +kernel
theorem d_T_instance_65 : decode c_T_instance 65 = .ok (.ireturn, 1) := by decide +kernel
theorem d_T_owners_0 : decode c_T_owners 0 = .ok (.iload_n 1, 1) := by decide +kernel
theorem d_T_owners_1 : decode c_T_owners 1 = .ok (.invokestatic 27, 3) := by decide +kernel
theorem d_T_owners_4 : decode c_T_owners 4 = .ok (.aload_n 0, 1) := by decide +kernel
theorem d_T_owners_5 : decode c_T_owners 5 = .ok (.getfield 9, 3) := by decide +kernel
theorem d_T_owners_8 : decode c_T_owners 8 = .ok (.iload_n 1, 1) := by decide +kernel
theorem d_T_owners_9 : decode c_T_owners 9 = .ok (.iaload, 1) := by decide +kernel
theorem d_T_owners_10 : decode c_T_owners 10 = .ok (.istore_n 2, 1) := by decide +kernel
theorem d_T_owners_11 : decode c_T_owners 11 = .ok (.aload_n 0, 1) := by decide +kernel
theorem d_T_owners_12 : decode c_T_owners 12 = .ok (.getfield 23, 3) := by decide +kernel
theorem d_T_owners_15 : decode c_T_owners 15 = .ok (.aload_n 0, 1) := by decide +kernel
theorem d_T_owners_16 : decode c_T_owners 16 = .ok (.getfield 9, 3) := by decide +kernel
theorem d_T_owners_19 : decode c_T_owners 19 = .ok (.invokevirtual 119, 3) := by decide +kernel
theorem d_T_owners_22 : decode c_T_owners 22 = .ok (.aload_n 0, 1) := by decide +kernel
theorem d_T_owners_23 : decode c_T_owners 23 = .ok (.getfield 23, 3) := by decide +kernel
theorem d_T_owners_26 : decode c_T_owners 26 = .ok (.iload_n 2, 1) := by decide +kernel
theorem d_T_owners_27 : decode c_T_owners 27 = .ok (.invokevirtual 136, 3) := by decide +kernel
theorem d_T_owners_30 : decode c_T_owners 30 = .ok (.istore_n 3, 1) := by decide +kernel
theorem d_T_owners_31 : decode c_T_owners 31 = .ok (.aload_n 0, 1) := by decide +kernel
theorem d_T_owners_32 : decode c_T_owners 32 = .ok (.getfield 9, 3) := by decide +kernel
theorem d_T_owners_35 : decode c_T_owners 35 = .ok (.astore 4, 2) := by decide +kernel
theorem d_T_owners_37 : decode c_T_owners 37 = .ok (.aload 4, 2) := by decide +kernel
theorem d_T_owners_39 : decode c_T_owners 39 = .ok (.arraylength, 1) := by decide +kernel
theorem d_T_owners_40 : decode c_T_owners 40 = .ok (.istore 5, 2) := by decide +kernel
theorem d_T_owners_42 : decode c_T_owners 42 = .ok (.iconst 0, 1) := by decide +kernel
theorem d_T_owners_43 : decode c_T_owners 43 = .ok (.istore 6, 2) := by decide +kernel
theorem d_T_owners_45 : decode c_T_owners 45 = .ok (.iload 6, 2) := by decide +kernel
theorem d_T_owners_47 : decode c_T_owners 47 = .ok (.iload 5, 2) := by decide +kernel
theorem d_T_owners_49 : decode c_T_owners 49 = .ok (.if_icmp .ge 25, 3) := by decide +kernel
theorem d_T_owners_52 : decode c_T_owners 52 = .ok (.aload 4, 2) := by decide +kernel
theorem d_T_owners_54 : decode c_T_owners 54 = .ok (.iload 6, 2) := by decide +kernel
theorem d_T_owners_56 : decode c_T_owners 56 = .ok (.iaload, 1) := by decide +kernel
theorem d_T_owners_57 : decode c_T_owners 57 = .ok (.istore 7, 2) := by decide +kernel
theorem d_T_owners_59 : decode c_T_owners 59 = .ok (.iload 7, 2) := by decide +kernel
theorem d_T_owners_61 : decode c_T_owners 61 = .ok (.iload_n 2, 1) := by decide +kernel
theorem d_T_owners_62 : decode c_T_owners 62 = .ok (.if_icmp .ne 6, 3) := by decide +kernel
theorem d_T_owners_65 : decode c_T_owners 65 = .ok (.iinc 3 1, 3) := by decide +kernel
theorem d_T_owners_68 : decode c_T_owners 68 = .ok (.iinc 6 1, 3) := by decide +kernel
theorem d_T_owners_71 : decode c_T_owners 71 = .ok (.goto (-26), 3) := by decide +kernel
theorem d_T_owners_74 : decode c_T_owners 74 = .ok (.iload_n 3, 1) := by decide +kernel
theorem d_T_owners_75 : decode c_T_owners 75 = .ok (.ireturn, 1) := by decide +kernel
theorem d_T_reaches_0 : decode c_T_reaches 0 = .ok (.aload_n 0, 1) := by decide +kernel
theorem d_T_reaches_1 : decode c_T_reaches 1 = .ok (.iload_n 1, 1) := by decide +kernel
theorem d_T_reaches_2 : decode c_T_reaches 2 = .ok (.invokevirtual 60, 3) := by decide +kernel
theorem d_T_reaches_5 : decode c_T_reaches 5 = .ok (.aload_n 0, 1) := by decide +kernel
theorem d_T_reaches_6 : decode c_T_reaches 6 = .ok (.iload_n 2, 1) := by decide +kernel
theorem d_T_reaches_7 : decode c_T_reaches 7 = .ok (.invokevirtual 60, 3) := by decide +kernel
theorem d_T_reaches_10 : decode c_T_reaches 10 = .ok (.aload_n 0, 1) := by decide +kernel
theorem d_T_reaches_11 : decode c_T_reaches 11 = .ok (.getfield 23, 3) := by decide +kernel
theorem d_T_reaches_14 : decode c_T_reaches 14 = .ok (.aload_n 0, 1) := by decide +kernel
theorem d_T_reaches_15 : decode c_T_reaches 15 = .ok (.getfield 9, 3) := by decide +kernel
theorem d_T_reaches_18 : decode c_T_reaches 18 = .ok (.iload_n 1, 1) := by decide +kernel
theorem d_T_reaches_19 : decode c_T_reaches 19 = .ok (.iaload, 1) := by decide +kernel
theorem d_T_reaches_20 : decode c_T_reaches 20 = .ok (.aload_n 0, 1) := by decide +kernel
theorem d_T_reaches_21 : decode c_T_reaches 21 = .ok (.getfield 9, 3) := by decide +kernel
theorem d_T_reaches_24 : decode c_T_reaches 24 = .ok (.iload_n 2, 1) := by decide +kernel
theorem d_T_reaches_25 : decode c_T_reaches 25 = .ok (.iaload, 1) := by decide +kernel
theorem d_T_reaches_26 : decode c_T_reaches 26 = .ok (.invokevirtual 139, 3) := by decide +kernel
theorem d_T_reaches_29 : decode c_T_reaches 29 = .ok (.ireturn, 1) := by decide +kernel
theorem d_T_sum_0 : decode c_T_sum 0 = .ok (.iload_n 1, 1) := by decide +kernel
theorem d_T_sum_1 : decode c_T_sum 1 = .ok (.invokestatic 27, 3) := by decide +kernel
theorem d_T_sum_4 : decode c_T_sum 4 = .ok (.aload_n 0, 1) := by decide +kernel
theorem d_T_sum_5 : decode c_T_sum 5 = .ok (.getfield 9, 3) := by decide +kernel
theorem d_T_sum_8 : decode c_T_sum 8 = .ok (.iload_n 1, 1) := by decide +kernel
theorem d_T_sum_9 : decode c_T_sum 9 = .ok (.iaload, 1) := by decide +kernel
theorem d_T_sum_10 : decode c_T_sum 10 = .ok (.istore_n 2, 1) := by decide +kernel
theorem d_T_sum_11 : decode c_T_sum 11 = .ok (.aload_n 0, 1) := by decide +kernel
theorem d_T_sum_12 : decode c_T_sum 12 = .ok (.getfield 23, 3) := by decide +kernel
theorem d_T_sum_15 : decode c_T_sum 15 = .ok (.iload_n 2, 1) := by decide +kernel
theorem d_T_sum_16 : decode c_T_sum 16 = .ok (.invokevirtual 143, 3) := by decide +kernel
theorem d_T_sum_19 : decode c_T_sum 19 = .ok (.ifCond .ne 5, 3) := by decide +kernel
theorem d_T_sum_22 : decode c_T_sum 22 = .ok (.iconst 0, 1) := by decide +kernel
theorem d_T_sum_23 : decode c_T_sum 23 = .ok (.ireturn, 1) := by decide +kernel
theorem d_T_sum_24 : decode c_T_sum 24 = .ok (.bipush 7, 2) := by decide +kernel
theorem d_T_sum_26 : decode c_T_sum 26 = .ok (.istore_n 3, 1) := by decide +kernel
theorem d_T_sum_27 : decode c_T_sum 27 = .ok (.aload_n 0, 1) := by decide +kernel
theorem d_T_sum_28 : decode c_T_sum 28 = .ok (.getfield 23, 3) := by decide +kernel
theorem d_T_sum_31 : decode c_T_sum 31 = .ok (.iload_n 2, 1) := by decide +kernel
theorem d_T_sum_32 : decode c_T_sum 32 = .ok (.invokevirtual 84, 3) := by decide +kernel
theorem d_T_sum_35 : decode c_T_sum 35 = .ok (.istore 4, 2) := by decide +kernel
theorem d_T_sum_37 : decode c_T_sum 37 = .ok (.iconst 0, 1) := by decide +kernel
theorem d_T_sum_38 : decode c_T_sum 38 = .ok (.istore 5, 2) := by decide +kernel
theorem d_T_sum_40 : decode c_T_sum 40 = .ok (.iload 5, 2) := by decide +kernel
theorem d_T_sum_42 : decode c_T_sum 42 = .ok (.iload 4, 2) := by decide +kernel
theorem d_T_sum_44 : decode c_T_sum 44 = .ok (.if_icmp .ge 25, 3) := by decide +kernel
theorem d_T_sum_47 : decode c_T_sum 47 = .ok (.bipush 31, 2) := by decide +kernel
theorem d_T_sum_49 : decode c_T_sum 49 = .ok (.iload_n 3, 1) := by decide +kernel
theorem d_T_sum_50 : decode c_T_sum 50 = .ok (.imul, 1) := by decide +kernel
theorem d_T_sum_51 : decode c_T_sum 51 = .ok (.aload_n 0, 1) := by decide +kernel
theorem d_T_sum_52 : decode c_T_sum 52 = .ok (.getfield 23, 3) := by decide +kernel
theorem d_T_sum_55 : decode c_T_sum 55 = .ok (.iload_n 2, 1) := by decide +kernel
theorem d_T_sum_56 : decode c_T_sum 56 = .ok (.iload 5, 2) := by decide +kernel
theorem d_T_sum_58 : decode c_T_sum 58 = .ok (.invokevirtual 96, 3) := by decide +kernel
theorem d_T_sum_61 : decode c_T_sum 61 = .ok (.iadd, 1) := by decide +kernel
theorem d_T_sum_62 : decode c_T_sum 62 = .ok (.istore_n 3, 1) := by decide +kernel
theorem d_T_sum_63 : decode c_T_sum 63 = .ok (.iinc 5 1, 3) := by decide +kernel
theorem d_T_sum_66 : decode c_T_sum 66 = .ok (.goto (-26), 3) := by decide +kernel
theorem d_T_sum_69 : decode c_T_sum 69 = .ok (.iload_n 3, 1) := by decide +kernel
theorem d_T_sum_70 : decode c_T_sum 70 = .ok (.ireturn, 1) := by decide +kernel
theorem d_T_setRegister_0 : decode c_T_setRegister 0 = .ok (.aload_n 0, 1) := by decide +kernel
theorem d_T_setRegister_1 : decode c_T_setRegister 1 = .ok (.getfield 23, 3) := by decide +kernel
theorem d_T_setRegister_4 : decode c_T_setRegister 4 = .ok (.aload_n 0, 1) := by decide +kernel
theorem d_T_setRegister_5 : decode c_T_setRegister 5 = .ok (.getfield 9, 3) := by decide +kernel
theorem d_T_setRegister_8 : decode c_T_setRegister 8 = .ok (.iload_n 1, 1) := by decide +kernel
theorem d_T_setRegister_9 : decode c_T_setRegister 9 = .ok (.iaload, 1) := by decide +kernel
theorem d_T_setRegister_10 : decode c_T_setRegister 10 = .ok (.invokevirtual 146, 3) := by decide +kernel
theorem d_T_setRegister_13 : decode c_T_setRegister 13 = .ok (.aload_n 0, 1) := by decide +kernel
theorem d_T_setRegister_14 : decode c_T_setRegister 14 = .ok (.getfield 9, 3) := by decide +kernel
theorem d_T_setRegister_17 : decode c_T_setRegister 17 = .ok (.iload_n 1, 1) := by decide +kernel
theorem d_T_setRegister_18 : decode c_T_setRegister 18 = .ok (.iload_n 2, 1) := by decide +kernel
theorem d_T_setRegister_19 : decode c_T_setRegister 19 = .ok (.iastore, 1) := by decide +kernel
theorem d_T_setRegister_20 : decode c_T_setRegister 20 = .ok (.return_, 1) := by decide +kernel
theorem d_T_isBetween_0 : decode c_T_isBetween 0 = .ok (.iload_n 0, 1) := by decide +kernel
theorem d_T_isBetween_1 : decode c_T_isBetween 1 = .ok (.iload_n 1, 1) := by decide +kernel
theorem d_T_isBetween_2 : decode c_T_isBetween 2 = .ok (.if_icmp .lt 12, 3) := by decide +kernel
theorem d_T_isBetween_5 : decode c_T_isBetween 5 = .ok (.iload_n 0, 1) := by decide +kernel
theorem d_T_isBetween_6 : decode c_T_isBetween 6 = .ok (.iload_n 2, 1) := by decide +kernel
theorem d_T_isBetween_7 : decode c_T_isBetween 7 = .ok (.if_icmp .gt 7, 3) := by decide +kernel
theorem d_T_isBetween_10 : decode c_T_isBetween 10 = .ok (.iconst 1, 1) := by decide +kernel
theorem d_T_isBetween_11 : decode c_T_isBetween 11 = .ok (.goto 4, 3) := by decide +kernel
theorem d_T_isBetween_14 : decode c_T_isBetween 14 = .ok (.iconst 0, 1) := by decide +kernel
theorem d_T_isBetween_15 : decode c_T_isBetween 15 = .ok (.ireturn, 1) := by decide +kernel
theorem d_T_needBetween_0 : decode c_T_needBetween 0 = .ok (.iload_n 0, 1) := by decide +kernel
theorem d_T_needBetween_1 : decode c_T_needBetween 1 = .ok (.iload_n 1, 1) := by decide +kernel
theorem d_T_needBetween_2 : decode c_T_needBetween 2 = .ok (.iload_n 2, 1) := by decide +kernel
theorem d_T_needBetween_3 : decode c_T_needBetween 3 = .ok (.invokestatic 16, 3) := by decide +kernel
theorem d_T_needBetween_6 : decode c_T_needBetween 6 = .ok (.ifCond .ne 13, 3) := by decide +kernel
theorem d_T_needBetween_9 : decode c_T_needBetween 9 = .ok (.new 149, 3) := by decide +kernel
theorem d_T_needBetween_12 : decode c_T_needBetween 12 = .ok (.dup, 1) := by decide +kernel
theorem d_T_needBetween_13 : decode c_T_needBetween 13 = .ok (.ldc 151, 2) := by decide +kernel
theorem d_T_needBetween_15 : decode c_T_needBetween 15 = .ok (.invokespecial 153, 3) := by decide +kernel
theorem d_T_needBetween_18 : decode c_T_needBetween 18 = .ok (.athrow, 1) := by decide +kernel
theorem d_T_needBetween_19 : decode c_T_needBetween 19 = .ok (.return_, 1) := by decide +kernel
theorem d_T_needRegister_0 : decode c_T_needRegister 0 = .ok (.iload_n 0, 1) := by decide +kernel
theorem d_T_needRegister_1 : decode c_T_needRegister 1 = .ok (.iconst 0, 1) := by decide +kernel
theorem d_T_needRegister_2 : decode c_T_needRegister 2 = .ok (.bipush 31, 2) := by decide +kernel
theorem d_T_needRegister_4 : decode c_T_needRegister 4 = .ok (.invokestatic 16, 3) := by decide +kernel
theorem d_T_needRegister_7 : decode c_T_needRegister 7 = .ok (.ifCond .ne 13, 3) := by decide +kernel
theorem d_T_needRegister_10 : decode c_T_needRegister 10 = .ok (.new 149, 3) := by decide +kernel
theorem d_T_needRegister_13 : decode c_T_needRegister 13 = .ok (.dup, 1) := by decide +kernel
theorem d_T_needRegister_14 : decode c_T_needRegister 14 = .ok (.ldc 156, 2) := by decide +kernel
theorem d_T_needRegister_16 : decode c_T_needRegister 16 = .ok (.invokespecial 153, 3) := by decide +kernel
theorem d_T_needRegister_19 : decode c_T_needRegister 19 = .ok (.athrow, 1) := by decide +kernel
theorem d_T_needRegister_20 : decode c_T_needRegister 20 = .ok (.return_, 1) := by decide +kernel
theorem d_T_needObject_0 : decode c_T_needObject 0 = .ok (.iload_n 1, 1) := by decide +kernel
theorem d_T_needObject_1 : decode c_T_needObject 1 = .ok (.invokestatic 27, 3) := by decide +kernel
theorem d_T_needObject_4 : decode c_T_needObject 4 = .ok (.aload_n 0, 1) := by decide +kernel
theorem d_T_needObject_5 : decode c_T_needObject 5 = .ok (.getfield 9, 3) := by decide +kernel
theorem d_T_needObject_8 : decode c_T_needObject 8 = .ok (.iload_n 1, 1) := by decide +kernel
theorem d_T_needObject_9 : decode c_T_needObject 9 = .ok (.iaload, 1) := by decide +kernel
theorem d_T_needObject_10 : decode c_T_needObject 10 = .ok (.invokestatic 113, 3) := by decide +kernel
theorem d_T_needObject_13 : decode c_T_needObject 13 = .ok (.ifCond .ne 13, 3) := by decide +kernel
theorem d_T_needObject_16 : decode c_T_needObject 16 = .ok (.new 149, 3) := by decide +kernel
theorem d_T_needObject_19 : decode c_T_needObject 19 = .ok (.dup, 1) := by decide +kernel
theorem d_T_needObject_20 : decode c_T_needObject 20 = .ok (.ldc 158, 2) := by decide +kernel
theorem d_T_needObject_22 : decode c_T_needObject 22 = .ok (.invokespecial 153, 3) := by decide +kernel
theorem d_T_needObject_25 : decode c_T_needObject 25 = .ok (.athrow, 1) := by decide +kernel
theorem d_T_needObject_26 : decode c_T_needObject 26 = .ok (.return_, 1) := by decide +kernel
theorem d_T_needSlots_0 : decode c_T_needSlots 0 = .ok (.iload_n 1, 1) := by decide +kernel
theorem d_T_needSlots_1 : decode c_T_needSlots 1 = .ok (.invokestatic 27, 3) := by decide +kernel
theorem d_T_needSlots_4 : decode c_T_needSlots 4 = .ok (.aload_n 0, 1) := by decide +kernel
theorem d_T_needSlots_5 : decode c_T_needSlots 5 = .ok (.getfield 23, 3) := by decide +kernel
theorem d_T_needSlots_8 : decode c_T_needSlots 8 = .ok (.aload_n 0, 1) := by decide +kernel
theorem d_T_needSlots_9 : decode c_T_needSlots 9 = .ok (.getfield 9, 3) := by decide +kernel
theorem d_T_needSlots_12 : decode c_T_needSlots 12 = .ok (.iload_n 1, 1) := by decide +kernel
theorem d_T_needSlots_13 : decode c_T_needSlots 13 = .ok (.iaload, 1) := by decide +kernel
theorem d_T_needSlots_14 : decode c_T_needSlots 14 = .ok (.invokevirtual 80, 3) := by decide +kernel
theorem d_T_needSlots_17 : decode c_T_needSlots 17 = .ok (.ifCond .ne 13, 3) := by decide +kernel
theorem d_T_needSlots_20 : decode c_T_needSlots 20 = .ok (.new 149, 3) := by decide +kernel
theorem d_T_needSlots_23 : decode c_T_needSlots 23 = .ok (.dup, 1) := by decide +kernel
theorem d_T_needSlots_24 : decode c_T_needSlots 24 = .ok (.ldc 160, 2) := by decide +kernel
theorem d_T_needSlots_26 : decode c_T_needSlots 26 = .ok (.invokespecial 153, 3) := by decide +kernel
theorem d_T_needSlots_29 : decode c_T_needSlots 29 = .ok (.athrow, 1) := by decide +kernel
theorem d_T_needSlots_30 : decode c_T_needSlots 30 = .ok (.return_, 1) := by decide +kernel
theorem d_T_needBytes_0 : decode c_T_needBytes 0 = .ok (.iload_n 1, 1) := by decide +kernel
theorem d_T_needBytes_1 : decode c_T_needBytes 1 = .ok (.invokestatic 27, 3) := by decide +kernel
theorem d_T_needBytes_4 : decode c_T_needBytes 4 = .ok (.aload_n 0, 1) := by decide +kernel
theorem d_T_needBytes_5 : decode c_T_needBytes 5 = .ok (.getfield 23, 3) := by decide +kernel
theorem d_T_needBytes_8 : decode c_T_needBytes 8 = .ok (.aload_n 0, 1) := by decide +kernel
theorem d_T_needBytes_9 : decode c_T_needBytes 9 = .ok (.getfield 9, 3) := by decide +kernel
theorem d_T_needBytes_12 : decode c_T_needBytes 12 = .ok (.iload_n 1, 1) := by decide +kernel
theorem d_T_needBytes_13 : decode c_T_needBytes 13 = .ok (.iaload, 1) := by decide +kernel
theorem d_T_needBytes_14 : decode c_T_needBytes 14 = .ok (.invokevirtual 143, 3) := by decide +kernel
theorem d_T_needBytes_17 : decode c_T_needBytes 17 = .ok (.ifCond .ne 13, 3) := by decide +kernel
theorem d_T_needBytes_20 : decode c_T_needBytes 20 = .ok (.new 149, 3) := by decide +kernel
theorem d_T_needBytes_23 : decode c_T_needBytes 23 = .ok (.dup, 1) := by decide +kernel
theorem d_T_needBytes_24 : decode c_T_needBytes 24 = .ok (.ldc 162, 2) := by decide +kernel
theorem d_T_needBytes_26 : decode c_T_needBytes 26 = .ok (.invokespecial 153, 3) := by decide +kernel
theorem d_T_needBytes_29 : decode c_T_needBytes 29 = .ok (.athrow, 1) := by decide +kernel
theorem d_T_needBytes_30 : decode c_T_needBytes 30 = .ok (.return_, 1) := by decide +kernel
theorem d_T_needIndex_0 : decode c_T_needIndex 0 = .ok (.iload_n 2, 1) := by decide +kernel
theorem d_T_needIndex_1 : decode c_T_needIndex 1 = .ok (.iconst 0, 1) := by decide +kernel
theorem d_T_needIndex_2 : decode c_T_needIndex 2 = .ok (.aload_n 0, 1) := by decide +kernel
theorem d_T_needIndex_3 : decode c_T_needIndex 3 = .ok (.getfield 23, 3) := by decide +kernel
theorem d_T_needIndex_6 : decode c_T_needIndex 6 = .ok (.aload_n 0, 1) := by decide +kernel
theorem d_T_needIndex_7 : decode c_T_needIndex 7 = .ok (.getfield 9, 3) := by decide +kernel
theorem d_T_needIndex_10 : decode c_T_needIndex 10 = .ok (.iload_n 1, 1) := by decide +kernel
theorem d_T_needIndex_11 : decode c_T_needIndex 11 = .ok (.iaload, 1) := by decide +kernel
theorem d_T_needIndex_12 : decode c_T_needIndex 12 = .ok (.invokevirtual 84, 3) := by decide +kernel
theorem d_T_needIndex_15 : decode c_T_needIndex 15 = .ok (.iconst 1, 1) := by decide +kernel
theorem d_T_needIndex_16 : decode c_T_needIndex 16 = .ok (.isub, 1) := by decide +kernel
theorem d_T_needIndex_17 : decode c_T_needIndex 17 = .ok (.invokestatic 16, 3) := by decide +kernel
theorem d_T_needIndex_20 : decode c_T_needIndex 20 = .ok (.ifCond .ne 13, 3) := by decide +kernel
theorem d_T_needIndex_23 : decode c_T_needIndex 23 = .ok (.new 164, 3) := by decide +kernel
theorem d_T_needIndex_26 : decode c_T_needIndex 26 = .ok (.dup, 1) := by decide +kernel
theorem d_T_needIndex_27 : decode c_T_needIndex 27 = .ok (.ldc 166, 2) := by decide +kernel
theorem d_T_needIndex_29 : decode c_T_needIndex 29 = .ok (.invokespecial 168, 3) := by decide +kernel
theorem d_T_needIndex_32 : decode c_T_needIndex 32 = .ok (.athrow, 1) := by decide +kernel
theorem d_T_needIndex_33 : decode c_T_needIndex 33 = .ok (.return_, 1) := by decide +kernel
theorem d_T_needMade_0 : decode c_T_needMade 0 = .ok (.iload_n 0, 1) := by decide +kernel
theorem d_T_needMade_1 : decode c_T_needMade 1 = .ok (.ifCond .ne 13, 3) := by decide +kernel
theorem d_T_needMade_4 : decode c_T_needMade 4 = .ok (.new 169, 3) := by decide +kernel
theorem d_T_needMade_7 : decode c_T_needMade 7 = .ok (.dup, 1) := by decide +kernel
theorem d_T_needMade_8 : decode c_T_needMade 8 = .ok (.ldc 171, 2) := by decide +kernel
theorem d_T_needMade_10 : decode c_T_needMade 10 = .ok (.invokespecial 173, 3) := by decide +kernel
theorem d_T_needMade_13 : decode c_T_needMade 13 = .ok (.athrow, 1) := by decide +kernel
theorem d_T_needMade_14 : decode c_T_needMade 14 = .ok (.return_, 1) := by decide +kernel
end
section
/-! own rows: calls that write nothing; contracts over one world of cells -/
section RQ
variable {p : Program} {l : Launch} {e : Env} {R : Room} {s : State} {m : MethodId} {args : Array Value} {below : List Frame} {meth : Method} {c : Code} {H : Heap} {locs : List Loc} {cells slots : Nat} {Q : State → Prop}
variable {pc : Nat} {ls : Array Slot} {rest st0 : List Value} {a : Array Value}
/-- an int comes back, nothing is written -/
def rq_i (post : Int32 → Prop) : Array Value → State → Outcome → State → Prop := fun _ st o t => ∃ r : Int32, o = .returned (some (.int r)) ∧ post r ∧ t.heap = st.heap
theorem rq_calli {post : Int32 → Prop} (hr : CallRun p l e R s m args below meth c H locs cells slots 0 0 (F0 m pc ls st0) rest (rq_i post a) (fun _ => False))
    (kk : ∀ r : Int32, post r → W p l e R s m args below meth c H locs cells slots Q (F0 m (pc + 3) ls (.int r :: rest))) : W p l e R s m args below meth c H locs cells slots Q (F0 m pc ls st0) := by
  intro T hT X
  obtain ⟨v, st₀, t, T', L, h0, X', hL, e1, ⟨z, hv, hp, hh⟩, st⟩ := hr T hT X
  cases hv
  obtain ⟨t2, a1, b1⟩ := kk z hp T' (by rw [e1, hh, h0]) (Stand.forget X' (fun q h => (hL q h).elim))
  exact ⟨t2, st t2 a1, b1⟩
end RQ
/-- a start: the world ws is there -/
abbrev ro_P (D : va_G) (cl : List vw_C) (ws : va_W) (tys : List (ClassId × FieldType)) (av : List Value) : Array Value → State → Prop := va_Pc av (fun U => va_P D cl ws U.heap ∧ va_K D cl tys U)
/-- a start: the world ws is there, its cells apart, sz the heap's size -/
abbrev rw_P (D : va_G) (cl : List vw_C) (ws : va_W) (tys : List (ClassId × FieldType)) (sz : Nat) (av : List Value) : Array Value → State → Prop := va_Pc av (fun U => U.heap.size = sz ∧ va_P D cl ws U.heap ∧ va_K D cl tys U ∧ va_D (fun _ => True) ws)
/-- an end: the world is w u -/
abbrev rw_B {S : Type} (D : va_G) (cl : List vw_C) (tys : List (ClassId × FieldType)) (A : Nat → Prop) (w : S → va_W) : S → State → Prop := fun u t => va_P D cl (w u) t.heap ∧ va_K D cl tys t ∧ va_D A (w u)
theorem ro_blind {D : va_G} {cl : List vw_C} {ws : va_W} {tys : List (ClassId × FieldType)} {av : List Value} : FrameBlind (ro_P D cl ws tys av) := by
  intro a U g mk q
  obtain ⟨q0, qP, qK⟩ := q
  exact ⟨q0, qP, va_K.moved (u := U) (U := U.calling g mk a) (Vm.Alike.refl U.vm) qK⟩
theorem rw_blind {D : va_G} {cl : List vw_C} {ws : va_W} {tys : List (ClassId × FieldType)} {sz : Nat} {av : List Value} : FrameBlind (rw_P D cl ws tys sz av) := by
  intro a U g mk q
  obtain ⟨q0, qz, qP, qK, qD⟩ := q
  exact ⟨q0, qz, qP, va_K.moved (u := U) (U := U.calling g mk a) (Vm.Alike.refl U.vm) qK, qD⟩
section RP
variable {s : State} {H : Heap} {D : va_G} {cl : List vw_C} {ws : va_W} {tys : List (ClassId × FieldType)} {A : Nat → Prop} {As : List Value} {b ci q0 : Nat} {q : vw_C} {fs : List Value}
theorem ro_PV (hK : va_K D cl tys s) (hP : va_P D cl ws H) (hc : cl[ci]? = some q) (he : ws[q0]? = some (b, .inr (ci, fs))) : PreV s H q.1 b (ro_P D cl ws tys (.ref b :: As)) As :=
  ⟨ro_blind, va_recv hK hP hc he, fun U hU hW => ⟨rfl, by rw [hU]; exact hP, va_K.moved hW.alike hK⟩⟩
theorem rw_PV (hK : va_K D cl tys s) (hP : va_P D cl ws H) (hD : va_D A ws) (hc : cl[ci]? = some q) (he : ws[q0]? = some (b, .inr (ci, fs))) : PreV s H q.1 b (rw_P D cl ws tys H.size (.ref b :: As)) As :=
  ⟨rw_blind, va_recv hK hP hc he, fun U hU hW => ⟨rfl, by rw [hU], by rw [hU]; exact hP, va_K.moved hW.alike hK, hD.weaken (fun _ _ _ _ => trivial)⟩⟩
end RP
/-! what may throw: on a return nothing is written; on a throw nothing old is written -/
def rq_v (post : Prop) : Array Value → State → Outcome → State → Prop := fun _ st o t => o = .returned none ∧ post ∧ t.heap = st.heap
def rq_X (px : String → Prop) : String → State → State → Prop := fun E st t => px E ∧ st.heap.size ≤ t.heap.size ∧ ∀ q : Nat, q < st.heap.size → t.heap[q]? = st.heap[q]?
/-- .. and a method that writes its world: what a throw leaves -/
abbrev rw_X {S : Type} (D : va_G) (cl : List vw_C) (tys : List (ClassId × FieldType)) (A : Nat → Prop) (w : S → va_W) (px : String → S → Prop) : String → State → State → Prop := vx_X (fun _ : S => True) (fun E u t => px E u ∧ rw_B D cl tys A w u t) A
section RX
variable {p : Program} {l : Launch} {e : Env} {R : Room} {s : State} {m : MethodId} {args : Array Value} {below : List Frame} {meth : Method} {c : Code} {H : Heap} {locs : List Loc} {cells slots : Nat} {Q : State → Prop}
variable {pc : Nat} {ls : Array Slot} {rest st0 : List Value} {a : Array Value} {mc ms : Nat}
theorem rx_callv {px : String → Prop} {post : Prop} (hr : vx_Run p l e R s m args below meth c H locs cells slots mc ms (F0 m pc ls st0) rest (rq_v post a) (rq_X px) (fun _ => False))
    (kx : ∀ (E : String) (ce : Cell) (q9 : Addr) (H1 : Heap), px E → H.size ≤ H1.size → (∀ q : Nat, q < H.size → H1[q]? = H[q]?) → H1[q9]? = some ce → ce.vm = .none → s.vm.findClass E = some ce.cls → vx_W p l e R s m args below meth c H1 locs (cells + mc) (slots + ms) Q (F0 m pc ls rest) q9)
    (kk : post → W p l e R s m args below meth c H locs (cells + mc) (slots + ms) Q (F0 m (pc + 3) ls rest)) : W p l e R s m args below meth c H locs cells slots Q (F0 m pc ls st0) := by
  intro T hT X
  rcases hr T hT X with ⟨v, st₀, t, T', L, h0, X', hL, e1, e2, ⟨hv, hp, hh⟩, st⟩ | ⟨q, st₀, t, T', L, E, ce, h0, X', hL, e1, e2, ⟨hp, hz, hk⟩, hce, hcv, hcl, st⟩
  · cases hv
    obtain ⟨t2, a1, b1⟩ := kk hp T' (by rw [e1, hh, h0]) (Stand.forget X' (fun q h => (hL q h).elim))
    exact ⟨t2, st t2 a1, b1⟩
  · rw [h0] at hz hk
    obtain ⟨t2, a1, b1⟩ := kx E ce q t.heap hp hz hk hce hcv hcl T' e1 (Stand.forget X' (fun q h => (hL q h).elim))
    exact ⟨t2, st.trans a1, b1⟩
/-- a throw goes on out of a method that writes nothing -/
theorem rq_out {px : String → Prop} {Qc : Array Value → State → Outcome → State → Prop} {H1 : Heap} {E : String} {ce : Cell} {q : Addr} (hEx : ∀ x ∈ c.exceptionTable.toList, False) (hlocks : meth.locks = false) (hp : px E) (hz : s.heap.size ≤ H1.size) (hk : ∀ q : Nat, q < s.heap.size → H1[q]? = s.heap[q]?)
    (hce : H1[q]? = some ce) (hcv : ce.vm = .none) (hcl : s.vm.findClass E = some ce.cls) (hc : cells ≤ mc) (hs : slots ≤ ms) :
    vx_W p l e R s m args below meth c H1 [] cells slots (vx_MQ below Qc (rq_X px) args s mc ms (fun _ => False)) (F0 m pc ls rest) q :=
  vx_out (fun x hx => (hEx x hx).elim) hlocks hce hcv hcl (fun t ht _ => ⟨hp, by rw [ht]; exact hz, fun q hq => by rw [ht]; exact hk q hq⟩) (fun _ h9 => nomatch h9) hc hs
/-- .. and of one that writes its world -/
theorem rx_out {S : Type} {D : va_G} {cl : List vw_C} {tys : List (ClassId × FieldType)} {A : Nat → Prop} {w : S → va_W} {ws : va_W} {px : String → S → Prop} {Qc : Array Value → State → Outcome → State → Prop} {H1 : Heap} {E : String} {ce : Cell} {q : Addr} (u : S) (hw : w u = ws)
    (hEx : ∀ x ∈ c.exceptionTable.toList, False) (hlocks : meth.locks = false) (hK : va_K D cl tys s) (hP : va_P D cl ws H) (hD : va_D A ws) (hS : va_S A s.heap H locs) (hp : px E u) (hz : H.size ≤ H1.size) (hk : ∀ q : Nat, q < H.size → H1[q]? = H[q]?)
    (hce : H1[q]? = some ce) (hcv : ce.vm = .none) (hcl : s.vm.findClass E = some ce.cls) (hc : cells ≤ mc) (hs : slots ≤ ms) :
    vx_W p l e R s m args below meth c H1 locs cells slots (vx_MQ below Qc (rw_X D cl tys A w px) args s mc ms A) (F0 m pc ls rest) q := by
  refine vx_out (fun x hx => (hEx x hx).elim) hlocks hce hcv hcl (fun t ht hvm => ?_) hS.2.2 hc hs
  subst hw
  exact ⟨u, trivial, ⟨hp, by rw [ht]; exact hP.kept (fun k q hk' => hk q.1 ((hP k q hk').lt)), va_K.moved hvm hK, hD⟩, ⟨by rw [ht]; exact Nat.le_trans hS.1 hz, fun q h1 h2 => by rw [ht, hk q (Nat.lt_of_lt_of_le h1 hS.1)]; exact hS.2.1 q h1 h2⟩⟩
end RX

theorem xc_moved {C D : String} {u U : State} (hvm : u.vm.Alike U.vm) (h : ∀ a, (Cond.castable C D).before a u = true) : ∀ a, (Cond.castable C D).before a U = true := by
  intro a
  have h1 : (Cond.castable C D).before #[] (u.setVm U.vm) = true := by rw [Cond.castable_setVm hvm]; exact h #[]
  exact va_tabs (u := u.setVm U.vm) rfl rfl h1
theorem xd_moved {y : MethodName} {u U : State} (hvm : u.vm.Alike U.vm) (h : ∀ a, (Cond.declares y).before a u = true) : ∀ a, (Cond.declares y).before a U = true := by
  intro a
  have h1 : (Cond.declares y).before #[] (u.setVm U.vm) = true := by rw [Cond.declares_setVm hvm]; exact h #[]
  exact va_tabs (u := u.setVm U.vm) rfl rfl h1
/-- what a throw needs of the heap and of the constants: statics of Throwable out of the written part, the texts -/
def xt_T (A : Nat → Prop) (sa : Nat → Nat) (U : State) (H : Heap) : Prop := vx_Zq Bundle.tN "UNASSIGNED_STACK" Bundle.steD A U H ∧ vx_Zq Bundle.tN "SUPPRESSED_SENTINEL" Bundle.listD A U H ∧ (vk_R R_T 151 "a number is out of its range" (sa 0) U ∧ vk_R R_T 156 "there is no such register" (sa 1) U ∧ vk_R R_T 158 "the register has no object" (sa 2) U ∧ vk_R R_T 160 "the register has no object of slots" (sa 3) U ∧ vk_R R_T 162 "the register has no object of bytes" (sa 4) U ∧ vk_R R_T 166 "the object has no such slot or byte" (sa 5) U ∧ vk_R R_T 171 "there is no room for the object" (sa 6) U ∧ (∀ a, (Cond.castable "java/lang/IllegalArgumentException" "java/lang/IllegalArgumentException").before a U = true) ∧ (∀ a, (Cond.castable "java/lang/IndexOutOfBoundsException" "java/lang/IndexOutOfBoundsException").before a U = true) ∧ (∀ a, (Cond.castable "java/lang/UnsupportedOperationException" "java/lang/UnsupportedOperationException").before a U = true) ∧ (∀ a, (Cond.declares (Bundle.initS "java/lang/RuntimeException")).before a U = true) ∧ (∀ a, (Cond.declares (Bundle.initS "java/lang/Exception")).before a U = true) ∧ (∀ a, (Cond.declares (Bundle.initS "java/lang/Throwable")).before a U = true))
theorem xt_at {A : Nat → Prop} {sa : Nat → Nat} {s : State} {H0 H : Heap} {locs : List Loc} (h : xt_T A sa s H0) (hS : va_S A H0 H locs) : xt_T A sa s H := ⟨h.1.kept hS.2.1, h.2.1.kept hS.2.1, h.2.2⟩
theorem xt_to {A B : Nat → Prop} {sa : Nat → Nat} {s U : State} {H : Heap} (h : xt_T A sa s H) (hW : s.WarmedH U.vm) (hAB : ∀ q, B q → A q) : xt_T B sa U H := by
  refine ⟨(vx_Zq.moved hW.alike h.1).narrow hAB, (vx_Zq.moved hW.alike h.2.1).narrow hAB, ?_⟩
  obtain ⟨-, -, t0, t1, t2, t3, t4, t5, t6, c0, c1, c2, d0, d1, d2⟩ := h
  exact ⟨vk_R.warm hW t0, vk_R.warm hW t1, vk_R.warm hW t2, vk_R.warm hW t3, vk_R.warm hW t4, vk_R.warm hW t5, vk_R.warm hW t6, xc_moved hW.alike c0, xc_moved hW.alike c1, xc_moved hW.alike c2, xd_moved hW.alike d0, xd_moved hW.alike d1, xd_moved hW.alike d2⟩
theorem xt_same {A : Nat → Prop} {sa : Nat → Nat} {s U : State} {H : Heap} (h : xt_T A sa s H) (hv : U.vm = s.vm) : xt_T A sa U H := by
  have hA : s.vm.Alike U.vm := by rw [hv]; exact Vm.Alike.refl _
  refine ⟨vx_Zq.moved hA h.1, vx_Zq.moved hA h.2.1, ?_⟩
  obtain ⟨-, -, t0, t1, t2, t3, t4, t5, t6, c0, c1, c2, d0, d1, d2⟩ := h
  exact ⟨vk_R.same hv t0, vk_R.same hv t1, vk_R.same hv t2, vk_R.same hv t3, vk_R.same hv t4, vk_R.same hv t5, vk_R.same hv t6, xc_moved hA c0, xc_moved hA c1, xc_moved hA c2, xd_moved hA d0, xd_moved hA d1, xd_moved hA d2⟩
abbrev xs_P (sa : Nat → Nat) (av : List Value) : Array Value → State → Prop := va_Pc av (fun U => xt_T (fun _ => False) sa U U.heap)
abbrev xo_P (D : va_G) (cl : List vw_C) (ws : va_W) (tys : List (ClassId × FieldType)) (sa : Nat → Nat) (av : List Value) : Array Value → State → Prop := va_Pc av (fun U => va_P D cl ws U.heap ∧ va_K D cl tys U ∧ xt_T (fun _ => False) sa U U.heap)
abbrev xw_P (D : va_G) (cl : List vw_C) (ws : va_W) (tys : List (ClassId × FieldType)) (sz : Nat) (sa : Nat → Nat) (av : List Value) : Array Value → State → Prop := va_Pc av (fun U => U.heap.size = sz ∧ va_P D cl ws U.heap ∧ va_K D cl tys U ∧ va_D (fun _ => True) ws ∧ xt_T (va_A ws sz) sa U U.heap)
theorem xs_PS {A : Nat → Prop} {sa : Nat → Nat} {s : State} {H : Heap} {As : List Value} (h : xt_T A sa s H) : PreS s H (xs_P sa As) As :=
  ⟨fun a U g mk q => ⟨q.1, xt_same (U := U.calling g mk a) q.2 rfl⟩, fun U hU hW => ⟨rfl, by show xt_T _ sa U U.heap; rw [hU]; exact xt_to h hW (fun _ f => f.elim)⟩⟩
section XP
variable {s : State} {H : Heap} {D : va_G} {cl : List vw_C} {ws : va_W} {tys : List (ClassId × FieldType)} {A : Nat → Prop} {As : List Value} {b ci q0 : Nat} {q : vw_C} {fs : List Value} {sa : Nat → Nat}
theorem xo_PV (hK : va_K D cl tys s) (hP : va_P D cl ws H) (hX : xt_T A sa s H) (hc : cl[ci]? = some q) (he : ws[q0]? = some (b, .inr (ci, fs))) : PreV s H q.1 b (xo_P D cl ws tys sa (.ref b :: As)) As :=
  ⟨fun a U g mk z => ⟨z.1, z.2.1, va_K.moved (u := U) (U := U.calling g mk a) (Vm.Alike.refl U.vm) z.2.2.1, xt_same (U := U.calling g mk a) z.2.2.2 rfl⟩, va_recv hK hP hc he, fun U hU hW => ⟨rfl, by rw [hU]; exact hP, va_K.moved hW.alike hK, by rw [hU]; exact xt_to hX hW (fun _ f => f.elim)⟩⟩
theorem xw_PV (hK : va_K D cl tys s) (hP : va_P D cl ws H) (hD : va_D A ws) (hX : xt_T A sa s H) (hF : ∀ q, va_A ws H.size q → A q) (hc : cl[ci]? = some q) (he : ws[q0]? = some (b, .inr (ci, fs))) : PreV s H q.1 b (xw_P D cl ws tys H.size sa (.ref b :: As)) As :=
  ⟨fun a U g mk z => ⟨z.1, z.2.1, z.2.2.1, va_K.moved (u := U) (U := U.calling g mk a) (Vm.Alike.refl U.vm) z.2.2.2.1, z.2.2.2.2.1, xt_same (U := U.calling g mk a) z.2.2.2.2.2 rfl⟩, va_recv hK hP hc he, fun U hU hW => ⟨rfl, by rw [hU], by rw [hU]; exact hP, va_K.moved hW.alike hK, hD.weaken (fun _ _ _ _ => trivial), by rw [hU]; exact xt_to hX hW hF⟩⟩
end XP

abbrev TSw (cA : ClassId) (a0 : Nat) (aR : Nat) (aM : Nat) (aW : Nat) (aP : Nat) (aS : Nat) (aC : Nat) (aO : Nat) (nW : Nat) (nE : Nat) (R : Nat → Int32) (f : Nat → Int32) (us : Int32) (P : Nat → Int32) (S : Nat → Int32) (sc : Int32) (li : Int32) (rc : Nat → Int32) (rn : Int32) (ro : Nat → Int32) (rd : Int32) (st : Int32) : va_W := [(a0, .inr (0, [.ref aR, .ref aM])), (aR, .inl (cA, 32, .inl R)), (aM, .inr (1, [.ref aW, .int us, .ref aP, .ref aS, .int sc, .int li, .ref aC, .int rn, .ref aO, .int rd, .int st])), (aW, .inl (cA, nW, .inl f)), (aP, .inl (cA, nE, .inl P)), (aS, .inl (cA, nE, .inl S)), (aC, .inl (cA, nE, .inl rc)), (aO, .inl (cA, nE, .inl ro))]
end
section
def wqV_ofNumber (a1 : Int32) (post : Int32 → Prop) : Prop :=
  post (((2 : Int32) * a1) + (1 : Int32))
set_option maxHeartbeats 4000000 in
set_option maxRecDepth 100000 in
theorem mV_ofNumber (l : Launch) (a1 : Int32) (post : Int32 → Prop) (h : wqV_ofNumber a1 post) : Met l y_V_ofNumber ws_V_ofNumber ({ frames := 0, cells := 0, slots := 0, locals := 0 }) (fun v _ => v = ([.int a1] : List Value).toArray) (rq_i post) 0 0 (fun _ => False) := by
  refine Met.ofW (cc := c_V_ofNumber) (maxL := 1) (ret := (some .int)) (by decide) rfl ?_
  intro p e s m args below meth c s₁ B hml hv
  subst hv
  have hx := B.exec
  have hb := B.bytes
  have hr9 := B.returns
  have hts := atoms_spec (ws := ws_V_ofNumber) B.pre
  have hw : ∀ w ∈ WB_, w.before _ s = true := fun w h => hts w (List.mem_cons_of_mem _ h)
  have hown : s.vm.findClass R_V = some m.cls := findClass_of_methodNamed B.named
  have hlocks := B.notSynchronized
  have hl := lv_entry ([.int a1]) (n := 1) (Nat.le_of_ble_eq_true rfl)
  rw [lg_entry_eq]
  generalize (lg_sl ([.int a1]) ++ List.replicate (1 - (lg_sl ([.int a1])).length) Slot.unset).toArray = ls at hl ⊢
  have hl : lv_has ls 1 [(0, .int a1)] := hl
  unfold wqV_ofNumber at h
  refine lv_iconst (v := (2 : Int32)) hx hb d_V_ofNumber_0 (by decide) ?_
  refine lv_iload_n hx hb d_V_ofNumber_1 rfl (lv_at hl 0 rfl) ?_
  refine lv_imul hx hb d_V_ofNumber_2 ?_
  refine lv_iconst (v := (1 : Int32)) hx hb d_V_ofNumber_3 (by decide) ?_
  refine lv_iadd hx hb d_V_ofNumber_4 ?_
  exact W.iret (v := ((2 : Int32) * a1) + (1 : Int32)) hx hb hr9 (fun t ht hW => ⟨_, rfl, h, ht⟩) (fun _ h9 => nomatch h9) d_V_ofNumber_5
def wqV_ofEntry (a1 : Int32) (post : Int32 → Prop) : Prop :=
  post (((2 : Int32) * a1) + (2 : Int32))
set_option maxHeartbeats 4000000 in
set_option maxRecDepth 100000 in
theorem mV_ofEntry (l : Launch) (a1 : Int32) (post : Int32 → Prop) (h : wqV_ofEntry a1 post) : Met l y_V_ofEntry ws_V_ofEntry ({ frames := 0, cells := 0, slots := 0, locals := 0 }) (fun v _ => v = ([.int a1] : List Value).toArray) (rq_i post) 0 0 (fun _ => False) := by
  refine Met.ofW (cc := c_V_ofEntry) (maxL := 1) (ret := (some .int)) (by decide) rfl ?_
  intro p e s m args below meth c s₁ B hml hv
  subst hv
  have hx := B.exec
  have hb := B.bytes
  have hr9 := B.returns
  have hts := atoms_spec (ws := ws_V_ofEntry) B.pre
  have hw : ∀ w ∈ WB_, w.before _ s = true := fun w h => hts w (List.mem_cons_of_mem _ h)
  have hown : s.vm.findClass R_V = some m.cls := findClass_of_methodNamed B.named
  have hlocks := B.notSynchronized
  have hl := lv_entry ([.int a1]) (n := 1) (Nat.le_of_ble_eq_true rfl)
  rw [lg_entry_eq]
  generalize (lg_sl ([.int a1]) ++ List.replicate (1 - (lg_sl ([.int a1])).length) Slot.unset).toArray = ls at hl ⊢
  have hl : lv_has ls 1 [(0, .int a1)] := hl
  unfold wqV_ofEntry at h
  refine lv_iconst (v := (2 : Int32)) hx hb d_V_ofEntry_0 (by decide) ?_
  refine lv_iload_n hx hb d_V_ofEntry_1 rfl (lv_at hl 0 rfl) ?_
  refine lv_imul hx hb d_V_ofEntry_2 ?_
  refine lv_iconst (v := (2 : Int32)) hx hb d_V_ofEntry_3 (by decide) ?_
  refine lv_iadd hx hb d_V_ofEntry_4 ?_
  exact W.iret (v := ((2 : Int32) * a1) + (2 : Int32)) hx hb hr9 (fun t ht hW => ⟨_, rfl, h, ht⟩) (fun _ h9 => nomatch h9) d_V_ofEntry_5
def wqV_isNumber (a1 : Int32) (post : Int32 → Prop) : Prop :=
  ((a1 &&& (1 : Int32)) = 0 → (post (0 : Int32))) ∧ (¬ ((a1 &&& (1 : Int32)) = 0) → (post (1 : Int32)))
set_option maxHeartbeats 4000000 in
set_option maxRecDepth 100000 in
theorem mV_isNumber (l : Launch) (a1 : Int32) (post : Int32 → Prop) (h : wqV_isNumber a1 post) : Met l y_V_isNumber ws_V_isNumber ({ frames := 0, cells := 0, slots := 0, locals := 0 }) (fun v _ => v = ([.int a1] : List Value).toArray) (rq_i post) 0 0 (fun _ => False) := by
  refine Met.ofW (cc := c_V_isNumber) (maxL := 1) (ret := (some .boolean)) (by decide) rfl ?_
  intro p e s m args below meth c s₁ B hml hv
  subst hv
  have hx := B.exec
  have hb := B.bytes
  have hr9 := B.returns
  have hts := atoms_spec (ws := ws_V_isNumber) B.pre
  have hw : ∀ w ∈ WB_, w.before _ s = true := fun w h => hts w (List.mem_cons_of_mem _ h)
  have hown : s.vm.findClass R_V = some m.cls := findClass_of_methodNamed B.named
  have hlocks := B.notSynchronized
  have hl := lv_entry ([.int a1]) (n := 1) (Nat.le_of_ble_eq_true rfl)
  rw [lg_entry_eq]
  generalize (lg_sl ([.int a1]) ++ List.replicate (1 - (lg_sl ([.int a1])).length) Slot.unset).toArray = ls at hl ⊢
  have hl : lv_has ls 1 [(0, .int a1)] := hl
  unfold wqV_isNumber at h
  refine lv_iload_n hx hb d_V_isNumber_0 rfl (lv_at hl 0 rfl) ?_
  refine lv_iconst (v := (1 : Int32)) hx hb d_V_isNumber_1 (by decide) ?_
  refine lv_iand hx hb d_V_isNumber_2 ?_
  refine lv_if_eq (tgt := 10) hx hb d_V_isNumber_3 (by decide) (fun c_3 => ?_) (fun c_3 => ?_)
  · have h := h.1 c_3
    refine lv_iconst (v := (0 : Int32)) hx hb d_V_isNumber_10 (by decide) ?_
    exact W.zret (v := (0 : Int32)) (ty := .boolean) hx hb hr9 rfl (fun t ht hW => ⟨_, rfl, h, ht⟩) (fun _ h9 => nomatch h9) d_V_isNumber_11
  · have h := h.2 c_3
    refine lv_iconst (v := (1 : Int32)) hx hb d_V_isNumber_6 (by decide) ?_
    refine lv_goto (tgt := 11) hx hb d_V_isNumber_7 (by decide) ?_
    exact W.zret (v := (1 : Int32)) (ty := .boolean) hx hb hr9 rfl (fun t ht hW => ⟨_, rfl, h, ht⟩) (fun _ h9 => nomatch h9) d_V_isNumber_11
def wqV_isObject (a1 : Int32) (post : Int32 → Prop) : Prop :=
  (a1 = 0 → (post (0 : Int32))) ∧ (¬ (a1 = 0) → (wqV_isNumber a1 (fun r5 => (r5 = 0 → (post (1 : Int32))) ∧ (¬ (r5 = 0) → (post (0 : Int32))))))
set_option maxHeartbeats 4000000 in
set_option maxRecDepth 100000 in
theorem mV_isObject (l : Launch) (a1 : Int32) (post : Int32 → Prop) (h : wqV_isObject a1 post) : Met l y_V_isObject ws_V_isObject ({ frames := 1, cells := 0, slots := 0, locals := 20 }) (fun v _ => v = ([.int a1] : List Value).toArray) (rq_i post) 0 0 (fun _ => False) := by
  refine Met.ofW (cc := c_V_isObject) (maxL := 1) (ret := (some .boolean)) (by decide) rfl ?_
  intro p e s m args below meth c s₁ B hml hv
  subst hv
  have hx := B.exec
  have hb := B.bytes
  have hr9 := B.returns
  have hts := atoms_spec (ws := ws_V_isObject) B.pre
  have hw : ∀ w ∈ WB_, w.before _ s = true := fun w h => hts w (List.mem_cons_of_mem _ h)
  have hown : s.vm.findClass R_V = some m.cls := findClass_of_methodNamed B.named
  have hlocks := B.notSynchronized
  have hl := lv_entry ([.int a1]) (n := 1) (Nat.le_of_ble_eq_true rfl)
  rw [lg_entry_eq]
  generalize (lg_sl ([.int a1]) ++ List.replicate (1 - (lg_sl ([.int a1])).length) Slot.unset).toArray = ls at hl ⊢
  have hl : lv_has ls 1 [(0, .int a1)] := hl
  unfold wqV_isObject at h
  refine lv_iload_n hx hb d_V_isObject_0 rfl (lv_at hl 0 rfl) ?_
  refine lv_if_eq (tgt := 15) hx hb d_V_isObject_1 (by decide) (fun c_1 => ?_) (fun c_1 => ?_)
  · have h := h.1 c_1
    refine lv_iconst (v := (0 : Int32)) hx hb d_V_isObject_15 (by decide) ?_
    exact W.zret (v := (0 : Int32)) (ty := .boolean) hx hb hr9 rfl (fun t ht hW => ⟨_, rfl, h, ht⟩) (fun _ h9 => nomatch h9) d_V_isObject_16
  · have h := h.2 c_1
    refine lv_iload_n hx hb d_V_isObject_4 rfl (lv_at hl 0 rfl) ?_
    refine rq_calli (W.runS (As := [.int a1]) (rest := []) ⟨hx, hb, hml, hown, hw⟩ (mV_isNumber l a1 _ h) (va_cwS 1 hw g_V_7 rfl rfl rfl (by decide +kernel) ⟨Nat.le_of_ble_eq_true rfl, Nat.le_of_ble_eq_true rfl⟩) preEq rfl rfl hl.1 rfl (lv_room (Nat.le_of_ble_eq_true rfl)) d_V_isObject_5 ⟨Nat.le_of_ble_eq_true rfl, Nat.le_of_ble_eq_true rfl⟩) (fun r5 h => ?_)
    refine lv_if_ne (tgt := 15) hx hb d_V_isObject_8 (by decide) (fun c_8 => ?_) (fun c_8 => ?_)
    · have h := h.2 c_8
      refine lv_iconst (v := (0 : Int32)) hx hb d_V_isObject_15 (by decide) ?_
      exact W.zret (v := (0 : Int32)) (ty := .boolean) hx hb hr9 rfl (fun t ht hW => ⟨_, rfl, h, ht⟩) (fun _ h9 => nomatch h9) d_V_isObject_16
    · have h := h.1 c_8
      refine lv_iconst (v := (1 : Int32)) hx hb d_V_isObject_11 (by decide) ?_
      refine lv_goto (tgt := 16) hx hb d_V_isObject_12 (by decide) ?_
      exact W.zret (v := (1 : Int32)) (ty := .boolean) hx hb hr9 rfl (fun t ht hW => ⟨_, rfl, h, ht⟩) (fun _ h9 => nomatch h9) d_V_isObject_16
def wqV_toNumber (a1 : Int32) (post : Int32 → Prop) : Prop :=
  post (a1 >>> ((1 : Int32) &&& 31))
set_option maxHeartbeats 4000000 in
set_option maxRecDepth 100000 in
theorem mV_toNumber (l : Launch) (a1 : Int32) (post : Int32 → Prop) (h : wqV_toNumber a1 post) : Met l y_V_toNumber ws_V_toNumber ({ frames := 0, cells := 0, slots := 0, locals := 0 }) (fun v _ => v = ([.int a1] : List Value).toArray) (rq_i post) 0 0 (fun _ => False) := by
  refine Met.ofW (cc := c_V_toNumber) (maxL := 1) (ret := (some .int)) (by decide) rfl ?_
  intro p e s m args below meth c s₁ B hml hv
  subst hv
  have hx := B.exec
  have hb := B.bytes
  have hr9 := B.returns
  have hts := atoms_spec (ws := ws_V_toNumber) B.pre
  have hw : ∀ w ∈ WB_, w.before _ s = true := fun w h => hts w (List.mem_cons_of_mem _ h)
  have hown : s.vm.findClass R_V = some m.cls := findClass_of_methodNamed B.named
  have hlocks := B.notSynchronized
  have hl := lv_entry ([.int a1]) (n := 1) (Nat.le_of_ble_eq_true rfl)
  rw [lg_entry_eq]
  generalize (lg_sl ([.int a1]) ++ List.replicate (1 - (lg_sl ([.int a1])).length) Slot.unset).toArray = ls at hl ⊢
  have hl : lv_has ls 1 [(0, .int a1)] := hl
  unfold wqV_toNumber at h
  refine lv_iload_n hx hb d_V_toNumber_0 rfl (lv_at hl 0 rfl) ?_
  refine lv_iconst (v := (1 : Int32)) hx hb d_V_toNumber_1 (by decide) ?_
  refine lv_ishr hx hb d_V_toNumber_2 ?_
  exact W.iret (v := a1 >>> ((1 : Int32) &&& 31)) hx hb hr9 (fun t ht hW => ⟨_, rfl, h, ht⟩) (fun _ h9 => nomatch h9) d_V_toNumber_3
def wqV_toEntry (a1 : Int32) (post : Int32 → Prop) : Prop :=
  post ((a1 >>> ((1 : Int32) &&& 31)) - (1 : Int32))
set_option maxHeartbeats 4000000 in
set_option maxRecDepth 100000 in
theorem mV_toEntry (l : Launch) (a1 : Int32) (post : Int32 → Prop) (h : wqV_toEntry a1 post) : Met l y_V_toEntry ws_V_toEntry ({ frames := 0, cells := 0, slots := 0, locals := 0 }) (fun v _ => v = ([.int a1] : List Value).toArray) (rq_i post) 0 0 (fun _ => False) := by
  refine Met.ofW (cc := c_V_toEntry) (maxL := 1) (ret := (some .int)) (by decide) rfl ?_
  intro p e s m args below meth c s₁ B hml hv
  subst hv
  have hx := B.exec
  have hb := B.bytes
  have hr9 := B.returns
  have hts := atoms_spec (ws := ws_V_toEntry) B.pre
  have hw : ∀ w ∈ WB_, w.before _ s = true := fun w h => hts w (List.mem_cons_of_mem _ h)
  have hown : s.vm.findClass R_V = some m.cls := findClass_of_methodNamed B.named
  have hlocks := B.notSynchronized
  have hl := lv_entry ([.int a1]) (n := 1) (Nat.le_of_ble_eq_true rfl)
  rw [lg_entry_eq]
  generalize (lg_sl ([.int a1]) ++ List.replicate (1 - (lg_sl ([.int a1])).length) Slot.unset).toArray = ls at hl ⊢
  have hl : lv_has ls 1 [(0, .int a1)] := hl
  unfold wqV_toEntry at h
  refine lv_iload_n hx hb d_V_toEntry_0 rfl (lv_at hl 0 rfl) ?_
  refine lv_iconst (v := (1 : Int32)) hx hb d_V_toEntry_1 (by decide) ?_
  refine lv_ishr hx hb d_V_toEntry_2 ?_
  refine lv_iconst (v := (1 : Int32)) hx hb d_V_toEntry_3 (by decide) ?_
  refine lv_isub hx hb d_V_toEntry_4 ?_
  exact W.iret (v := (a1 >>> ((1 : Int32) &&& 31)) - (1 : Int32)) hx hb hr9 (fun t ht hW => ⟨_, rfl, h, ht⟩) (fun _ h9 => nomatch h9) d_V_toEntry_5
def wqM_shape (a1 : Int32) (a2 : Int32) (post : Int32 → Prop) : Prop :=
  (a2 = 0 → (post (((2 : Int32) * a1) + (1 : Int32)))) ∧ (¬ (a2 = 0) → (post ((2 : Int32) * a1)))
set_option maxHeartbeats 4000000 in
set_option maxRecDepth 100000 in
theorem mM_shape (l : Launch) (a1 : Int32) (a2 : Int32) (post : Int32 → Prop) (h : wqM_shape a1 a2 post) : Met l y_M_shape ws_M_shape ({ frames := 0, cells := 0, slots := 0, locals := 0 }) (fun v _ => v = ([.int a1, .int a2] : List Value).toArray) (rq_i post) 0 0 (fun _ => False) := by
  refine Met.ofW (cc := c_M_shape) (maxL := 2) (ret := (some .int)) (by decide) rfl ?_
  intro p e s m args below meth c s₁ B hml hv
  subst hv
  have hx := B.exec
  have hb := B.bytes
  have hr9 := B.returns
  have hts := atoms_spec (ws := ws_M_shape) B.pre
  have hw : ∀ w ∈ WB_, w.before _ s = true := fun w h => hts w (List.mem_cons_of_mem _ h)
  have hown : s.vm.findClass R_M = some m.cls := findClass_of_methodNamed B.named
  have hlocks := B.notSynchronized
  have hl := lv_entry ([.int a1, .int a2]) (n := 2) (Nat.le_of_ble_eq_true rfl)
  rw [lg_entry_eq]
  generalize (lg_sl ([.int a1, .int a2]) ++ List.replicate (2 - (lg_sl ([.int a1, .int a2])).length) Slot.unset).toArray = ls at hl ⊢
  have hl : lv_has ls 2 [(0, .int a1), (1, .int a2)] := hl
  unfold wqM_shape at h
  refine lv_iload_n hx hb d_M_shape_0 rfl (lv_at hl 1 rfl) ?_
  refine lv_if_eq (tgt := 10) hx hb d_M_shape_1 (by decide) (fun c_1 => ?_) (fun c_1 => ?_)
  · have h := h.1 c_1
    refine lv_iconst (v := (2 : Int32)) hx hb d_M_shape_10 (by decide) ?_
    refine lv_iload_n hx hb d_M_shape_11 rfl (lv_at hl 0 rfl) ?_
    refine lv_imul hx hb d_M_shape_12 ?_
    refine lv_iconst (v := (1 : Int32)) hx hb d_M_shape_13 (by decide) ?_
    refine lv_iadd hx hb d_M_shape_14 ?_
    exact W.iret (v := ((2 : Int32) * a1) + (1 : Int32)) hx hb hr9 (fun t ht hW => ⟨_, rfl, h, ht⟩) (fun _ h9 => nomatch h9) d_M_shape_15
  · have h := h.2 c_1
    refine lv_iconst (v := (2 : Int32)) hx hb d_M_shape_4 (by decide) ?_
    refine lv_iload_n hx hb d_M_shape_5 rfl (lv_at hl 0 rfl) ?_
    refine lv_imul hx hb d_M_shape_6 ?_
    refine lv_goto (tgt := 15) hx hb d_M_shape_7 (by decide) ?_
    exact W.iret (v := (2 : Int32) * a1) hx hb hr9 (fun t ht hW => ⟨_, rfl, h, ht⟩) (fun _ h9 => nomatch h9) d_M_shape_15
def wqM_isOfBytes (a1 : Int32) (post : Int32 → Prop) : Prop :=
  ((a1 &&& (1 : Int32)) = 0 → (post (0 : Int32))) ∧ (¬ ((a1 &&& (1 : Int32)) = 0) → (post (1 : Int32)))
set_option maxHeartbeats 4000000 in
set_option maxRecDepth 100000 in
theorem mM_isOfBytes (l : Launch) (a1 : Int32) (post : Int32 → Prop) (h : wqM_isOfBytes a1 post) : Met l y_M_isOfBytes ws_M_isOfBytes ({ frames := 0, cells := 0, slots := 0, locals := 0 }) (fun v _ => v = ([.int a1] : List Value).toArray) (rq_i post) 0 0 (fun _ => False) := by
  refine Met.ofW (cc := c_M_isOfBytes) (maxL := 1) (ret := (some .boolean)) (by decide) rfl ?_
  intro p e s m args below meth c s₁ B hml hv
  subst hv
  have hx := B.exec
  have hb := B.bytes
  have hr9 := B.returns
  have hts := atoms_spec (ws := ws_M_isOfBytes) B.pre
  have hw : ∀ w ∈ WB_, w.before _ s = true := fun w h => hts w (List.mem_cons_of_mem _ h)
  have hown : s.vm.findClass R_M = some m.cls := findClass_of_methodNamed B.named
  have hlocks := B.notSynchronized
  have hl := lv_entry ([.int a1]) (n := 1) (Nat.le_of_ble_eq_true rfl)
  rw [lg_entry_eq]
  generalize (lg_sl ([.int a1]) ++ List.replicate (1 - (lg_sl ([.int a1])).length) Slot.unset).toArray = ls at hl ⊢
  have hl : lv_has ls 1 [(0, .int a1)] := hl
  unfold wqM_isOfBytes at h
  refine lv_iload_n hx hb d_M_isOfBytes_0 rfl (lv_at hl 0 rfl) ?_
  refine lv_iconst (v := (1 : Int32)) hx hb d_M_isOfBytes_1 (by decide) ?_
  refine lv_iand hx hb d_M_isOfBytes_2 ?_
  refine lv_if_eq (tgt := 10) hx hb d_M_isOfBytes_3 (by decide) (fun c_3 => ?_) (fun c_3 => ?_)
  · have h := h.1 c_3
    refine lv_iconst (v := (0 : Int32)) hx hb d_M_isOfBytes_10 (by decide) ?_
    exact W.zret (v := (0 : Int32)) (ty := .boolean) hx hb hr9 rfl (fun t ht hW => ⟨_, rfl, h, ht⟩) (fun _ h9 => nomatch h9) d_M_isOfBytes_11
  · have h := h.2 c_3
    refine lv_iconst (v := (1 : Int32)) hx hb d_M_isOfBytes_6 (by decide) ?_
    refine lv_goto (tgt := 11) hx hb d_M_isOfBytes_7 (by decide) ?_
    exact W.zret (v := (1 : Int32)) (ty := .boolean) hx hb hr9 rfl (fun t ht hW => ⟨_, rfl, h, ht⟩) (fun _ h9 => nomatch h9) d_M_isOfBytes_11
def wqM_bodyWords (a1 : Int32) (post : Int32 → Prop) : Prop :=
  wqM_isOfBytes a1 (fun r5 => (r5 = 0 → (post (a1 >>> ((1 : Int32) &&& 31)))) ∧ (¬ (r5 = 0) → (post (((a1 >>> ((1 : Int32) &&& 31)) + (3 : Int32)) >>> ((2 : Int32) &&& 31)))))
set_option maxHeartbeats 4000000 in
set_option maxRecDepth 100000 in
theorem mM_bodyWords (l : Launch) (a1 : Int32) (post : Int32 → Prop) (h : wqM_bodyWords a1 post) : Met l y_M_bodyWords ws_M_bodyWords ({ frames := 1, cells := 0, slots := 0, locals := 20 }) (fun v _ => v = ([.int a1] : List Value).toArray) (rq_i post) 0 0 (fun _ => False) := by
  refine Met.ofW (cc := c_M_bodyWords) (maxL := 2) (ret := (some .int)) (by decide) rfl ?_
  intro p e s m args below meth c s₁ B hml hv
  subst hv
  have hx := B.exec
  have hb := B.bytes
  have hr9 := B.returns
  have hts := atoms_spec (ws := ws_M_bodyWords) B.pre
  have hw : ∀ w ∈ WB_, w.before _ s = true := fun w h => hts w (List.mem_cons_of_mem _ h)
  have hown : s.vm.findClass R_M = some m.cls := findClass_of_methodNamed B.named
  have hlocks := B.notSynchronized
  have hl := lv_entry ([.int a1]) (n := 2) (Nat.le_of_ble_eq_true rfl)
  rw [lg_entry_eq]
  generalize (lg_sl ([.int a1]) ++ List.replicate (2 - (lg_sl ([.int a1])).length) Slot.unset).toArray = ls at hl ⊢
  have hl : lv_has ls 2 [(0, .int a1)] := hl
  unfold wqM_bodyWords at h
  refine lv_iload_n hx hb d_M_bodyWords_0 rfl (lv_at hl 0 rfl) ?_
  refine lv_iconst (v := (1 : Int32)) hx hb d_M_bodyWords_1 (by decide) ?_
  refine lv_ishr hx hb d_M_bodyWords_2 ?_
  refine lv_istore_n (lv' := [(1, .int (a1 >>> ((1 : Int32) &&& 31))), (0, .int a1)]) hx hb d_M_bodyWords_3 rfl hl (by decide) rfl (fun ls hl => ?_)
  refine lv_iload_n hx hb d_M_bodyWords_4 rfl (lv_at hl 1 rfl) ?_
  refine rq_calli (W.runS (As := [.int a1]) (rest := []) ⟨hx, hb, hml, hown, hw⟩ (mM_isOfBytes l a1 _ h) (va_cwS 1 hw g_M_33 rfl rfl rfl (by decide +kernel) ⟨Nat.le_of_ble_eq_true rfl, Nat.le_of_ble_eq_true rfl⟩) preEq rfl rfl hl.1 rfl (lv_room (Nat.le_of_ble_eq_true rfl)) d_M_bodyWords_5 ⟨Nat.le_of_ble_eq_true rfl, Nat.le_of_ble_eq_true rfl⟩) (fun r5 h => ?_)
  refine lv_if_eq (tgt := 19) hx hb d_M_bodyWords_8 (by decide) (fun c_8 => ?_) (fun c_8 => ?_)
  · have h := h.1 c_8
    refine lv_iload_n hx hb d_M_bodyWords_19 rfl (lv_at hl 0 rfl) ?_
    exact W.iret (v := a1 >>> ((1 : Int32) &&& 31)) hx hb hr9 (fun t ht hW => ⟨_, rfl, h, ht⟩) (fun _ h9 => nomatch h9) d_M_bodyWords_20
  · have h := h.2 c_8
    refine lv_iload_n hx hb d_M_bodyWords_11 rfl (lv_at hl 0 rfl) ?_
    refine lv_iconst (v := (3 : Int32)) hx hb d_M_bodyWords_12 (by decide) ?_
    refine lv_iadd hx hb d_M_bodyWords_13 ?_
    refine lv_iconst (v := (2 : Int32)) hx hb d_M_bodyWords_14 (by decide) ?_
    refine lv_ishr hx hb d_M_bodyWords_15 ?_
    refine lv_goto (tgt := 20) hx hb d_M_bodyWords_16 (by decide) ?_
    exact W.iret (v := ((a1 >>> ((1 : Int32) &&& 31)) + (3 : Int32)) >>> ((2 : Int32) &&& 31)) hx hb hr9 (fun t ht hW => ⟨_, rfl, h, ht⟩) (fun _ h9 => nomatch h9) d_M_bodyWords_20
def wqM_shiftOf (a1 : Int32) (post : Int32 → Prop) : Prop :=
  post ((8 : Int32) * (a1 &&& (3 : Int32)))
set_option maxHeartbeats 4000000 in
set_option maxRecDepth 100000 in
theorem mM_shiftOf (l : Launch) (a1 : Int32) (post : Int32 → Prop) (h : wqM_shiftOf a1 post) : Met l y_M_shiftOf ws_M_shiftOf ({ frames := 0, cells := 0, slots := 0, locals := 0 }) (fun v _ => v = ([.int a1] : List Value).toArray) (rq_i post) 0 0 (fun _ => False) := by
  refine Met.ofW (cc := c_M_shiftOf) (maxL := 1) (ret := (some .int)) (by decide) rfl ?_
  intro p e s m args below meth c s₁ B hml hv
  subst hv
  have hx := B.exec
  have hb := B.bytes
  have hr9 := B.returns
  have hts := atoms_spec (ws := ws_M_shiftOf) B.pre
  have hw : ∀ w ∈ WB_, w.before _ s = true := fun w h => hts w (List.mem_cons_of_mem _ h)
  have hown : s.vm.findClass R_M = some m.cls := findClass_of_methodNamed B.named
  have hlocks := B.notSynchronized
  have hl := lv_entry ([.int a1]) (n := 1) (Nat.le_of_ble_eq_true rfl)
  rw [lg_entry_eq]
  generalize (lg_sl ([.int a1]) ++ List.replicate (1 - (lg_sl ([.int a1])).length) Slot.unset).toArray = ls at hl ⊢
  have hl : lv_has ls 1 [(0, .int a1)] := hl
  unfold wqM_shiftOf at h
  refine lv_bipush (v := (8 : Int32)) hx hb d_M_shiftOf_0 (by decide) ?_
  refine lv_iload_n hx hb d_M_shiftOf_2 rfl (lv_at hl 0 rfl) ?_
  refine lv_iconst (v := (3 : Int32)) hx hb d_M_shiftOf_3 (by decide) ?_
  refine lv_iand hx hb d_M_shiftOf_4 ?_
  refine lv_imul hx hb d_M_shiftOf_5 ?_
  exact W.iret (v := (8 : Int32) * (a1 &&& (3 : Int32))) hx hb hr9 (fun t ht hW => ⟨_, rfl, h, ht⟩) (fun _ h9 => nomatch h9) d_M_shiftOf_6
def wqM_place (nW : Nat) (nE : Nat) (P : Nat → Int32) (a1 : Int32) (post : Int32 → Prop) : Prop :=
  wqV_toEntry a1 (fun r5 => vp_in r5 nE ∧ (post (P r5.toNatClampNeg)))
set_option maxHeartbeats 4000000 in
set_option maxRecDepth 100000 in
theorem mM_place (l : Launch) (dC : Nat → ClassId) (dI : Nat → Nat → Nat) (cA : ClassId) (a0 : Nat) (aR : Nat) (aM : Nat) (aW : Nat) (aP : Nat) (aS : Nat) (aC : Nat) (aO : Nat) (nW : Nat) (nE : Nat) (R : Nat → Int32) (f : Nat → Int32) (us : Int32) (P : Nat → Int32) (S : Nat → Int32) (sc : Int32) (li : Int32) (rc : Nat → Int32) (rn : Int32) (ro : Nat → Int32) (rd : Int32) (st : Int32) (a1 : Int32) (post : Int32 → Prop) (h : wqM_place nW nE P a1 post) : Met l y_M_place ws_M_place ({ frames := 1, cells := 0, slots := 0, locals := 20 }) (ro_P (dC, dI) vwCl (TSw cA a0 aR aM aW aP aS aC aO nW nE R f us P S sc li rc rn ro rd st) [(cA, .int)] [.ref aM, .int a1]) (rq_i post) 0 0 (fun _ => False) := by
  refine Met.ofW (cc := c_M_place) (maxL := 2) (ret := (some .int)) (by decide) rfl ?_
  intro p e s m args below meth c s₁ B hml hv
  obtain ⟨rfl, hP, hK⟩ := hv
  have hx := B.exec
  have hb := B.bytes
  have hr9 := B.returns
  have hts := atoms_spec (ws := ws_M_place) B.pre
  have hw : ∀ w ∈ WB_, w.before _ s = true := fun w h => hts w (List.mem_cons_of_mem _ h)
  have hown : s.vm.findClass R_M = some m.cls := findClass_of_methodNamed B.named
  have hlocks := B.notSynchronized
  have hl := lv_entry ([.ref aM, .int a1]) (n := 2) (Nat.le_of_ble_eq_true rfl)
  rw [lg_entry_eq]
  generalize (lg_sl ([.ref aM, .int a1]) ++ List.replicate (2 - (lg_sl ([.ref aM, .int a1])).length) Slot.unset).toArray = ls at hl ⊢
  have hl : lv_has ls 2 [(0, .ref aM), (1, .int a1)] := hl
  unfold wqM_place at h
  refine lv_aload_n hx hb d_M_place_0 rfl (lv_at hl 0 rfl) ?_
  refine va_get (D := (dC, dI)) (ci := 1) (v := .ref aP) (C := R_M) (T := T_M) (N := 11) hx hb hw in_M hown hK hP 2 rfl rfl 2 (by decide) (hw _ wd_65) (fun _ h9 => h9) rfl d_M_place_1 ?_
  refine lv_iload_n hx hb d_M_place_4 rfl (lv_at hl 1 rfl) ?_
  refine rq_calli (W.runS (As := [.int a1]) (rest := [.ref aP]) ⟨hx, hb, hml, hown, hw⟩ (mV_toEntry l a1 _ h) (va_cwS 1 hw g_M_37 rfl rfl rfl (by decide +kernel) ⟨Nat.le_of_ble_eq_true rfl, Nat.le_of_ble_eq_true rfl⟩) preEq rfl rfl hl.1 rfl (lv_room (Nat.le_of_ble_eq_true rfl)) d_M_place_5 ⟨Nat.le_of_ble_eq_true rfl, Nat.le_of_ble_eq_true rfl⟩) (fun r5 h => ?_)
  refine va_iald hx hb hK hP 4 0 rfl rfl h.1 d_M_place_8 ?_
  have h := h.2
  exact W.iret (v := P r5.toNatClampNeg) hx hb hr9 (fun t ht hW => ⟨_, rfl, h, ht⟩) (fun _ h9 => nomatch h9) d_M_place_9
def wqM_holdsSlots (nW : Nat) (nE : Nat) (f : Nat → Int32) (P : Nat → Int32) (a1 : Int32) (post : Int32 → Prop) : Prop :=
  wqV_isObject a1 (fun r1 => (r1 = 0 → (post (0 : Int32))) ∧ (¬ (r1 = 0) → (wqM_place nW nE P a1 (fun r13 => vp_in (r13 + (3 : Int32)) nW ∧ (wqM_isOfBytes (f (r13 + (3 : Int32)).toNatClampNeg) (fun r19 => (r19 = 0 → (post (1 : Int32))) ∧ (¬ (r19 = 0) → (post (0 : Int32)))))))))
set_option maxHeartbeats 4000000 in
set_option maxRecDepth 100000 in
theorem mM_holdsSlots (l : Launch) (dC : Nat → ClassId) (dI : Nat → Nat → Nat) (cA : ClassId) (a0 : Nat) (aR : Nat) (aM : Nat) (aW : Nat) (aP : Nat) (aS : Nat) (aC : Nat) (aO : Nat) (nW : Nat) (nE : Nat) (R : Nat → Int32) (f : Nat → Int32) (us : Int32) (P : Nat → Int32) (S : Nat → Int32) (sc : Int32) (li : Int32) (rc : Nat → Int32) (rn : Int32) (ro : Nat → Int32) (rd : Int32) (st : Int32) (a1 : Int32) (post : Int32 → Prop) (h : wqM_holdsSlots nW nE f P a1 post) : Met l y_M_holdsSlots ws_M_holdsSlots ({ frames := 2, cells := 0, slots := 0, locals := 41 }) (ro_P (dC, dI) vwCl (TSw cA a0 aR aM aW aP aS aC aO nW nE R f us P S sc li rc rn ro rd st) [(cA, .int)] [.ref aM, .int a1]) (rq_i post) 0 0 (fun _ => False) := by
  refine Met.ofW (cc := c_M_holdsSlots) (maxL := 2) (ret := (some .boolean)) (by decide) rfl ?_
  intro p e s m args below meth c s₁ B hml hv
  obtain ⟨rfl, hP, hK⟩ := hv
  have hx := B.exec
  have hb := B.bytes
  have hr9 := B.returns
  have hts := atoms_spec (ws := ws_M_holdsSlots) B.pre
  have hw : ∀ w ∈ WB_, w.before _ s = true := fun w h => hts w (List.mem_cons_of_mem _ h)
  have hown : s.vm.findClass R_M = some m.cls := findClass_of_methodNamed B.named
  have hlocks := B.notSynchronized
  have hl := lv_entry ([.ref aM, .int a1]) (n := 2) (Nat.le_of_ble_eq_true rfl)
  rw [lg_entry_eq]
  generalize (lg_sl ([.ref aM, .int a1]) ++ List.replicate (2 - (lg_sl ([.ref aM, .int a1])).length) Slot.unset).toArray = ls at hl ⊢
  have hl : lv_has ls 2 [(0, .ref aM), (1, .int a1)] := hl
  unfold wqM_holdsSlots at h
  refine lv_iload_n hx hb d_M_holdsSlots_0 rfl (lv_at hl 1 rfl) ?_
  refine rq_calli (W.runS (As := [.int a1]) (rest := []) ⟨hx, hb, hml, hown, hw⟩ (mV_isObject l a1 _ h) (va_cwS 1 hw g_M_43 rfl rfl rfl (by decide +kernel) ⟨Nat.le_of_ble_eq_true rfl, Nat.le_of_ble_eq_true rfl⟩) preEq rfl rfl hl.1 rfl (lv_room (Nat.le_of_ble_eq_true rfl)) d_M_holdsSlots_1 ⟨Nat.le_of_ble_eq_true rfl, Nat.le_of_ble_eq_true rfl⟩) (fun r1 h => ?_)
  refine lv_if_eq (tgt := 29) hx hb d_M_holdsSlots_4 (by decide) (fun c_4 => ?_) (fun c_4 => ?_)
  · have h := h.1 c_4
    refine lv_iconst (v := (0 : Int32)) hx hb d_M_holdsSlots_29 (by decide) ?_
    exact W.zret (v := (0 : Int32)) (ty := .boolean) hx hb hr9 rfl (fun t ht hW => ⟨_, rfl, h, ht⟩) (fun _ h9 => nomatch h9) d_M_holdsSlots_30
  · have h := h.2 c_4
    refine lv_aload_n hx hb d_M_holdsSlots_7 rfl (lv_at hl 0 rfl) ?_
    refine va_get (D := (dC, dI)) (ci := 1) (v := .ref aW) (C := R_M) (T := T_M) (N := 11) hx hb hw in_M hown hK hP 2 rfl rfl 0 (by decide) (hw _ wd_63) (fun _ h9 => h9) rfl d_M_holdsSlots_8 ?_
    refine lv_aload_n hx hb d_M_holdsSlots_11 rfl (lv_at hl 0 rfl) ?_
    refine lv_iload_n hx hb d_M_holdsSlots_12 rfl (lv_at hl 1 rfl) ?_
    refine rq_calli (W.runV (As := [.int a1]) (rest := [.ref aW]) ⟨hx, hb, hml, hown, hw⟩ (mM_place l dC dI cA a0 aR aM aW aP aS aC aO nW nE R f us P S sc li rc rn ro rd st a1 _ h) (cwV 1 hw g_M_46 rfl rfl rfl (by decide +kernel) ⟨Nat.le_of_ble_eq_true rfl, Nat.le_of_ble_eq_true rfl⟩) (ro_PV (ci := 1) (q0 := 2) hK hP rfl rfl) rfl rfl hl.1 rfl (lv_room (Nat.le_of_ble_eq_true rfl)) d_M_holdsSlots_13 ⟨Nat.le_of_ble_eq_true rfl, Nat.le_of_ble_eq_true rfl⟩) (fun r13 h => ?_)
    refine lv_iconst (v := (3 : Int32)) hx hb d_M_holdsSlots_16 (by decide) ?_
    refine lv_iadd hx hb d_M_holdsSlots_17 ?_
    refine va_iald hx hb hK hP 3 0 rfl rfl h.1 d_M_holdsSlots_18 ?_
    have h := h.2
    refine rq_calli (W.runS (As := [.int (f (r13 + (3 : Int32)).toNatClampNeg)]) (rest := []) ⟨hx, hb, hml, hown, hw⟩ (mM_isOfBytes l (f (r13 + (3 : Int32)).toNatClampNeg) _ h) (va_cwS 1 hw g_M_33 rfl rfl rfl (by decide +kernel) ⟨Nat.le_of_ble_eq_true rfl, Nat.le_of_ble_eq_true rfl⟩) preEq rfl rfl hl.1 rfl (lv_room (Nat.le_of_ble_eq_true rfl)) d_M_holdsSlots_19 ⟨Nat.le_of_ble_eq_true rfl, Nat.le_of_ble_eq_true rfl⟩) (fun r19 h => ?_)
    refine lv_if_ne (tgt := 29) hx hb d_M_holdsSlots_22 (by decide) (fun c_22 => ?_) (fun c_22 => ?_)
    · have h := h.2 c_22
      refine lv_iconst (v := (0 : Int32)) hx hb d_M_holdsSlots_29 (by decide) ?_
      exact W.zret (v := (0 : Int32)) (ty := .boolean) hx hb hr9 rfl (fun t ht hW => ⟨_, rfl, h, ht⟩) (fun _ h9 => nomatch h9) d_M_holdsSlots_30
    · have h := h.1 c_22
      refine lv_iconst (v := (1 : Int32)) hx hb d_M_holdsSlots_25 (by decide) ?_
      refine lv_goto (tgt := 30) hx hb d_M_holdsSlots_26 (by decide) ?_
      exact W.zret (v := (1 : Int32)) (ty := .boolean) hx hb hr9 rfl (fun t ht hW => ⟨_, rfl, h, ht⟩) (fun _ h9 => nomatch h9) d_M_holdsSlots_30
def wqM_holdsBytes (nW : Nat) (nE : Nat) (f : Nat → Int32) (P : Nat → Int32) (a1 : Int32) (post : Int32 → Prop) : Prop :=
  wqV_isObject a1 (fun r1 => (r1 = 0 → (post (0 : Int32))) ∧ (¬ (r1 = 0) → (wqM_place nW nE P a1 (fun r13 => vp_in (r13 + (3 : Int32)) nW ∧ (wqM_isOfBytes (f (r13 + (3 : Int32)).toNatClampNeg) (fun r19 => (r19 = 0 → (post (0 : Int32))) ∧ (¬ (r19 = 0) → (post (1 : Int32)))))))))
set_option maxHeartbeats 4000000 in
set_option maxRecDepth 100000 in
theorem mM_holdsBytes (l : Launch) (dC : Nat → ClassId) (dI : Nat → Nat → Nat) (cA : ClassId) (a0 : Nat) (aR : Nat) (aM : Nat) (aW : Nat) (aP : Nat) (aS : Nat) (aC : Nat) (aO : Nat) (nW : Nat) (nE : Nat) (R : Nat → Int32) (f : Nat → Int32) (us : Int32) (P : Nat → Int32) (S : Nat → Int32) (sc : Int32) (li : Int32) (rc : Nat → Int32) (rn : Int32) (ro : Nat → Int32) (rd : Int32) (st : Int32) (a1 : Int32) (post : Int32 → Prop) (h : wqM_holdsBytes nW nE f P a1 post) : Met l y_M_holdsBytes ws_M_holdsBytes ({ frames := 2, cells := 0, slots := 0, locals := 41 }) (ro_P (dC, dI) vwCl (TSw cA a0 aR aM aW aP aS aC aO nW nE R f us P S sc li rc rn ro rd st) [(cA, .int)] [.ref aM, .int a1]) (rq_i post) 0 0 (fun _ => False) := by
  refine Met.ofW (cc := c_M_holdsBytes) (maxL := 2) (ret := (some .boolean)) (by decide) rfl ?_
  intro p e s m args below meth c s₁ B hml hv
  obtain ⟨rfl, hP, hK⟩ := hv
  have hx := B.exec
  have hb := B.bytes
  have hr9 := B.returns
  have hts := atoms_spec (ws := ws_M_holdsBytes) B.pre
  have hw : ∀ w ∈ WB_, w.before _ s = true := fun w h => hts w (List.mem_cons_of_mem _ h)
  have hown : s.vm.findClass R_M = some m.cls := findClass_of_methodNamed B.named
  have hlocks := B.notSynchronized
  have hl := lv_entry ([.ref aM, .int a1]) (n := 2) (Nat.le_of_ble_eq_true rfl)
  rw [lg_entry_eq]
  generalize (lg_sl ([.ref aM, .int a1]) ++ List.replicate (2 - (lg_sl ([.ref aM, .int a1])).length) Slot.unset).toArray = ls at hl ⊢
  have hl : lv_has ls 2 [(0, .ref aM), (1, .int a1)] := hl
  unfold wqM_holdsBytes at h
  refine lv_iload_n hx hb d_M_holdsBytes_0 rfl (lv_at hl 1 rfl) ?_
  refine rq_calli (W.runS (As := [.int a1]) (rest := []) ⟨hx, hb, hml, hown, hw⟩ (mV_isObject l a1 _ h) (va_cwS 1 hw g_M_43 rfl rfl rfl (by decide +kernel) ⟨Nat.le_of_ble_eq_true rfl, Nat.le_of_ble_eq_true rfl⟩) preEq rfl rfl hl.1 rfl (lv_room (Nat.le_of_ble_eq_true rfl)) d_M_holdsBytes_1 ⟨Nat.le_of_ble_eq_true rfl, Nat.le_of_ble_eq_true rfl⟩) (fun r1 h => ?_)
  refine lv_if_eq (tgt := 29) hx hb d_M_holdsBytes_4 (by decide) (fun c_4 => ?_) (fun c_4 => ?_)
  · have h := h.1 c_4
    refine lv_iconst (v := (0 : Int32)) hx hb d_M_holdsBytes_29 (by decide) ?_
    exact W.zret (v := (0 : Int32)) (ty := .boolean) hx hb hr9 rfl (fun t ht hW => ⟨_, rfl, h, ht⟩) (fun _ h9 => nomatch h9) d_M_holdsBytes_30
  · have h := h.2 c_4
    refine lv_aload_n hx hb d_M_holdsBytes_7 rfl (lv_at hl 0 rfl) ?_
    refine va_get (D := (dC, dI)) (ci := 1) (v := .ref aW) (C := R_M) (T := T_M) (N := 11) hx hb hw in_M hown hK hP 2 rfl rfl 0 (by decide) (hw _ wd_63) (fun _ h9 => h9) rfl d_M_holdsBytes_8 ?_
    refine lv_aload_n hx hb d_M_holdsBytes_11 rfl (lv_at hl 0 rfl) ?_
    refine lv_iload_n hx hb d_M_holdsBytes_12 rfl (lv_at hl 1 rfl) ?_
    refine rq_calli (W.runV (As := [.int a1]) (rest := [.ref aW]) ⟨hx, hb, hml, hown, hw⟩ (mM_place l dC dI cA a0 aR aM aW aP aS aC aO nW nE R f us P S sc li rc rn ro rd st a1 _ h) (cwV 1 hw g_M_46 rfl rfl rfl (by decide +kernel) ⟨Nat.le_of_ble_eq_true rfl, Nat.le_of_ble_eq_true rfl⟩) (ro_PV (ci := 1) (q0 := 2) hK hP rfl rfl) rfl rfl hl.1 rfl (lv_room (Nat.le_of_ble_eq_true rfl)) d_M_holdsBytes_13 ⟨Nat.le_of_ble_eq_true rfl, Nat.le_of_ble_eq_true rfl⟩) (fun r13 h => ?_)
    refine lv_iconst (v := (3 : Int32)) hx hb d_M_holdsBytes_16 (by decide) ?_
    refine lv_iadd hx hb d_M_holdsBytes_17 ?_
    refine va_iald hx hb hK hP 3 0 rfl rfl h.1 d_M_holdsBytes_18 ?_
    have h := h.2
    refine rq_calli (W.runS (As := [.int (f (r13 + (3 : Int32)).toNatClampNeg)]) (rest := []) ⟨hx, hb, hml, hown, hw⟩ (mM_isOfBytes l (f (r13 + (3 : Int32)).toNatClampNeg) _ h) (va_cwS 1 hw g_M_33 rfl rfl rfl (by decide +kernel) ⟨Nat.le_of_ble_eq_true rfl, Nat.le_of_ble_eq_true rfl⟩) preEq rfl rfl hl.1 rfl (lv_room (Nat.le_of_ble_eq_true rfl)) d_M_holdsBytes_19 ⟨Nat.le_of_ble_eq_true rfl, Nat.le_of_ble_eq_true rfl⟩) (fun r19 h => ?_)
    refine lv_if_eq (tgt := 29) hx hb d_M_holdsBytes_22 (by decide) (fun c_22 => ?_) (fun c_22 => ?_)
    · have h := h.1 c_22
      refine lv_iconst (v := (0 : Int32)) hx hb d_M_holdsBytes_29 (by decide) ?_
      exact W.zret (v := (0 : Int32)) (ty := .boolean) hx hb hr9 rfl (fun t ht hW => ⟨_, rfl, h, ht⟩) (fun _ h9 => nomatch h9) d_M_holdsBytes_30
    · have h := h.2 c_22
      refine lv_iconst (v := (1 : Int32)) hx hb d_M_holdsBytes_25 (by decide) ?_
      refine lv_goto (tgt := 30) hx hb d_M_holdsBytes_26 (by decide) ?_
      exact W.zret (v := (1 : Int32)) (ty := .boolean) hx hb hr9 rfl (fun t ht hW => ⟨_, rfl, h, ht⟩) (fun _ h9 => nomatch h9) d_M_holdsBytes_30
def wqM_count (nW : Nat) (nE : Nat) (f : Nat → Int32) (P : Nat → Int32) (a1 : Int32) (post : Int32 → Prop) : Prop :=
  wqM_place nW nE P a1 (fun r6 => vp_in (r6 + (3 : Int32)) nW ∧ (post ((f (r6 + (3 : Int32)).toNatClampNeg) >>> ((1 : Int32) &&& 31))))
set_option maxHeartbeats 4000000 in
set_option maxRecDepth 100000 in
theorem mM_count (l : Launch) (dC : Nat → ClassId) (dI : Nat → Nat → Nat) (cA : ClassId) (a0 : Nat) (aR : Nat) (aM : Nat) (aW : Nat) (aP : Nat) (aS : Nat) (aC : Nat) (aO : Nat) (nW : Nat) (nE : Nat) (R : Nat → Int32) (f : Nat → Int32) (us : Int32) (P : Nat → Int32) (S : Nat → Int32) (sc : Int32) (li : Int32) (rc : Nat → Int32) (rn : Int32) (ro : Nat → Int32) (rd : Int32) (st : Int32) (a1 : Int32) (post : Int32 → Prop) (h : wqM_count nW nE f P a1 post) : Met l y_M_count ws_M_count ({ frames := 2, cells := 0, slots := 0, locals := 41 }) (ro_P (dC, dI) vwCl (TSw cA a0 aR aM aW aP aS aC aO nW nE R f us P S sc li rc rn ro rd st) [(cA, .int)] [.ref aM, .int a1]) (rq_i post) 0 0 (fun _ => False) := by
  refine Met.ofW (cc := c_M_count) (maxL := 2) (ret := (some .int)) (by decide) rfl ?_
  intro p e s m args below meth c s₁ B hml hv
  obtain ⟨rfl, hP, hK⟩ := hv
  have hx := B.exec
  have hb := B.bytes
  have hr9 := B.returns
  have hts := atoms_spec (ws := ws_M_count) B.pre
  have hw : ∀ w ∈ WB_, w.before _ s = true := fun w h => hts w (List.mem_cons_of_mem _ h)
  have hown : s.vm.findClass R_M = some m.cls := findClass_of_methodNamed B.named
  have hlocks := B.notSynchronized
  have hl := lv_entry ([.ref aM, .int a1]) (n := 2) (Nat.le_of_ble_eq_true rfl)
  rw [lg_entry_eq]
  generalize (lg_sl ([.ref aM, .int a1]) ++ List.replicate (2 - (lg_sl ([.ref aM, .int a1])).length) Slot.unset).toArray = ls at hl ⊢
  have hl : lv_has ls 2 [(0, .ref aM), (1, .int a1)] := hl
  unfold wqM_count at h
  refine lv_aload_n hx hb d_M_count_0 rfl (lv_at hl 0 rfl) ?_
  refine va_get (D := (dC, dI)) (ci := 1) (v := .ref aW) (C := R_M) (T := T_M) (N := 11) hx hb hw in_M hown hK hP 2 rfl rfl 0 (by decide) (hw _ wd_63) (fun _ h9 => h9) rfl d_M_count_1 ?_
  refine lv_aload_n hx hb d_M_count_4 rfl (lv_at hl 0 rfl) ?_
  refine lv_iload_n hx hb d_M_count_5 rfl (lv_at hl 1 rfl) ?_
  refine rq_calli (W.runV (As := [.int a1]) (rest := [.ref aW]) ⟨hx, hb, hml, hown, hw⟩ (mM_place l dC dI cA a0 aR aM aW aP aS aC aO nW nE R f us P S sc li rc rn ro rd st a1 _ h) (cwV 1 hw g_M_46 rfl rfl rfl (by decide +kernel) ⟨Nat.le_of_ble_eq_true rfl, Nat.le_of_ble_eq_true rfl⟩) (ro_PV (ci := 1) (q0 := 2) hK hP rfl rfl) rfl rfl hl.1 rfl (lv_room (Nat.le_of_ble_eq_true rfl)) d_M_count_6 ⟨Nat.le_of_ble_eq_true rfl, Nat.le_of_ble_eq_true rfl⟩) (fun r6 h => ?_)
  refine lv_iconst (v := (3 : Int32)) hx hb d_M_count_9 (by decide) ?_
  refine lv_iadd hx hb d_M_count_10 ?_
  refine va_iald hx hb hK hP 3 0 rfl rfl h.1 d_M_count_11 ?_
  have h := h.2
  refine lv_iconst (v := (1 : Int32)) hx hb d_M_count_12 (by decide) ?_
  refine lv_ishr hx hb d_M_count_13 ?_
  exact W.iret (v := (f (r6 + (3 : Int32)).toNatClampNeg) >>> ((1 : Int32) &&& 31)) hx hb hr9 (fun t ht hW => ⟨_, rfl, h, ht⟩) (fun _ h9 => nomatch h9) d_M_count_14
def wqM_identity (nW : Nat) (nE : Nat) (f : Nat → Int32) (P : Nat → Int32) (a1 : Int32) (post : Int32 → Prop) : Prop :=
  wqM_place nW nE P a1 (fun r6 => vp_in (r6 + (1 : Int32)) nW ∧ (post (f (r6 + (1 : Int32)).toNatClampNeg)))
set_option maxHeartbeats 4000000 in
set_option maxRecDepth 100000 in
theorem mM_identity (l : Launch) (dC : Nat → ClassId) (dI : Nat → Nat → Nat) (cA : ClassId) (a0 : Nat) (aR : Nat) (aM : Nat) (aW : Nat) (aP : Nat) (aS : Nat) (aC : Nat) (aO : Nat) (nW : Nat) (nE : Nat) (R : Nat → Int32) (f : Nat → Int32) (us : Int32) (P : Nat → Int32) (S : Nat → Int32) (sc : Int32) (li : Int32) (rc : Nat → Int32) (rn : Int32) (ro : Nat → Int32) (rd : Int32) (st : Int32) (a1 : Int32) (post : Int32 → Prop) (h : wqM_identity nW nE f P a1 post) : Met l y_M_identity ws_M_identity ({ frames := 2, cells := 0, slots := 0, locals := 41 }) (ro_P (dC, dI) vwCl (TSw cA a0 aR aM aW aP aS aC aO nW nE R f us P S sc li rc rn ro rd st) [(cA, .int)] [.ref aM, .int a1]) (rq_i post) 0 0 (fun _ => False) := by
  refine Met.ofW (cc := c_M_identity) (maxL := 2) (ret := (some .int)) (by decide) rfl ?_
  intro p e s m args below meth c s₁ B hml hv
  obtain ⟨rfl, hP, hK⟩ := hv
  have hx := B.exec
  have hb := B.bytes
  have hr9 := B.returns
  have hts := atoms_spec (ws := ws_M_identity) B.pre
  have hw : ∀ w ∈ WB_, w.before _ s = true := fun w h => hts w (List.mem_cons_of_mem _ h)
  have hown : s.vm.findClass R_M = some m.cls := findClass_of_methodNamed B.named
  have hlocks := B.notSynchronized
  have hl := lv_entry ([.ref aM, .int a1]) (n := 2) (Nat.le_of_ble_eq_true rfl)
  rw [lg_entry_eq]
  generalize (lg_sl ([.ref aM, .int a1]) ++ List.replicate (2 - (lg_sl ([.ref aM, .int a1])).length) Slot.unset).toArray = ls at hl ⊢
  have hl : lv_has ls 2 [(0, .ref aM), (1, .int a1)] := hl
  unfold wqM_identity at h
  refine lv_aload_n hx hb d_M_identity_0 rfl (lv_at hl 0 rfl) ?_
  refine va_get (D := (dC, dI)) (ci := 1) (v := .ref aW) (C := R_M) (T := T_M) (N := 11) hx hb hw in_M hown hK hP 2 rfl rfl 0 (by decide) (hw _ wd_63) (fun _ h9 => h9) rfl d_M_identity_1 ?_
  refine lv_aload_n hx hb d_M_identity_4 rfl (lv_at hl 0 rfl) ?_
  refine lv_iload_n hx hb d_M_identity_5 rfl (lv_at hl 1 rfl) ?_
  refine rq_calli (W.runV (As := [.int a1]) (rest := [.ref aW]) ⟨hx, hb, hml, hown, hw⟩ (mM_place l dC dI cA a0 aR aM aW aP aS aC aO nW nE R f us P S sc li rc rn ro rd st a1 _ h) (cwV 1 hw g_M_46 rfl rfl rfl (by decide +kernel) ⟨Nat.le_of_ble_eq_true rfl, Nat.le_of_ble_eq_true rfl⟩) (ro_PV (ci := 1) (q0 := 2) hK hP rfl rfl) rfl rfl hl.1 rfl (lv_room (Nat.le_of_ble_eq_true rfl)) d_M_identity_6 ⟨Nat.le_of_ble_eq_true rfl, Nat.le_of_ble_eq_true rfl⟩) (fun r6 h => ?_)
  refine lv_iconst (v := (1 : Int32)) hx hb d_M_identity_9 (by decide) ?_
  refine lv_iadd hx hb d_M_identity_10 ?_
  refine va_iald hx hb hK hP 3 0 rfl rfl h.1 d_M_identity_11 ?_
  have h := h.2
  exact W.iret (v := f (r6 + (1 : Int32)).toNatClampNeg) hx hb hr9 (fun t ht hW => ⟨_, rfl, h, ht⟩) (fun _ h9 => nomatch h9) d_M_identity_12
def wqM_itsClass (nW : Nat) (nE : Nat) (f : Nat → Int32) (P : Nat → Int32) (a1 : Int32) (post : Int32 → Prop) : Prop :=
  wqM_place nW nE P a1 (fun r6 => vp_in (r6 + (2 : Int32)) nW ∧ (post (f (r6 + (2 : Int32)).toNatClampNeg)))
set_option maxHeartbeats 4000000 in
set_option maxRecDepth 100000 in
theorem mM_itsClass (l : Launch) (dC : Nat → ClassId) (dI : Nat → Nat → Nat) (cA : ClassId) (a0 : Nat) (aR : Nat) (aM : Nat) (aW : Nat) (aP : Nat) (aS : Nat) (aC : Nat) (aO : Nat) (nW : Nat) (nE : Nat) (R : Nat → Int32) (f : Nat → Int32) (us : Int32) (P : Nat → Int32) (S : Nat → Int32) (sc : Int32) (li : Int32) (rc : Nat → Int32) (rn : Int32) (ro : Nat → Int32) (rd : Int32) (st : Int32) (a1 : Int32) (post : Int32 → Prop) (h : wqM_itsClass nW nE f P a1 post) : Met l y_M_itsClass ws_M_itsClass ({ frames := 2, cells := 0, slots := 0, locals := 41 }) (ro_P (dC, dI) vwCl (TSw cA a0 aR aM aW aP aS aC aO nW nE R f us P S sc li rc rn ro rd st) [(cA, .int)] [.ref aM, .int a1]) (rq_i post) 0 0 (fun _ => False) := by
  refine Met.ofW (cc := c_M_itsClass) (maxL := 2) (ret := (some .int)) (by decide) rfl ?_
  intro p e s m args below meth c s₁ B hml hv
  obtain ⟨rfl, hP, hK⟩ := hv
  have hx := B.exec
  have hb := B.bytes
  have hr9 := B.returns
  have hts := atoms_spec (ws := ws_M_itsClass) B.pre
  have hw : ∀ w ∈ WB_, w.before _ s = true := fun w h => hts w (List.mem_cons_of_mem _ h)
  have hown : s.vm.findClass R_M = some m.cls := findClass_of_methodNamed B.named
  have hlocks := B.notSynchronized
  have hl := lv_entry ([.ref aM, .int a1]) (n := 2) (Nat.le_of_ble_eq_true rfl)
  rw [lg_entry_eq]
  generalize (lg_sl ([.ref aM, .int a1]) ++ List.replicate (2 - (lg_sl ([.ref aM, .int a1])).length) Slot.unset).toArray = ls at hl ⊢
  have hl : lv_has ls 2 [(0, .ref aM), (1, .int a1)] := hl
  unfold wqM_itsClass at h
  refine lv_aload_n hx hb d_M_itsClass_0 rfl (lv_at hl 0 rfl) ?_
  refine va_get (D := (dC, dI)) (ci := 1) (v := .ref aW) (C := R_M) (T := T_M) (N := 11) hx hb hw in_M hown hK hP 2 rfl rfl 0 (by decide) (hw _ wd_63) (fun _ h9 => h9) rfl d_M_itsClass_1 ?_
  refine lv_aload_n hx hb d_M_itsClass_4 rfl (lv_at hl 0 rfl) ?_
  refine lv_iload_n hx hb d_M_itsClass_5 rfl (lv_at hl 1 rfl) ?_
  refine rq_calli (W.runV (As := [.int a1]) (rest := [.ref aW]) ⟨hx, hb, hml, hown, hw⟩ (mM_place l dC dI cA a0 aR aM aW aP aS aC aO nW nE R f us P S sc li rc rn ro rd st a1 _ h) (cwV 1 hw g_M_46 rfl rfl rfl (by decide +kernel) ⟨Nat.le_of_ble_eq_true rfl, Nat.le_of_ble_eq_true rfl⟩) (ro_PV (ci := 1) (q0 := 2) hK hP rfl rfl) rfl rfl hl.1 rfl (lv_room (Nat.le_of_ble_eq_true rfl)) d_M_itsClass_6 ⟨Nat.le_of_ble_eq_true rfl, Nat.le_of_ble_eq_true rfl⟩) (fun r6 h => ?_)
  refine lv_iconst (v := (2 : Int32)) hx hb d_M_itsClass_9 (by decide) ?_
  refine lv_iadd hx hb d_M_itsClass_10 ?_
  refine va_iald hx hb hK hP 3 0 rfl rfl h.1 d_M_itsClass_11 ?_
  have h := h.2
  exact W.iret (v := f (r6 + (2 : Int32)).toNatClampNeg) hx hb hr9 (fun t ht hW => ⟨_, rfl, h, ht⟩) (fun _ h9 => nomatch h9) d_M_itsClass_12
def wqM_slot (nW : Nat) (nE : Nat) (f : Nat → Int32) (P : Nat → Int32) (a1 : Int32) (a2 : Int32) (post : Int32 → Prop) : Prop :=
  wqM_place nW nE P a1 (fun r6 => vp_in ((r6 + (4 : Int32)) + a2) nW ∧ (post (f ((r6 + (4 : Int32)) + a2).toNatClampNeg)))
set_option maxHeartbeats 4000000 in
set_option maxRecDepth 100000 in
theorem mM_slot (l : Launch) (dC : Nat → ClassId) (dI : Nat → Nat → Nat) (cA : ClassId) (a0 : Nat) (aR : Nat) (aM : Nat) (aW : Nat) (aP : Nat) (aS : Nat) (aC : Nat) (aO : Nat) (nW : Nat) (nE : Nat) (R : Nat → Int32) (f : Nat → Int32) (us : Int32) (P : Nat → Int32) (S : Nat → Int32) (sc : Int32) (li : Int32) (rc : Nat → Int32) (rn : Int32) (ro : Nat → Int32) (rd : Int32) (st : Int32) (a1 : Int32) (a2 : Int32) (post : Int32 → Prop) (h : wqM_slot nW nE f P a1 a2 post) : Met l y_M_slot ws_M_slot ({ frames := 2, cells := 0, slots := 0, locals := 41 }) (ro_P (dC, dI) vwCl (TSw cA a0 aR aM aW aP aS aC aO nW nE R f us P S sc li rc rn ro rd st) [(cA, .int)] [.ref aM, .int a1, .int a2]) (rq_i post) 0 0 (fun _ => False) := by
  refine Met.ofW (cc := c_M_slot) (maxL := 3) (ret := (some .int)) (by decide) rfl ?_
  intro p e s m args below meth c s₁ B hml hv
  obtain ⟨rfl, hP, hK⟩ := hv
  have hx := B.exec
  have hb := B.bytes
  have hr9 := B.returns
  have hts := atoms_spec (ws := ws_M_slot) B.pre
  have hw : ∀ w ∈ WB_, w.before _ s = true := fun w h => hts w (List.mem_cons_of_mem _ h)
  have hown : s.vm.findClass R_M = some m.cls := findClass_of_methodNamed B.named
  have hlocks := B.notSynchronized
  have hl := lv_entry ([.ref aM, .int a1, .int a2]) (n := 3) (Nat.le_of_ble_eq_true rfl)
  rw [lg_entry_eq]
  generalize (lg_sl ([.ref aM, .int a1, .int a2]) ++ List.replicate (3 - (lg_sl ([.ref aM, .int a1, .int a2])).length) Slot.unset).toArray = ls at hl ⊢
  have hl : lv_has ls 3 [(0, .ref aM), (1, .int a1), (2, .int a2)] := hl
  unfold wqM_slot at h
  refine lv_aload_n hx hb d_M_slot_0 rfl (lv_at hl 0 rfl) ?_
  refine va_get (D := (dC, dI)) (ci := 1) (v := .ref aW) (C := R_M) (T := T_M) (N := 11) hx hb hw in_M hown hK hP 2 rfl rfl 0 (by decide) (hw _ wd_63) (fun _ h9 => h9) rfl d_M_slot_1 ?_
  refine lv_aload_n hx hb d_M_slot_4 rfl (lv_at hl 0 rfl) ?_
  refine lv_iload_n hx hb d_M_slot_5 rfl (lv_at hl 1 rfl) ?_
  refine rq_calli (W.runV (As := [.int a1]) (rest := [.ref aW]) ⟨hx, hb, hml, hown, hw⟩ (mM_place l dC dI cA a0 aR aM aW aP aS aC aO nW nE R f us P S sc li rc rn ro rd st a1 _ h) (cwV 1 hw g_M_46 rfl rfl rfl (by decide +kernel) ⟨Nat.le_of_ble_eq_true rfl, Nat.le_of_ble_eq_true rfl⟩) (ro_PV (ci := 1) (q0 := 2) hK hP rfl rfl) rfl rfl hl.1 rfl (lv_room (Nat.le_of_ble_eq_true rfl)) d_M_slot_6 ⟨Nat.le_of_ble_eq_true rfl, Nat.le_of_ble_eq_true rfl⟩) (fun r6 h => ?_)
  refine lv_iconst (v := (4 : Int32)) hx hb d_M_slot_9 (by decide) ?_
  refine lv_iadd hx hb d_M_slot_10 ?_
  refine lv_iload_n hx hb d_M_slot_11 rfl (lv_at hl 2 rfl) ?_
  refine lv_iadd hx hb d_M_slot_12 ?_
  refine va_iald hx hb hK hP 3 0 rfl rfl h.1 d_M_slot_13 ?_
  have h := h.2
  exact W.iret (v := f ((r6 + (4 : Int32)) + a2).toNatClampNeg) hx hb hr9 (fun t ht hW => ⟨_, rfl, h, ht⟩) (fun _ h9 => nomatch h9) d_M_slot_14
def wqM_oneByte (nW : Nat) (nE : Nat) (f : Nat → Int32) (P : Nat → Int32) (a1 : Int32) (a2 : Int32) (post : Int32 → Prop) : Prop :=
  wqM_place nW nE P a1 (fun r6 => vp_in ((r6 + (4 : Int32)) + (a2 >>> ((2 : Int32) &&& 31))) nW ∧ (wqM_shiftOf a2 (fun r19 => post ((((f ((r6 + (4 : Int32)) + (a2 >>> ((2 : Int32) &&& 31))).toNatClampNeg).toUInt32 >>> (r19.toUInt32 &&& Int32.toUInt32 31)).toInt32) &&& (255 : Int32)))))
set_option maxHeartbeats 4000000 in
set_option maxRecDepth 100000 in
theorem mM_oneByte (l : Launch) (dC : Nat → ClassId) (dI : Nat → Nat → Nat) (cA : ClassId) (a0 : Nat) (aR : Nat) (aM : Nat) (aW : Nat) (aP : Nat) (aS : Nat) (aC : Nat) (aO : Nat) (nW : Nat) (nE : Nat) (R : Nat → Int32) (f : Nat → Int32) (us : Int32) (P : Nat → Int32) (S : Nat → Int32) (sc : Int32) (li : Int32) (rc : Nat → Int32) (rn : Int32) (ro : Nat → Int32) (rd : Int32) (st : Int32) (a1 : Int32) (a2 : Int32) (post : Int32 → Prop) (h : wqM_oneByte nW nE f P a1 a2 post) : Met l y_M_oneByte ws_M_oneByte ({ frames := 2, cells := 0, slots := 0, locals := 41 }) (ro_P (dC, dI) vwCl (TSw cA a0 aR aM aW aP aS aC aO nW nE R f us P S sc li rc rn ro rd st) [(cA, .int)] [.ref aM, .int a1, .int a2]) (rq_i post) 0 0 (fun _ => False) := by
  refine Met.ofW (cc := c_M_oneByte) (maxL := 4) (ret := (some .int)) (by decide) rfl ?_
  intro p e s m args below meth c s₁ B hml hv
  obtain ⟨rfl, hP, hK⟩ := hv
  have hx := B.exec
  have hb := B.bytes
  have hr9 := B.returns
  have hts := atoms_spec (ws := ws_M_oneByte) B.pre
  have hw : ∀ w ∈ WB_, w.before _ s = true := fun w h => hts w (List.mem_cons_of_mem _ h)
  have hown : s.vm.findClass R_M = some m.cls := findClass_of_methodNamed B.named
  have hlocks := B.notSynchronized
  have hl := lv_entry ([.ref aM, .int a1, .int a2]) (n := 4) (Nat.le_of_ble_eq_true rfl)
  rw [lg_entry_eq]
  generalize (lg_sl ([.ref aM, .int a1, .int a2]) ++ List.replicate (4 - (lg_sl ([.ref aM, .int a1, .int a2])).length) Slot.unset).toArray = ls at hl ⊢
  have hl : lv_has ls 4 [(0, .ref aM), (1, .int a1), (2, .int a2)] := hl
  unfold wqM_oneByte at h
  refine lv_aload_n hx hb d_M_oneByte_0 rfl (lv_at hl 0 rfl) ?_
  refine va_get (D := (dC, dI)) (ci := 1) (v := .ref aW) (C := R_M) (T := T_M) (N := 11) hx hb hw in_M hown hK hP 2 rfl rfl 0 (by decide) (hw _ wd_63) (fun _ h9 => h9) rfl d_M_oneByte_1 ?_
  refine lv_aload_n hx hb d_M_oneByte_4 rfl (lv_at hl 0 rfl) ?_
  refine lv_iload_n hx hb d_M_oneByte_5 rfl (lv_at hl 1 rfl) ?_
  refine rq_calli (W.runV (As := [.int a1]) (rest := [.ref aW]) ⟨hx, hb, hml, hown, hw⟩ (mM_place l dC dI cA a0 aR aM aW aP aS aC aO nW nE R f us P S sc li rc rn ro rd st a1 _ h) (cwV 1 hw g_M_46 rfl rfl rfl (by decide +kernel) ⟨Nat.le_of_ble_eq_true rfl, Nat.le_of_ble_eq_true rfl⟩) (ro_PV (ci := 1) (q0 := 2) hK hP rfl rfl) rfl rfl hl.1 rfl (lv_room (Nat.le_of_ble_eq_true rfl)) d_M_oneByte_6 ⟨Nat.le_of_ble_eq_true rfl, Nat.le_of_ble_eq_true rfl⟩) (fun r6 h => ?_)
  refine lv_iconst (v := (4 : Int32)) hx hb d_M_oneByte_9 (by decide) ?_
  refine lv_iadd hx hb d_M_oneByte_10 ?_
  refine lv_iload_n hx hb d_M_oneByte_11 rfl (lv_at hl 2 rfl) ?_
  refine lv_iconst (v := (2 : Int32)) hx hb d_M_oneByte_12 (by decide) ?_
  refine lv_ishr hx hb d_M_oneByte_13 ?_
  refine lv_iadd hx hb d_M_oneByte_14 ?_
  refine va_iald hx hb hK hP 3 0 rfl rfl h.1 d_M_oneByte_15 ?_
  have h := h.2
  refine lv_istore_n (lv' := [(3, .int (f ((r6 + (4 : Int32)) + (a2 >>> ((2 : Int32) &&& 31))).toNatClampNeg)), (0, .ref aM), (1, .int a1), (2, .int a2)]) hx hb d_M_oneByte_16 rfl hl (by decide) rfl (fun ls hl => ?_)
  refine lv_iload_n hx hb d_M_oneByte_17 rfl (lv_at hl 0 rfl) ?_
  refine lv_iload_n hx hb d_M_oneByte_18 rfl (lv_at hl 3 rfl) ?_
  refine rq_calli (W.runS (As := [.int a2]) (rest := [.int (f ((r6 + (4 : Int32)) + (a2 >>> ((2 : Int32) &&& 31))).toNatClampNeg)]) ⟨hx, hb, hml, hown, hw⟩ (mM_shiftOf l a2 _ h) (va_cwS 1 hw g_M_53 rfl rfl rfl (by decide +kernel) ⟨Nat.le_of_ble_eq_true rfl, Nat.le_of_ble_eq_true rfl⟩) preEq rfl rfl hl.1 rfl (lv_room (Nat.le_of_ble_eq_true rfl)) d_M_oneByte_19 ⟨Nat.le_of_ble_eq_true rfl, Nat.le_of_ble_eq_true rfl⟩) (fun r19 h => ?_)
  refine lv_iushr (v := ((f ((r6 + (4 : Int32)) + (a2 >>> ((2 : Int32) &&& 31))).toNatClampNeg).toUInt32 >>> (r19.toUInt32 &&& Int32.toUInt32 31)).toInt32) hx hb d_M_oneByte_22 rfl ?_
  refine lv_sipush (v := (255 : Int32)) hx hb d_M_oneByte_23 (by decide) ?_
  refine lv_iand hx hb d_M_oneByte_26 ?_
  exact W.iret (v := (((f ((r6 + (4 : Int32)) + (a2 >>> ((2 : Int32) &&& 31))).toNatClampNeg).toUInt32 >>> (r19.toUInt32 &&& Int32.toUInt32 31)).toInt32) &&& (255 : Int32)) hx hb hr9 (fun t ht hW => ⟨_, rfl, h, ht⟩) (fun _ h9 => nomatch h9) d_M_oneByte_27
def wqM_freeWords (nW : Nat) (nE : Nat) (us : Int32) (post : Int32 → Prop) : Prop :=
  post ((nI nW) - us)
set_option maxHeartbeats 4000000 in
set_option maxRecDepth 100000 in
theorem mM_freeWords (l : Launch) (dC : Nat → ClassId) (dI : Nat → Nat → Nat) (cA : ClassId) (a0 : Nat) (aR : Nat) (aM : Nat) (aW : Nat) (aP : Nat) (aS : Nat) (aC : Nat) (aO : Nat) (nW : Nat) (nE : Nat) (R : Nat → Int32) (f : Nat → Int32) (us : Int32) (P : Nat → Int32) (S : Nat → Int32) (sc : Int32) (li : Int32) (rc : Nat → Int32) (rn : Int32) (ro : Nat → Int32) (rd : Int32) (st : Int32) (post : Int32 → Prop) (h : wqM_freeWords nW nE us post) : Met l y_M_freeWords ws_M_freeWords ({ frames := 0, cells := 0, slots := 0, locals := 0 }) (ro_P (dC, dI) vwCl (TSw cA a0 aR aM aW aP aS aC aO nW nE R f us P S sc li rc rn ro rd st) [(cA, .int)] [.ref aM]) (rq_i post) 0 0 (fun _ => False) := by
  refine Met.ofW (cc := c_M_freeWords) (maxL := 1) (ret := (some .int)) (by decide) rfl ?_
  intro p e s m args below meth c s₁ B hml hv
  obtain ⟨rfl, hP, hK⟩ := hv
  have hx := B.exec
  have hb := B.bytes
  have hr9 := B.returns
  have hts := atoms_spec (ws := ws_M_freeWords) B.pre
  have hw : ∀ w ∈ WB_, w.before _ s = true := fun w h => hts w (List.mem_cons_of_mem _ h)
  have hown : s.vm.findClass R_M = some m.cls := findClass_of_methodNamed B.named
  have hlocks := B.notSynchronized
  have hl := lv_entry ([.ref aM]) (n := 1) (Nat.le_of_ble_eq_true rfl)
  rw [lg_entry_eq]
  generalize (lg_sl ([.ref aM]) ++ List.replicate (1 - (lg_sl ([.ref aM])).length) Slot.unset).toArray = ls at hl ⊢
  have hl : lv_has ls 1 [(0, .ref aM)] := hl
  unfold wqM_freeWords at h
  refine lv_aload_n hx hb d_M_freeWords_0 rfl (lv_at hl 0 rfl) ?_
  refine va_get (D := (dC, dI)) (ci := 1) (v := .ref aW) (C := R_M) (T := T_M) (N := 11) hx hb hw in_M hown hK hP 2 rfl rfl 0 (by decide) (hw _ wd_63) (fun _ h9 => h9) rfl d_M_freeWords_1 ?_
  refine va_alen (v := nI nW) hx hb hK hP 3 0 rfl rfl rfl d_M_freeWords_4 ?_
  refine lv_aload_n hx hb d_M_freeWords_5 rfl (lv_at hl 0 rfl) ?_
  refine va_get (D := (dC, dI)) (ci := 1) (v := .int us) (C := R_M) (T := T_M) (N := 11) hx hb hw in_M hown hK hP 2 rfl rfl 1 (by decide) (hw _ wd_64) (fun _ h9 => h9) rfl d_M_freeWords_6 ?_
  refine lv_isub hx hb d_M_freeWords_9 ?_
  exact W.iret (v := (nI nW) - us) hx hb hr9 (fun t ht hW => ⟨_, rfl, h, ht⟩) (fun _ h9 => nomatch h9) d_M_freeWords_10
def wqM_freeEntries (nW : Nat) (nE : Nat) (sc : Int32) (post : Int32 → Prop) : Prop :=
  post sc
set_option maxHeartbeats 4000000 in
set_option maxRecDepth 100000 in
theorem mM_freeEntries (l : Launch) (dC : Nat → ClassId) (dI : Nat → Nat → Nat) (cA : ClassId) (a0 : Nat) (aR : Nat) (aM : Nat) (aW : Nat) (aP : Nat) (aS : Nat) (aC : Nat) (aO : Nat) (nW : Nat) (nE : Nat) (R : Nat → Int32) (f : Nat → Int32) (us : Int32) (P : Nat → Int32) (S : Nat → Int32) (sc : Int32) (li : Int32) (rc : Nat → Int32) (rn : Int32) (ro : Nat → Int32) (rd : Int32) (st : Int32) (post : Int32 → Prop) (h : wqM_freeEntries nW nE sc post) : Met l y_M_freeEntries ws_M_freeEntries ({ frames := 0, cells := 0, slots := 0, locals := 0 }) (ro_P (dC, dI) vwCl (TSw cA a0 aR aM aW aP aS aC aO nW nE R f us P S sc li rc rn ro rd st) [(cA, .int)] [.ref aM]) (rq_i post) 0 0 (fun _ => False) := by
  refine Met.ofW (cc := c_M_freeEntries) (maxL := 1) (ret := (some .int)) (by decide) rfl ?_
  intro p e s m args below meth c s₁ B hml hv
  obtain ⟨rfl, hP, hK⟩ := hv
  have hx := B.exec
  have hb := B.bytes
  have hr9 := B.returns
  have hts := atoms_spec (ws := ws_M_freeEntries) B.pre
  have hw : ∀ w ∈ WB_, w.before _ s = true := fun w h => hts w (List.mem_cons_of_mem _ h)
  have hown : s.vm.findClass R_M = some m.cls := findClass_of_methodNamed B.named
  have hlocks := B.notSynchronized
  have hl := lv_entry ([.ref aM]) (n := 1) (Nat.le_of_ble_eq_true rfl)
  rw [lg_entry_eq]
  generalize (lg_sl ([.ref aM]) ++ List.replicate (1 - (lg_sl ([.ref aM])).length) Slot.unset).toArray = ls at hl ⊢
  have hl : lv_has ls 1 [(0, .ref aM)] := hl
  unfold wqM_freeEntries at h
  refine lv_aload_n hx hb d_M_freeEntries_0 rfl (lv_at hl 0 rfl) ?_
  refine va_get (D := (dC, dI)) (ci := 1) (v := .int sc) (C := R_M) (T := T_M) (N := 11) hx hb hw in_M hown hK hP 2 rfl rfl 4 (by decide) (hw _ wd_67) (fun _ h9 => h9) rfl d_M_freeEntries_1 ?_
  exact W.iret (v := sc) hx hb hr9 (fun t ht hW => ⟨_, rfl, h, ht⟩) (fun _ h9 => nomatch h9) d_M_freeEntries_4
def wqM_fits (nW : Nat) (nE : Nat) (us : Int32) (sc : Int32) (a1 : Int32) (post : Int32 → Prop) : Prop :=
  (sc ≤ 0 → (post (0 : Int32))) ∧ (¬ (sc ≤ 0) → (wqM_freeWords nW nE us (fun r9 => (r9 < a1 → (post (0 : Int32))) ∧ (¬ (r9 < a1) → (post (1 : Int32))))))
set_option maxHeartbeats 4000000 in
set_option maxRecDepth 100000 in
theorem mM_fits (l : Launch) (dC : Nat → ClassId) (dI : Nat → Nat → Nat) (cA : ClassId) (a0 : Nat) (aR : Nat) (aM : Nat) (aW : Nat) (aP : Nat) (aS : Nat) (aC : Nat) (aO : Nat) (nW : Nat) (nE : Nat) (R : Nat → Int32) (f : Nat → Int32) (us : Int32) (P : Nat → Int32) (S : Nat → Int32) (sc : Int32) (li : Int32) (rc : Nat → Int32) (rn : Int32) (ro : Nat → Int32) (rd : Int32) (st : Int32) (a1 : Int32) (post : Int32 → Prop) (h : wqM_fits nW nE us sc a1 post) : Met l y_M_fits ws_M_fits ({ frames := 1, cells := 0, slots := 0, locals := 20 }) (ro_P (dC, dI) vwCl (TSw cA a0 aR aM aW aP aS aC aO nW nE R f us P S sc li rc rn ro rd st) [(cA, .int)] [.ref aM, .int a1]) (rq_i post) 0 0 (fun _ => False) := by
  refine Met.ofW (cc := c_M_fits) (maxL := 2) (ret := (some .boolean)) (by decide) rfl ?_
  intro p e s m args below meth c s₁ B hml hv
  obtain ⟨rfl, hP, hK⟩ := hv
  have hx := B.exec
  have hb := B.bytes
  have hr9 := B.returns
  have hts := atoms_spec (ws := ws_M_fits) B.pre
  have hw : ∀ w ∈ WB_, w.before _ s = true := fun w h => hts w (List.mem_cons_of_mem _ h)
  have hown : s.vm.findClass R_M = some m.cls := findClass_of_methodNamed B.named
  have hlocks := B.notSynchronized
  have hl := lv_entry ([.ref aM, .int a1]) (n := 2) (Nat.le_of_ble_eq_true rfl)
  rw [lg_entry_eq]
  generalize (lg_sl ([.ref aM, .int a1]) ++ List.replicate (2 - (lg_sl ([.ref aM, .int a1])).length) Slot.unset).toArray = ls at hl ⊢
  have hl : lv_has ls 2 [(0, .ref aM), (1, .int a1)] := hl
  unfold wqM_fits at h
  refine lv_aload_n hx hb d_M_fits_0 rfl (lv_at hl 0 rfl) ?_
  refine va_get (D := (dC, dI)) (ci := 1) (v := .int sc) (C := R_M) (T := T_M) (N := 11) hx hb hw in_M hown hK hP 2 rfl rfl 4 (by decide) (hw _ wd_67) (fun _ h9 => h9) rfl d_M_fits_1 ?_
  refine lv_if_le (tgt := 19) hx hb d_M_fits_4 (by decide) (fun c_4 => ?_) (fun c_4 => ?_)
  · have h := h.1 c_4
    refine lv_iconst (v := (0 : Int32)) hx hb d_M_fits_19 (by decide) ?_
    exact W.zret (v := (0 : Int32)) (ty := .boolean) hx hb hr9 rfl (fun t ht hW => ⟨_, rfl, h, ht⟩) (fun _ h9 => nomatch h9) d_M_fits_20
  · have h := h.2 c_4
    refine lv_iload_n hx hb d_M_fits_7 rfl (lv_at hl 1 rfl) ?_
    refine lv_aload_n hx hb d_M_fits_8 rfl (lv_at hl 0 rfl) ?_
    refine rq_calli (W.runV (As := []) (rest := [.int a1]) ⟨hx, hb, hml, hown, hw⟩ (mM_freeWords l dC dI cA a0 aR aM aW aP aS aC aO nW nE R f us P S sc li rc rn ro rd st _ h) (cwV 0 hw g_M_92 rfl rfl rfl (by decide +kernel) ⟨Nat.le_of_ble_eq_true rfl, Nat.le_of_ble_eq_true rfl⟩) (ro_PV (ci := 1) (q0 := 2) hK hP rfl rfl) rfl rfl hl.1 rfl (lv_room (Nat.le_of_ble_eq_true rfl)) d_M_fits_9 ⟨Nat.le_of_ble_eq_true rfl, Nat.le_of_ble_eq_true rfl⟩) (fun r9 h => ?_)
    refine lv_icmp_gt (tgt := 19) hx hb d_M_fits_12 (by decide) (fun c_12 => ?_) (fun c_12 => ?_)
    · have h := h.1 c_12
      refine lv_iconst (v := (0 : Int32)) hx hb d_M_fits_19 (by decide) ?_
      exact W.zret (v := (0 : Int32)) (ty := .boolean) hx hb hr9 rfl (fun t ht hW => ⟨_, rfl, h, ht⟩) (fun _ h9 => nomatch h9) d_M_fits_20
    · have h := h.2 c_12
      refine lv_iconst (v := (1 : Int32)) hx hb d_M_fits_15 (by decide) ?_
      refine lv_goto (tgt := 20) hx hb d_M_fits_16 (by decide) ?_
      exact W.zret (v := (1 : Int32)) (ty := .boolean) hx hb hr9 rfl (fun t ht hW => ⟨_, rfl, h, ht⟩) (fun _ h9 => nomatch h9) d_M_fits_20
def wqM_isReached (nW : Nat) (nE : Nat) (ro : Nat → Int32) (rd : Int32) (a1 : Int32) (post : Int32 → Prop) : Prop :=
  vp_in a1 nE ∧ (((ro a1.toNatClampNeg) = rd → (post (1 : Int32))) ∧ (¬ ((ro a1.toNatClampNeg) = rd) → (post (0 : Int32))))
set_option maxHeartbeats 4000000 in
set_option maxRecDepth 100000 in
theorem mM_isReached (l : Launch) (dC : Nat → ClassId) (dI : Nat → Nat → Nat) (cA : ClassId) (a0 : Nat) (aR : Nat) (aM : Nat) (aW : Nat) (aP : Nat) (aS : Nat) (aC : Nat) (aO : Nat) (nW : Nat) (nE : Nat) (R : Nat → Int32) (f : Nat → Int32) (us : Int32) (P : Nat → Int32) (S : Nat → Int32) (sc : Int32) (li : Int32) (rc : Nat → Int32) (rn : Int32) (ro : Nat → Int32) (rd : Int32) (st : Int32) (a1 : Int32) (post : Int32 → Prop) (h : wqM_isReached nW nE ro rd a1 post) : Met l y_M_isReached ws_M_isReached ({ frames := 0, cells := 0, slots := 0, locals := 0 }) (ro_P (dC, dI) vwCl (TSw cA a0 aR aM aW aP aS aC aO nW nE R f us P S sc li rc rn ro rd st) [(cA, .int)] [.ref aM, .int a1]) (rq_i post) 0 0 (fun _ => False) := by
  refine Met.ofW (cc := c_M_isReached) (maxL := 2) (ret := (some .boolean)) (by decide) rfl ?_
  intro p e s m args below meth c s₁ B hml hv
  obtain ⟨rfl, hP, hK⟩ := hv
  have hx := B.exec
  have hb := B.bytes
  have hr9 := B.returns
  have hts := atoms_spec (ws := ws_M_isReached) B.pre
  have hw : ∀ w ∈ WB_, w.before _ s = true := fun w h => hts w (List.mem_cons_of_mem _ h)
  have hown : s.vm.findClass R_M = some m.cls := findClass_of_methodNamed B.named
  have hlocks := B.notSynchronized
  have hl := lv_entry ([.ref aM, .int a1]) (n := 2) (Nat.le_of_ble_eq_true rfl)
  rw [lg_entry_eq]
  generalize (lg_sl ([.ref aM, .int a1]) ++ List.replicate (2 - (lg_sl ([.ref aM, .int a1])).length) Slot.unset).toArray = ls at hl ⊢
  have hl : lv_has ls 2 [(0, .ref aM), (1, .int a1)] := hl
  unfold wqM_isReached at h
  refine lv_aload_n hx hb d_M_isReached_0 rfl (lv_at hl 0 rfl) ?_
  refine va_get (D := (dC, dI)) (ci := 1) (v := .ref aO) (C := R_M) (T := T_M) (N := 11) hx hb hw in_M hown hK hP 2 rfl rfl 8 (by decide) (hw _ wd_71) (fun _ h9 => h9) rfl d_M_isReached_1 ?_
  refine lv_iload_n hx hb d_M_isReached_4 rfl (lv_at hl 1 rfl) ?_
  refine va_iald hx hb hK hP 7 0 rfl rfl h.1 d_M_isReached_5 ?_
  have h := h.2
  refine lv_aload_n hx hb d_M_isReached_6 rfl (lv_at hl 0 rfl) ?_
  refine va_get (D := (dC, dI)) (ci := 1) (v := .int rd) (C := R_M) (T := T_M) (N := 11) hx hb hw in_M hown hK hP 2 rfl rfl 9 (by decide) (hw _ wd_72) (fun _ h9 => h9) rfl d_M_isReached_7 ?_
  refine lv_icmp_ne (tgt := 17) hx hb d_M_isReached_10 (by decide) (fun c_10 => ?_) (fun c_10 => ?_)
  · have h := h.2 c_10
    refine lv_iconst (v := (0 : Int32)) hx hb d_M_isReached_17 (by decide) ?_
    exact W.zret (v := (0 : Int32)) (ty := .boolean) hx hb hr9 rfl (fun t ht hW => ⟨_, rfl, h, ht⟩) (fun _ h9 => nomatch h9) d_M_isReached_18
  · have h := h.1 c_10
    refine lv_iconst (v := (1 : Int32)) hx hb d_M_isReached_13 (by decide) ?_
    refine lv_goto (tgt := 18) hx hb d_M_isReached_14 (by decide) ?_
    exact W.zret (v := (1 : Int32)) (ty := .boolean) hx hb hr9 rfl (fun t ht hW => ⟨_, rfl, h, ht⟩) (fun _ h9 => nomatch h9) d_M_isReached_18
def wqM_endOfSlots (nW : Nat) (nE : Nat) (f : Nat → Int32) (a1 : Int32) (post : Int32 → Prop) : Prop :=
  vp_in (a1 + (3 : Int32)) nW ∧ (wqM_isOfBytes (f (a1 + (3 : Int32)).toNatClampNeg) (fun r13 => (r13 = 0 → (wqM_bodyWords (f (a1 + (3 : Int32)).toNatClampNeg) (fun r24 => post ((a1 + (4 : Int32)) + r24)))) ∧ (¬ (r13 = 0) → (post ((a1 + (4 : Int32)) + (0 : Int32))))))
set_option maxHeartbeats 4000000 in
set_option maxRecDepth 100000 in
theorem mM_endOfSlots (l : Launch) (dC : Nat → ClassId) (dI : Nat → Nat → Nat) (cA : ClassId) (a0 : Nat) (aR : Nat) (aM : Nat) (aW : Nat) (aP : Nat) (aS : Nat) (aC : Nat) (aO : Nat) (nW : Nat) (nE : Nat) (R : Nat → Int32) (f : Nat → Int32) (us : Int32) (P : Nat → Int32) (S : Nat → Int32) (sc : Int32) (li : Int32) (rc : Nat → Int32) (rn : Int32) (ro : Nat → Int32) (rd : Int32) (st : Int32) (a1 : Int32) (post : Int32 → Prop) (h : wqM_endOfSlots nW nE f a1 post) : Met l y_M_endOfSlots ws_M_endOfSlots ({ frames := 2, cells := 0, slots := 0, locals := 41 }) (ro_P (dC, dI) vwCl (TSw cA a0 aR aM aW aP aS aC aO nW nE R f us P S sc li rc rn ro rd st) [(cA, .int)] [.ref aM, .int a1]) (rq_i post) 0 0 (fun _ => False) := by
  refine Met.ofW (cc := c_M_endOfSlots) (maxL := 3) (ret := (some .int)) (by decide) rfl ?_
  intro p e s m args below meth c s₁ B hml hv
  obtain ⟨rfl, hP, hK⟩ := hv
  have hx := B.exec
  have hb := B.bytes
  have hr9 := B.returns
  have hts := atoms_spec (ws := ws_M_endOfSlots) B.pre
  have hw : ∀ w ∈ WB_, w.before _ s = true := fun w h => hts w (List.mem_cons_of_mem _ h)
  have hown : s.vm.findClass R_M = some m.cls := findClass_of_methodNamed B.named
  have hlocks := B.notSynchronized
  have hl := lv_entry ([.ref aM, .int a1]) (n := 3) (Nat.le_of_ble_eq_true rfl)
  rw [lg_entry_eq]
  generalize (lg_sl ([.ref aM, .int a1]) ++ List.replicate (3 - (lg_sl ([.ref aM, .int a1])).length) Slot.unset).toArray = ls at hl ⊢
  have hl : lv_has ls 3 [(0, .ref aM), (1, .int a1)] := hl
  unfold wqM_endOfSlots at h
  refine lv_aload_n hx hb d_M_endOfSlots_0 rfl (lv_at hl 0 rfl) ?_
  refine va_get (D := (dC, dI)) (ci := 1) (v := .ref aW) (C := R_M) (T := T_M) (N := 11) hx hb hw in_M hown hK hP 2 rfl rfl 0 (by decide) (hw _ wd_63) (fun _ h9 => h9) rfl d_M_endOfSlots_1 ?_
  refine lv_iload_n hx hb d_M_endOfSlots_4 rfl (lv_at hl 1 rfl) ?_
  refine lv_iconst (v := (3 : Int32)) hx hb d_M_endOfSlots_5 (by decide) ?_
  refine lv_iadd hx hb d_M_endOfSlots_6 ?_
  refine va_iald hx hb hK hP 3 0 rfl rfl h.1 d_M_endOfSlots_7 ?_
  have h := h.2
  refine lv_istore_n (lv' := [(2, .int (f (a1 + (3 : Int32)).toNatClampNeg)), (0, .ref aM), (1, .int a1)]) hx hb d_M_endOfSlots_8 rfl hl (by decide) rfl (fun ls hl => ?_)
  refine lv_iload_n hx hb d_M_endOfSlots_9 rfl (lv_at hl 2 rfl) ?_
  refine lv_iconst (v := (4 : Int32)) hx hb d_M_endOfSlots_10 (by decide) ?_
  refine lv_iadd hx hb d_M_endOfSlots_11 ?_
  refine lv_iload_n hx hb d_M_endOfSlots_12 rfl (lv_at hl 0 rfl) ?_
  refine rq_calli (W.runS (As := [.int (f (a1 + (3 : Int32)).toNatClampNeg)]) (rest := [.int (a1 + (4 : Int32))]) ⟨hx, hb, hml, hown, hw⟩ (mM_isOfBytes l (f (a1 + (3 : Int32)).toNatClampNeg) _ h) (va_cwS 1 hw g_M_33 rfl rfl rfl (by decide +kernel) ⟨Nat.le_of_ble_eq_true rfl, Nat.le_of_ble_eq_true rfl⟩) preEq rfl rfl hl.1 rfl (lv_room (Nat.le_of_ble_eq_true rfl)) d_M_endOfSlots_13 ⟨Nat.le_of_ble_eq_true rfl, Nat.le_of_ble_eq_true rfl⟩) (fun r13 h => ?_)
  refine lv_if_eq (tgt := 23) hx hb d_M_endOfSlots_16 (by decide) (fun c_16 => ?_) (fun c_16 => ?_)
  · have h := h.1 c_16
    refine lv_iload_n hx hb d_M_endOfSlots_23 rfl (lv_at hl 0 rfl) ?_
    refine rq_calli (W.runS (As := [.int (f (a1 + (3 : Int32)).toNatClampNeg)]) (rest := [.int (a1 + (4 : Int32))]) ⟨hx, hb, hml, hown, hw⟩ (mM_bodyWords l (f (a1 + (3 : Int32)).toNatClampNeg) _ h) (va_cwS 1 hw g_M_63 rfl rfl rfl (by decide +kernel) ⟨Nat.le_of_ble_eq_true rfl, Nat.le_of_ble_eq_true rfl⟩) preEq rfl rfl hl.1 rfl (lv_room (Nat.le_of_ble_eq_true rfl)) d_M_endOfSlots_24 ⟨Nat.le_of_ble_eq_true rfl, Nat.le_of_ble_eq_true rfl⟩) (fun r24 h => ?_)
    refine lv_iadd hx hb d_M_endOfSlots_27 ?_
    exact W.iret (v := (a1 + (4 : Int32)) + r24) hx hb hr9 (fun t ht hW => ⟨_, rfl, h, ht⟩) (fun _ h9 => nomatch h9) d_M_endOfSlots_28
  · have h := h.2 c_16
    refine lv_iconst (v := (0 : Int32)) hx hb d_M_endOfSlots_19 (by decide) ?_
    refine lv_goto (tgt := 27) hx hb d_M_endOfSlots_20 (by decide) ?_
    refine lv_iadd hx hb d_M_endOfSlots_27 ?_
    exact W.iret (v := (a1 + (4 : Int32)) + (0 : Int32)) hx hb hr9 (fun t ht hW => ⟨_, rfl, h, ht⟩) (fun _ h9 => nomatch h9) d_M_endOfSlots_28
def wqM_bodyWordsAt (nW : Nat) (nE : Nat) (f : Nat → Int32) (a1 : Int32) (post : Int32 → Prop) : Prop :=
  vp_in (a1 + (3 : Int32)) nW ∧ (wqM_bodyWords (f (a1 + (3 : Int32)).toNatClampNeg) (fun r8 => post r8))
set_option maxHeartbeats 4000000 in
set_option maxRecDepth 100000 in
theorem mM_bodyWordsAt (l : Launch) (dC : Nat → ClassId) (dI : Nat → Nat → Nat) (cA : ClassId) (a0 : Nat) (aR : Nat) (aM : Nat) (aW : Nat) (aP : Nat) (aS : Nat) (aC : Nat) (aO : Nat) (nW : Nat) (nE : Nat) (R : Nat → Int32) (f : Nat → Int32) (us : Int32) (P : Nat → Int32) (S : Nat → Int32) (sc : Int32) (li : Int32) (rc : Nat → Int32) (rn : Int32) (ro : Nat → Int32) (rd : Int32) (st : Int32) (a1 : Int32) (post : Int32 → Prop) (h : wqM_bodyWordsAt nW nE f a1 post) : Met l y_M_bodyWordsAt ws_M_bodyWordsAt ({ frames := 2, cells := 0, slots := 0, locals := 41 }) (ro_P (dC, dI) vwCl (TSw cA a0 aR aM aW aP aS aC aO nW nE R f us P S sc li rc rn ro rd st) [(cA, .int)] [.ref aM, .int a1]) (rq_i post) 0 0 (fun _ => False) := by
  refine Met.ofW (cc := c_M_bodyWordsAt) (maxL := 2) (ret := (some .int)) (by decide) rfl ?_
  intro p e s m args below meth c s₁ B hml hv
  obtain ⟨rfl, hP, hK⟩ := hv
  have hx := B.exec
  have hb := B.bytes
  have hr9 := B.returns
  have hts := atoms_spec (ws := ws_M_bodyWordsAt) B.pre
  have hw : ∀ w ∈ WB_, w.before _ s = true := fun w h => hts w (List.mem_cons_of_mem _ h)
  have hown : s.vm.findClass R_M = some m.cls := findClass_of_methodNamed B.named
  have hlocks := B.notSynchronized
  have hl := lv_entry ([.ref aM, .int a1]) (n := 2) (Nat.le_of_ble_eq_true rfl)
  rw [lg_entry_eq]
  generalize (lg_sl ([.ref aM, .int a1]) ++ List.replicate (2 - (lg_sl ([.ref aM, .int a1])).length) Slot.unset).toArray = ls at hl ⊢
  have hl : lv_has ls 2 [(0, .ref aM), (1, .int a1)] := hl
  unfold wqM_bodyWordsAt at h
  refine lv_aload_n hx hb d_M_bodyWordsAt_0 rfl (lv_at hl 0 rfl) ?_
  refine va_get (D := (dC, dI)) (ci := 1) (v := .ref aW) (C := R_M) (T := T_M) (N := 11) hx hb hw in_M hown hK hP 2 rfl rfl 0 (by decide) (hw _ wd_63) (fun _ h9 => h9) rfl d_M_bodyWordsAt_1 ?_
  refine lv_iload_n hx hb d_M_bodyWordsAt_4 rfl (lv_at hl 1 rfl) ?_
  refine lv_iconst (v := (3 : Int32)) hx hb d_M_bodyWordsAt_5 (by decide) ?_
  refine lv_iadd hx hb d_M_bodyWordsAt_6 ?_
  refine va_iald hx hb hK hP 3 0 rfl rfl h.1 d_M_bodyWordsAt_7 ?_
  have h := h.2
  refine rq_calli (W.runS (As := [.int (f (a1 + (3 : Int32)).toNatClampNeg)]) (rest := []) ⟨hx, hb, hml, hown, hw⟩ (mM_bodyWords l (f (a1 + (3 : Int32)).toNatClampNeg) _ h) (va_cwS 1 hw g_M_63 rfl rfl rfl (by decide +kernel) ⟨Nat.le_of_ble_eq_true rfl, Nat.le_of_ble_eq_true rfl⟩) preEq rfl rfl hl.1 rfl (lv_room (Nat.le_of_ble_eq_true rfl)) d_M_bodyWordsAt_8 ⟨Nat.le_of_ble_eq_true rfl, Nat.le_of_ble_eq_true rfl⟩) (fun r8 h => ?_)
  exact W.iret (v := r8) hx hb hr9 (fun t ht hW => ⟨_, rfl, h, ht⟩) (fun _ h9 => nomatch h9) d_M_bodyWordsAt_11
def wqM_findOfClass_5 (nW : Nat) (nE : Nat) (f : Nat → Int32) (us : Int32) (y1_5 : Int32) (y2_5 : Int32) (post : Int32 → Prop) (kx : Int32 → Int32 → Prop) : Nat → Int32 → Int32 → Prop
  | 0, _, _ => False
  | n + 1, x3_5, x4_5 =>
    (us ≤ x4_5 → (kx x3_5 x4_5)) ∧ (¬ (us ≤ x4_5) → (vp_in (x4_5 + (2 : Int32)) nW ∧ (((f (x4_5 + (2 : Int32)).toNatClampNeg) = y1_5 → ((x3_5 = y2_5 → (vp_in (x4_5 + (0 : Int32)) nW ∧ (wqV_ofEntry (f (x4_5 + (0 : Int32)).toNatClampNeg) (fun r41 => post r41)))) ∧ (¬ (x3_5 = y2_5) → (wqM_bodyWordsAt nW nE f x4_5 (fun r54 => wqM_findOfClass_5 nW nE f us y1_5 y2_5 post kx n (x3_5 + (1 : Int32)) (x4_5 + ((4 : Int32) + r54))))))) ∧ (¬ ((f (x4_5 + (2 : Int32)).toNatClampNeg) = y1_5) → (wqM_bodyWordsAt nW nE f x4_5 (fun r54 => wqM_findOfClass_5 nW nE f us y1_5 y2_5 post kx n x3_5 (x4_5 + ((4 : Int32) + r54))))))))
def wqM_findOfClass (nW : Nat) (nE : Nat) (f : Nat → Int32) (us : Int32) (a1 : Int32) (a2 : Int32) (post : Int32 → Prop) : Prop :=
  ∃ k_5, wqM_findOfClass_5 nW nE f us a1 a2 post (fun z3_5 z4_5 => post (0 : Int32)) k_5 (0 : Int32) (0 : Int32)
set_option maxHeartbeats 4000000 in
set_option maxRecDepth 100000 in
theorem mM_findOfClass (l : Launch) (dC : Nat → ClassId) (dI : Nat → Nat → Nat) (cA : ClassId) (a0 : Nat) (aR : Nat) (aM : Nat) (aW : Nat) (aP : Nat) (aS : Nat) (aC : Nat) (aO : Nat) (nW : Nat) (nE : Nat) (R : Nat → Int32) (f : Nat → Int32) (us : Int32) (P : Nat → Int32) (S : Nat → Int32) (sc : Int32) (li : Int32) (rc : Nat → Int32) (rn : Int32) (ro : Nat → Int32) (rd : Int32) (st : Int32) (a1 : Int32) (a2 : Int32) (post : Int32 → Prop) (h : wqM_findOfClass nW nE f us a1 a2 post) : Met l y_M_findOfClass ws_M_findOfClass ({ frames := 3, cells := 0, slots := 0, locals := 62 }) (ro_P (dC, dI) vwCl (TSw cA a0 aR aM aW aP aS aC aO nW nE R f us P S sc li rc rn ro rd st) [(cA, .int)] [.ref aM, .int a1, .int a2]) (rq_i post) 0 0 (fun _ => False) := by
  refine Met.ofW (cc := c_M_findOfClass) (maxL := 5) (ret := (some .int)) (by decide) rfl ?_
  intro p e s m args below meth c s₁ B hml hv
  obtain ⟨rfl, hP, hK⟩ := hv
  have hx := B.exec
  have hb := B.bytes
  have hr9 := B.returns
  have hts := atoms_spec (ws := ws_M_findOfClass) B.pre
  have hw : ∀ w ∈ WB_, w.before _ s = true := fun w h => hts w (List.mem_cons_of_mem _ h)
  have hown : s.vm.findClass R_M = some m.cls := findClass_of_methodNamed B.named
  have hlocks := B.notSynchronized
  have hl := lv_entry ([.ref aM, .int a1, .int a2]) (n := 5) (Nat.le_of_ble_eq_true rfl)
  rw [lg_entry_eq]
  generalize (lg_sl ([.ref aM, .int a1, .int a2]) ++ List.replicate (5 - (lg_sl ([.ref aM, .int a1, .int a2])).length) Slot.unset).toArray = ls at hl ⊢
  have hl : lv_has ls 5 [(0, .ref aM), (1, .int a1), (2, .int a2)] := hl
  have lp_5 : ∀ (y1_5 : Int32) (y2_5 : Int32) (kx : Int32 → Int32 → Prop), (∀ (z3_5 : Int32) (z4_5 : Int32) (ls : Array Slot), lv_has ls 5 [(0, .ref aM), (1, .int y1_5), (2, .int y2_5), (3, .int z3_5), (4, .int z4_5)] → kx z3_5 z4_5 → W p l e (headSpec ws_M_findOfClass ({ frames := 3, cells := 0, slots := 0, locals := 62 })).room s m ([.ref aM, .int a1, .int a2] : List Value).toArray below meth c s.heap [] 0 0 (MQ below (rq_i post) ([.ref aM, .int a1, .int a2] : List Value).toArray s 0 0 (fun _ => False)) (F0 m 64 ls [])) → ∀ (n : Nat) (x3_5 : Int32) (x4_5 : Int32) (ls : Array Slot), lv_has ls 5 [(0, .ref aM), (1, .int y1_5), (2, .int y2_5), (3, .int x3_5), (4, .int x4_5)] → wqM_findOfClass_5 nW nE f us y1_5 y2_5 post kx n x3_5 x4_5 → W p l e (headSpec ws_M_findOfClass ({ frames := 3, cells := 0, slots := 0, locals := 62 })).room s m ([.ref aM, .int a1, .int a2] : List Value).toArray below meth c s.heap [] 0 0 (MQ below (rq_i post) ([.ref aM, .int a1, .int a2] : List Value).toArray s 0 0 (fun _ => False)) (F0 m 5 ls []) := by
    intro y1_5 y2_5 kx K n
    induction n with
    | zero => intro x3_5 x4_5 ls hl h; exact h.elim
    | succ n ih =>
      intro x3_5 x4_5 ls hl h
      refine lv_iload hx hb d_M_findOfClass_5 (lv_at hl 4 rfl) ?_
      refine lv_aload_n hx hb d_M_findOfClass_7 rfl (lv_at hl 0 rfl) ?_
      refine va_get (D := (dC, dI)) (ci := 1) (v := .int us) (C := R_M) (T := T_M) (N := 11) hx hb hw in_M hown hK hP 2 rfl rfl 1 (by decide) (hw _ wd_64) (fun _ h9 => h9) rfl d_M_findOfClass_8 ?_
      refine lv_icmp_ge (tgt := 64) hx hb d_M_findOfClass_11 (by decide) (fun c_11 => ?_) (fun c_11 => ?_)
      · have h := h.1 c_11
        exact K x3_5 x4_5 ls (lv_sub hl [0, 1, 2, 3, 4] rfl) h
      · have h := h.2 c_11
        refine lv_aload_n hx hb d_M_findOfClass_14 rfl (lv_at hl 0 rfl) ?_
        refine va_get (D := (dC, dI)) (ci := 1) (v := .ref aW) (C := R_M) (T := T_M) (N := 11) hx hb hw in_M hown hK hP 2 rfl rfl 0 (by decide) (hw _ wd_63) (fun _ h9 => h9) rfl d_M_findOfClass_15 ?_
        refine lv_iload hx hb d_M_findOfClass_18 (lv_at hl 4 rfl) ?_
        refine lv_iconst (v := (2 : Int32)) hx hb d_M_findOfClass_20 (by decide) ?_
        refine lv_iadd hx hb d_M_findOfClass_21 ?_
        refine va_iald hx hb hK hP 3 0 rfl rfl h.1 d_M_findOfClass_22 ?_
        have h := h.2
        refine lv_iload_n hx hb d_M_findOfClass_23 rfl (lv_at hl 1 rfl) ?_
        refine lv_icmp_ne (tgt := 48) hx hb d_M_findOfClass_24 (by decide) (fun c_24 => ?_) (fun c_24 => ?_)
        · have h := h.2 c_24
          refine lv_iload hx hb d_M_findOfClass_48 (lv_at hl 4 rfl) ?_
          refine lv_iconst (v := (4 : Int32)) hx hb d_M_findOfClass_50 (by decide) ?_
          refine lv_aload_n hx hb d_M_findOfClass_51 rfl (lv_at hl 0 rfl) ?_
          refine lv_iload hx hb d_M_findOfClass_52 (lv_at hl 4 rfl) ?_
          refine rq_calli (W.runV (As := [.int x4_5]) (rest := [.int (4 : Int32), .int x4_5]) ⟨hx, hb, hml, hown, hw⟩ (mM_bodyWordsAt l dC dI cA a0 aR aM aW aP aS aC aO nW nE R f us P S sc li rc rn ro rd st x4_5 _ h) (cwV 1 hw g_M_123 rfl rfl rfl (by decide +kernel) ⟨Nat.le_of_ble_eq_true rfl, Nat.le_of_ble_eq_true rfl⟩) (ro_PV (ci := 1) (q0 := 2) hK hP rfl rfl) rfl rfl hl.1 rfl (lv_room (Nat.le_of_ble_eq_true rfl)) d_M_findOfClass_54 ⟨Nat.le_of_ble_eq_true rfl, Nat.le_of_ble_eq_true rfl⟩) (fun r54 h => ?_)
          refine lv_iadd hx hb d_M_findOfClass_57 ?_
          refine lv_iadd hx hb d_M_findOfClass_58 ?_
          refine lv_istore (lv' := [(4, .int (x4_5 + ((4 : Int32) + r54))), (0, .ref aM), (1, .int y1_5), (2, .int y2_5), (3, .int x3_5)]) hx hb d_M_findOfClass_59 hl (by decide) rfl (fun ls hl => ?_)
          refine lv_goto (tgt := 5) hx hb d_M_findOfClass_61 (by decide) ?_
          exact ih x3_5 (x4_5 + ((4 : Int32) + r54)) ls (lv_sub hl [1, 2, 3, 4, 0] rfl) h
        · have h := h.1 c_24
          refine lv_iload_n hx hb d_M_findOfClass_27 rfl (lv_at hl 3 rfl) ?_
          refine lv_iload_n hx hb d_M_findOfClass_28 rfl (lv_at hl 2 rfl) ?_
          refine lv_icmp_ne (tgt := 45) hx hb d_M_findOfClass_29 (by decide) (fun c_29 => ?_) (fun c_29 => ?_)
          · have h := h.2 c_29
            refine lv_iinc (v := x3_5 + (1 : Int32)) (lv' := [(3, .int (x3_5 + (1 : Int32))), (0, .ref aM), (1, .int y1_5), (2, .int y2_5), (4, .int x4_5)]) hx hb d_M_findOfClass_45 hl (k := 3) rfl rfl (by decide) rfl (fun ls hl => ?_)
            refine lv_iload hx hb d_M_findOfClass_48 (lv_at hl 4 rfl) ?_
            refine lv_iconst (v := (4 : Int32)) hx hb d_M_findOfClass_50 (by decide) ?_
            refine lv_aload_n hx hb d_M_findOfClass_51 rfl (lv_at hl 1 rfl) ?_
            refine lv_iload hx hb d_M_findOfClass_52 (lv_at hl 4 rfl) ?_
            refine rq_calli (W.runV (As := [.int x4_5]) (rest := [.int (4 : Int32), .int x4_5]) ⟨hx, hb, hml, hown, hw⟩ (mM_bodyWordsAt l dC dI cA a0 aR aM aW aP aS aC aO nW nE R f us P S sc li rc rn ro rd st x4_5 _ h) (cwV 1 hw g_M_123 rfl rfl rfl (by decide +kernel) ⟨Nat.le_of_ble_eq_true rfl, Nat.le_of_ble_eq_true rfl⟩) (ro_PV (ci := 1) (q0 := 2) hK hP rfl rfl) rfl rfl hl.1 rfl (lv_room (Nat.le_of_ble_eq_true rfl)) d_M_findOfClass_54 ⟨Nat.le_of_ble_eq_true rfl, Nat.le_of_ble_eq_true rfl⟩) (fun r54 h => ?_)
            refine lv_iadd hx hb d_M_findOfClass_57 ?_
            refine lv_iadd hx hb d_M_findOfClass_58 ?_
            refine lv_istore (lv' := [(4, .int (x4_5 + ((4 : Int32) + r54))), (3, .int (x3_5 + (1 : Int32))), (0, .ref aM), (1, .int y1_5), (2, .int y2_5)]) hx hb d_M_findOfClass_59 hl (by decide) rfl (fun ls hl => ?_)
            refine lv_goto (tgt := 5) hx hb d_M_findOfClass_61 (by decide) ?_
            exact ih (x3_5 + (1 : Int32)) (x4_5 + ((4 : Int32) + r54)) ls (lv_sub hl [2, 3, 4, 1, 0] rfl) h
          · have h := h.1 c_29
            refine lv_aload_n hx hb d_M_findOfClass_32 rfl (lv_at hl 0 rfl) ?_
            refine va_get (D := (dC, dI)) (ci := 1) (v := .ref aW) (C := R_M) (T := T_M) (N := 11) hx hb hw in_M hown hK hP 2 rfl rfl 0 (by decide) (hw _ wd_63) (fun _ h9 => h9) rfl d_M_findOfClass_33 ?_
            refine lv_iload hx hb d_M_findOfClass_36 (lv_at hl 4 rfl) ?_
            refine lv_iconst (v := (0 : Int32)) hx hb d_M_findOfClass_38 (by decide) ?_
            refine lv_iadd hx hb d_M_findOfClass_39 ?_
            refine va_iald hx hb hK hP 3 0 rfl rfl h.1 d_M_findOfClass_40 ?_
            have h := h.2
            refine rq_calli (W.runS (As := [.int (f (x4_5 + (0 : Int32)).toNatClampNeg)]) (rest := []) ⟨hx, hb, hml, hown, hw⟩ (mV_ofEntry l (f (x4_5 + (0 : Int32)).toNatClampNeg) _ h) (va_cwS 1 hw g_M_76 rfl rfl rfl (by decide +kernel) ⟨Nat.le_of_ble_eq_true rfl, Nat.le_of_ble_eq_true rfl⟩) preEq rfl rfl hl.1 rfl (lv_room (Nat.le_of_ble_eq_true rfl)) d_M_findOfClass_41 ⟨Nat.le_of_ble_eq_true rfl, Nat.le_of_ble_eq_true rfl⟩) (fun r41 h => ?_)
            exact W.iret (v := r41) hx hb hr9 (fun t ht hW => ⟨_, rfl, h, ht⟩) (fun _ h9 => nomatch h9) d_M_findOfClass_44
  unfold wqM_findOfClass at h
  refine lv_iconst (v := (0 : Int32)) hx hb d_M_findOfClass_0 (by decide) ?_
  refine lv_istore_n (lv' := [(3, .int (0 : Int32)), (0, .ref aM), (1, .int a1), (2, .int a2)]) hx hb d_M_findOfClass_1 rfl hl (by decide) rfl (fun ls hl => ?_)
  refine lv_iconst (v := (0 : Int32)) hx hb d_M_findOfClass_2 (by decide) ?_
  refine lv_istore (lv' := [(4, .int (0 : Int32)), (3, .int (0 : Int32)), (0, .ref aM), (1, .int a1), (2, .int a2)]) hx hb d_M_findOfClass_3 hl (by decide) rfl (fun ls hl => ?_)
  obtain ⟨n_5, h⟩ := h
  refine lp_5 a1 a2 _ (fun z3_5 z4_5 ls hl h => ?_) n_5 (0 : Int32) (0 : Int32) ls (lv_sub hl [2, 3, 4, 1, 0] rfl) h
  refine lv_iconst (v := (0 : Int32)) hx hb d_M_findOfClass_64 (by decide) ?_
  exact W.iret (v := (0 : Int32)) hx hb hr9 (fun t ht hW => ⟨_, rfl, h, ht⟩) (fun _ h9 => nomatch h9) d_M_findOfClass_65
def wqM_countHolders_39 (nW : Nat) (nE : Nat) (f : Nat → Int32) (us : Int32) (y1_39 : Int32) (y3_39 : Int32) (y4_39 : Int32) (post : Int32 → Prop) (kx : Int32 → Int32 → Prop) : Nat → Int32 → Int32 → Prop
  | 0, _, _ => False
  | n + 1, x2_39, x5_39 =>
    (y4_39 ≤ x5_39 → (kx x2_39 x5_39)) ∧ (¬ (y4_39 ≤ x5_39) → (vp_in x5_39 nW ∧ (((f x5_39.toNatClampNeg) = y1_39 → (wqM_countHolders_39 nW nE f us y1_39 y3_39 y4_39 post kx n (x2_39 + (1 : Int32)) (x5_39 + (1 : Int32)))) ∧ (¬ ((f x5_39.toNatClampNeg) = y1_39) → (wqM_countHolders_39 nW nE f us y1_39 y3_39 y4_39 post kx n x2_39 (x5_39 + (1 : Int32)))))))
def wqM_countHolders_4 (nW : Nat) (nE : Nat) (f : Nat → Int32) (us : Int32) (y1_4 : Int32) (post : Int32 → Prop) (kx : Int32 → Int32 → Prop) : Nat → Int32 → Int32 → Prop
  | 0, _, _ => False
  | n + 1, x2_4, x3_4 =>
    (us ≤ x3_4 → (kx x2_4 x3_4)) ∧ (¬ (us ≤ x3_4) → (vp_in (x3_4 + (2 : Int32)) nW ∧ (((f (x3_4 + (2 : Int32)).toNatClampNeg) = y1_4 → (wqM_endOfSlots nW nE f x3_4 (fun r29 => ∃ k_39, wqM_countHolders_39 nW nE f us y1_4 x3_4 r29 post (fun z2_39 z5_39 => wqM_bodyWordsAt nW nE f x3_4 (fun r70 => wqM_countHolders_4 nW nE f us y1_4 post kx n z2_39 (x3_4 + ((4 : Int32) + r70)))) k_39 (x2_4 + (1 : Int32)) (x3_4 + (4 : Int32))))) ∧ (¬ ((f (x3_4 + (2 : Int32)).toNatClampNeg) = y1_4) → (wqM_endOfSlots nW nE f x3_4 (fun r29 => ∃ k_39, wqM_countHolders_39 nW nE f us y1_4 x3_4 r29 post (fun z2_39 z5_39 => wqM_bodyWordsAt nW nE f x3_4 (fun r70 => wqM_countHolders_4 nW nE f us y1_4 post kx n z2_39 (x3_4 + ((4 : Int32) + r70)))) k_39 x2_4 (x3_4 + (4 : Int32))))))))
def wqM_countHolders (nW : Nat) (nE : Nat) (f : Nat → Int32) (us : Int32) (a1 : Int32) (post : Int32 → Prop) : Prop :=
  ∃ k_4, wqM_countHolders_4 nW nE f us a1 post (fun z2_4 z3_4 => post z2_4) k_4 (0 : Int32) (0 : Int32)
set_option maxHeartbeats 4000000 in
set_option maxRecDepth 100000 in
theorem mM_countHolders (l : Launch) (dC : Nat → ClassId) (dI : Nat → Nat → Nat) (cA : ClassId) (a0 : Nat) (aR : Nat) (aM : Nat) (aW : Nat) (aP : Nat) (aS : Nat) (aC : Nat) (aO : Nat) (nW : Nat) (nE : Nat) (R : Nat → Int32) (f : Nat → Int32) (us : Int32) (P : Nat → Int32) (S : Nat → Int32) (sc : Int32) (li : Int32) (rc : Nat → Int32) (rn : Int32) (ro : Nat → Int32) (rd : Int32) (st : Int32) (a1 : Int32) (post : Int32 → Prop) (h : wqM_countHolders nW nE f us a1 post) : Met l y_M_countHolders ws_M_countHolders ({ frames := 3, cells := 0, slots := 0, locals := 63 }) (ro_P (dC, dI) vwCl (TSw cA a0 aR aM aW aP aS aC aO nW nE R f us P S sc li rc rn ro rd st) [(cA, .int)] [.ref aM, .int a1]) (rq_i post) 0 0 (fun _ => False) := by
  refine Met.ofW (cc := c_M_countHolders) (maxL := 6) (ret := (some .int)) (by decide) rfl ?_
  intro p e s m args below meth c s₁ B hml hv
  obtain ⟨rfl, hP, hK⟩ := hv
  have hx := B.exec
  have hb := B.bytes
  have hr9 := B.returns
  have hts := atoms_spec (ws := ws_M_countHolders) B.pre
  have hw : ∀ w ∈ WB_, w.before _ s = true := fun w h => hts w (List.mem_cons_of_mem _ h)
  have hown : s.vm.findClass R_M = some m.cls := findClass_of_methodNamed B.named
  have hlocks := B.notSynchronized
  have hl := lv_entry ([.ref aM, .int a1]) (n := 6) (Nat.le_of_ble_eq_true rfl)
  rw [lg_entry_eq]
  generalize (lg_sl ([.ref aM, .int a1]) ++ List.replicate (6 - (lg_sl ([.ref aM, .int a1])).length) Slot.unset).toArray = ls at hl ⊢
  have hl : lv_has ls 6 [(0, .ref aM), (1, .int a1)] := hl
  have lp_39 : ∀ (y1_39 : Int32) (y3_39 : Int32) (y4_39 : Int32) (kx : Int32 → Int32 → Prop), (∀ (z2_39 : Int32) (z5_39 : Int32) (ls : Array Slot), lv_has ls 6 [(0, .ref aM), (1, .int y1_39), (2, .int z2_39), (3, .int y3_39), (4, .int y4_39), (5, .int z5_39)] → kx z2_39 z5_39 → W p l e (headSpec ws_M_countHolders ({ frames := 3, cells := 0, slots := 0, locals := 63 })).room s m ([.ref aM, .int a1] : List Value).toArray below meth c s.heap [] 0 0 (MQ below (rq_i post) ([.ref aM, .int a1] : List Value).toArray s 0 0 (fun _ => False)) (F0 m 66 ls [])) → ∀ (n : Nat) (x2_39 : Int32) (x5_39 : Int32) (ls : Array Slot), lv_has ls 6 [(0, .ref aM), (1, .int y1_39), (2, .int x2_39), (3, .int y3_39), (4, .int y4_39), (5, .int x5_39)] → wqM_countHolders_39 nW nE f us y1_39 y3_39 y4_39 post kx n x2_39 x5_39 → W p l e (headSpec ws_M_countHolders ({ frames := 3, cells := 0, slots := 0, locals := 63 })).room s m ([.ref aM, .int a1] : List Value).toArray below meth c s.heap [] 0 0 (MQ below (rq_i post) ([.ref aM, .int a1] : List Value).toArray s 0 0 (fun _ => False)) (F0 m 39 ls []) := by
    intro y1_39 y3_39 y4_39 kx K n
    induction n with
    | zero => intro x2_39 x5_39 ls hl h; exact h.elim
    | succ n ih =>
      intro x2_39 x5_39 ls hl h
      refine lv_iload hx hb d_M_countHolders_39 (lv_at hl 5 rfl) ?_
      refine lv_iload hx hb d_M_countHolders_41 (lv_at hl 4 rfl) ?_
      refine lv_icmp_ge (tgt := 66) hx hb d_M_countHolders_43 (by decide) (fun c_43 => ?_) (fun c_43 => ?_)
      · have h := h.1 c_43
        exact K x2_39 x5_39 ls (lv_sub hl [0, 1, 2, 3, 4, 5] rfl) h
      · have h := h.2 c_43
        refine lv_aload_n hx hb d_M_countHolders_46 rfl (lv_at hl 0 rfl) ?_
        refine va_get (D := (dC, dI)) (ci := 1) (v := .ref aW) (C := R_M) (T := T_M) (N := 11) hx hb hw in_M hown hK hP 2 rfl rfl 0 (by decide) (hw _ wd_63) (fun _ h9 => h9) rfl d_M_countHolders_47 ?_
        refine lv_iload hx hb d_M_countHolders_50 (lv_at hl 5 rfl) ?_
        refine va_iald hx hb hK hP 3 0 rfl rfl h.1 d_M_countHolders_52 ?_
        have h := h.2
        refine lv_iload_n hx hb d_M_countHolders_53 rfl (lv_at hl 1 rfl) ?_
        refine lv_icmp_ne (tgt := 60) hx hb d_M_countHolders_54 (by decide) (fun c_54 => ?_) (fun c_54 => ?_)
        · have h := h.2 c_54
          refine lv_iinc (v := x5_39 + (1 : Int32)) (lv' := [(5, .int (x5_39 + (1 : Int32))), (0, .ref aM), (1, .int y1_39), (2, .int x2_39), (3, .int y3_39), (4, .int y4_39)]) hx hb d_M_countHolders_60 hl (k := 5) rfl rfl (by decide) rfl (fun ls hl => ?_)
          refine lv_goto (tgt := 39) hx hb d_M_countHolders_63 (by decide) ?_
          exact ih x2_39 (x5_39 + (1 : Int32)) ls (lv_sub hl [1, 2, 3, 4, 5, 0] rfl) h
        · have h := h.1 c_54
          refine lv_iinc (v := x2_39 + (1 : Int32)) (lv' := [(2, .int (x2_39 + (1 : Int32))), (0, .ref aM), (1, .int y1_39), (3, .int y3_39), (4, .int y4_39), (5, .int x5_39)]) hx hb d_M_countHolders_57 hl (k := 2) rfl rfl (by decide) rfl (fun ls hl => ?_)
          refine lv_iinc (v := x5_39 + (1 : Int32)) (lv' := [(5, .int (x5_39 + (1 : Int32))), (2, .int (x2_39 + (1 : Int32))), (0, .ref aM), (1, .int y1_39), (3, .int y3_39), (4, .int y4_39)]) hx hb d_M_countHolders_60 hl (k := 5) rfl rfl (by decide) rfl (fun ls hl => ?_)
          refine lv_goto (tgt := 39) hx hb d_M_countHolders_63 (by decide) ?_
          exact ih (x2_39 + (1 : Int32)) (x5_39 + (1 : Int32)) ls (lv_sub hl [2, 3, 1, 4, 5, 0] rfl) h
  have lp_4 : ∀ (y1_4 : Int32) (kx : Int32 → Int32 → Prop), (∀ (z2_4 : Int32) (z3_4 : Int32) (ls : Array Slot), lv_has ls 6 [(0, .ref aM), (1, .int y1_4), (2, .int z2_4), (3, .int z3_4)] → kx z2_4 z3_4 → W p l e (headSpec ws_M_countHolders ({ frames := 3, cells := 0, slots := 0, locals := 63 })).room s m ([.ref aM, .int a1] : List Value).toArray below meth c s.heap [] 0 0 (MQ below (rq_i post) ([.ref aM, .int a1] : List Value).toArray s 0 0 (fun _ => False)) (F0 m 79 ls [])) → ∀ (n : Nat) (x2_4 : Int32) (x3_4 : Int32) (ls : Array Slot), lv_has ls 6 [(0, .ref aM), (1, .int y1_4), (2, .int x2_4), (3, .int x3_4)] → wqM_countHolders_4 nW nE f us y1_4 post kx n x2_4 x3_4 → W p l e (headSpec ws_M_countHolders ({ frames := 3, cells := 0, slots := 0, locals := 63 })).room s m ([.ref aM, .int a1] : List Value).toArray below meth c s.heap [] 0 0 (MQ below (rq_i post) ([.ref aM, .int a1] : List Value).toArray s 0 0 (fun _ => False)) (F0 m 4 ls []) := by
    intro y1_4 kx K n
    induction n with
    | zero => intro x2_4 x3_4 ls hl h; exact h.elim
    | succ n ih =>
      intro x2_4 x3_4 ls hl h
      refine lv_iload_n hx hb d_M_countHolders_4 rfl (lv_at hl 3 rfl) ?_
      refine lv_aload_n hx hb d_M_countHolders_5 rfl (lv_at hl 0 rfl) ?_
      refine va_get (D := (dC, dI)) (ci := 1) (v := .int us) (C := R_M) (T := T_M) (N := 11) hx hb hw in_M hown hK hP 2 rfl rfl 1 (by decide) (hw _ wd_64) (fun _ h9 => h9) rfl d_M_countHolders_6 ?_
      refine lv_icmp_ge (tgt := 79) hx hb d_M_countHolders_9 (by decide) (fun c_9 => ?_) (fun c_9 => ?_)
      · have h := h.1 c_9
        exact K x2_4 x3_4 ls (lv_sub hl [0, 1, 2, 3] rfl) h
      · have h := h.2 c_9
        refine lv_aload_n hx hb d_M_countHolders_12 rfl (lv_at hl 0 rfl) ?_
        refine va_get (D := (dC, dI)) (ci := 1) (v := .ref aW) (C := R_M) (T := T_M) (N := 11) hx hb hw in_M hown hK hP 2 rfl rfl 0 (by decide) (hw _ wd_63) (fun _ h9 => h9) rfl d_M_countHolders_13 ?_
        refine lv_iload_n hx hb d_M_countHolders_16 rfl (lv_at hl 3 rfl) ?_
        refine lv_iconst (v := (2 : Int32)) hx hb d_M_countHolders_17 (by decide) ?_
        refine lv_iadd hx hb d_M_countHolders_18 ?_
        refine va_iald hx hb hK hP 3 0 rfl rfl h.1 d_M_countHolders_19 ?_
        have h := h.2
        refine lv_iload_n hx hb d_M_countHolders_20 rfl (lv_at hl 1 rfl) ?_
        refine lv_icmp_ne (tgt := 27) hx hb d_M_countHolders_21 (by decide) (fun c_21 => ?_) (fun c_21 => ?_)
        · have h := h.2 c_21
          refine lv_aload_n hx hb d_M_countHolders_27 rfl (lv_at hl 0 rfl) ?_
          refine lv_iload_n hx hb d_M_countHolders_28 rfl (lv_at hl 3 rfl) ?_
          refine rq_calli (W.runV (As := [.int x3_4]) (rest := []) ⟨hx, hb, hml, hown, hw⟩ (mM_endOfSlots l dC dI cA a0 aR aM aW aP aS aC aO nW nE R f us P S sc li rc rn ro rd st x3_4 _ h) (cwV 1 hw g_M_120 rfl rfl rfl (by decide +kernel) ⟨Nat.le_of_ble_eq_true rfl, Nat.le_of_ble_eq_true rfl⟩) (ro_PV (ci := 1) (q0 := 2) hK hP rfl rfl) rfl rfl hl.1 rfl (lv_room (Nat.le_of_ble_eq_true rfl)) d_M_countHolders_29 ⟨Nat.le_of_ble_eq_true rfl, Nat.le_of_ble_eq_true rfl⟩) (fun r29 h => ?_)
          refine lv_istore (lv' := [(4, .int r29), (0, .ref aM), (1, .int y1_4), (2, .int x2_4), (3, .int x3_4)]) hx hb d_M_countHolders_32 hl (by decide) rfl (fun ls hl => ?_)
          refine lv_iload_n hx hb d_M_countHolders_34 rfl (lv_at hl 4 rfl) ?_
          refine lv_iconst (v := (4 : Int32)) hx hb d_M_countHolders_35 (by decide) ?_
          refine lv_iadd hx hb d_M_countHolders_36 ?_
          refine lv_istore (lv' := [(5, .int (x3_4 + (4 : Int32))), (4, .int r29), (0, .ref aM), (1, .int y1_4), (2, .int x2_4), (3, .int x3_4)]) hx hb d_M_countHolders_37 hl (by decide) rfl (fun ls hl => ?_)
          obtain ⟨n_39, h⟩ := h
          refine lp_39 y1_4 x3_4 r29 _ (fun z2_39 z5_39 ls hl h => ?_) n_39 x2_4 (x3_4 + (4 : Int32)) ls (lv_sub hl [2, 3, 4, 5, 1, 0] rfl) h
          refine lv_iload_n hx hb d_M_countHolders_66 rfl (lv_at hl 3 rfl) ?_
          refine lv_iconst (v := (4 : Int32)) hx hb d_M_countHolders_67 (by decide) ?_
          refine lv_aload_n hx hb d_M_countHolders_68 rfl (lv_at hl 0 rfl) ?_
          refine lv_iload_n hx hb d_M_countHolders_69 rfl (lv_at hl 3 rfl) ?_
          refine rq_calli (W.runV (As := [.int x3_4]) (rest := [.int (4 : Int32), .int x3_4]) ⟨hx, hb, hml, hown, hw⟩ (mM_bodyWordsAt l dC dI cA a0 aR aM aW aP aS aC aO nW nE R f us P S sc li rc rn ro rd st x3_4 _ h) (cwV 1 hw g_M_123 rfl rfl rfl (by decide +kernel) ⟨Nat.le_of_ble_eq_true rfl, Nat.le_of_ble_eq_true rfl⟩) (ro_PV (ci := 1) (q0 := 2) hK hP rfl rfl) rfl rfl hl.1 rfl (lv_room (Nat.le_of_ble_eq_true rfl)) d_M_countHolders_70 ⟨Nat.le_of_ble_eq_true rfl, Nat.le_of_ble_eq_true rfl⟩) (fun r70 h => ?_)
          refine lv_iadd hx hb d_M_countHolders_73 ?_
          refine lv_iadd hx hb d_M_countHolders_74 ?_
          refine lv_istore_n (lv' := [(3, .int (x3_4 + ((4 : Int32) + r70))), (0, .ref aM), (1, .int y1_4), (2, .int z2_39), (4, .int r29), (5, .int z5_39)]) hx hb d_M_countHolders_75 rfl hl (by decide) rfl (fun ls hl => ?_)
          refine lv_goto (tgt := 4) hx hb d_M_countHolders_76 (by decide) ?_
          exact ih z2_39 (x3_4 + ((4 : Int32) + r70)) ls (lv_sub hl [1, 2, 3, 0] rfl) h
        · have h := h.1 c_21
          refine lv_iinc (v := x2_4 + (1 : Int32)) (lv' := [(2, .int (x2_4 + (1 : Int32))), (0, .ref aM), (1, .int y1_4), (3, .int x3_4)]) hx hb d_M_countHolders_24 hl (k := 2) rfl rfl (by decide) rfl (fun ls hl => ?_)
          refine lv_aload_n hx hb d_M_countHolders_27 rfl (lv_at hl 1 rfl) ?_
          refine lv_iload_n hx hb d_M_countHolders_28 rfl (lv_at hl 3 rfl) ?_
          refine rq_calli (W.runV (As := [.int x3_4]) (rest := []) ⟨hx, hb, hml, hown, hw⟩ (mM_endOfSlots l dC dI cA a0 aR aM aW aP aS aC aO nW nE R f us P S sc li rc rn ro rd st x3_4 _ h) (cwV 1 hw g_M_120 rfl rfl rfl (by decide +kernel) ⟨Nat.le_of_ble_eq_true rfl, Nat.le_of_ble_eq_true rfl⟩) (ro_PV (ci := 1) (q0 := 2) hK hP rfl rfl) rfl rfl hl.1 rfl (lv_room (Nat.le_of_ble_eq_true rfl)) d_M_countHolders_29 ⟨Nat.le_of_ble_eq_true rfl, Nat.le_of_ble_eq_true rfl⟩) (fun r29 h => ?_)
          refine lv_istore (lv' := [(4, .int r29), (2, .int (x2_4 + (1 : Int32))), (0, .ref aM), (1, .int y1_4), (3, .int x3_4)]) hx hb d_M_countHolders_32 hl (by decide) rfl (fun ls hl => ?_)
          refine lv_iload_n hx hb d_M_countHolders_34 rfl (lv_at hl 4 rfl) ?_
          refine lv_iconst (v := (4 : Int32)) hx hb d_M_countHolders_35 (by decide) ?_
          refine lv_iadd hx hb d_M_countHolders_36 ?_
          refine lv_istore (lv' := [(5, .int (x3_4 + (4 : Int32))), (4, .int r29), (2, .int (x2_4 + (1 : Int32))), (0, .ref aM), (1, .int y1_4), (3, .int x3_4)]) hx hb d_M_countHolders_37 hl (by decide) rfl (fun ls hl => ?_)
          obtain ⟨n_39, h⟩ := h
          refine lp_39 y1_4 x3_4 r29 _ (fun z2_39 z5_39 ls hl h => ?_) n_39 (x2_4 + (1 : Int32)) (x3_4 + (4 : Int32)) ls (lv_sub hl [3, 4, 2, 5, 1, 0] rfl) h
          refine lv_iload_n hx hb d_M_countHolders_66 rfl (lv_at hl 3 rfl) ?_
          refine lv_iconst (v := (4 : Int32)) hx hb d_M_countHolders_67 (by decide) ?_
          refine lv_aload_n hx hb d_M_countHolders_68 rfl (lv_at hl 0 rfl) ?_
          refine lv_iload_n hx hb d_M_countHolders_69 rfl (lv_at hl 3 rfl) ?_
          refine rq_calli (W.runV (As := [.int x3_4]) (rest := [.int (4 : Int32), .int x3_4]) ⟨hx, hb, hml, hown, hw⟩ (mM_bodyWordsAt l dC dI cA a0 aR aM aW aP aS aC aO nW nE R f us P S sc li rc rn ro rd st x3_4 _ h) (cwV 1 hw g_M_123 rfl rfl rfl (by decide +kernel) ⟨Nat.le_of_ble_eq_true rfl, Nat.le_of_ble_eq_true rfl⟩) (ro_PV (ci := 1) (q0 := 2) hK hP rfl rfl) rfl rfl hl.1 rfl (lv_room (Nat.le_of_ble_eq_true rfl)) d_M_countHolders_70 ⟨Nat.le_of_ble_eq_true rfl, Nat.le_of_ble_eq_true rfl⟩) (fun r70 h => ?_)
          refine lv_iadd hx hb d_M_countHolders_73 ?_
          refine lv_iadd hx hb d_M_countHolders_74 ?_
          refine lv_istore_n (lv' := [(3, .int (x3_4 + ((4 : Int32) + r70))), (0, .ref aM), (1, .int y1_4), (2, .int z2_39), (4, .int r29), (5, .int z5_39)]) hx hb d_M_countHolders_75 rfl hl (by decide) rfl (fun ls hl => ?_)
          refine lv_goto (tgt := 4) hx hb d_M_countHolders_76 (by decide) ?_
          exact ih z2_39 (x3_4 + ((4 : Int32) + r70)) ls (lv_sub hl [1, 2, 3, 0] rfl) h
  unfold wqM_countHolders at h
  refine lv_iconst (v := (0 : Int32)) hx hb d_M_countHolders_0 (by decide) ?_
  refine lv_istore_n (lv' := [(2, .int (0 : Int32)), (0, .ref aM), (1, .int a1)]) hx hb d_M_countHolders_1 rfl hl (by decide) rfl (fun ls hl => ?_)
  refine lv_iconst (v := (0 : Int32)) hx hb d_M_countHolders_2 (by decide) ?_
  refine lv_istore_n (lv' := [(3, .int (0 : Int32)), (2, .int (0 : Int32)), (0, .ref aM), (1, .int a1)]) hx hb d_M_countHolders_3 rfl hl (by decide) rfl (fun ls hl => ?_)
  obtain ⟨n_4, h⟩ := h
  refine lp_4 a1 _ (fun z2_4 z3_4 ls hl h => ?_) n_4 (0 : Int32) (0 : Int32) ls (lv_sub hl [2, 3, 1, 0] rfl) h
  refine lv_iload_n hx hb d_M_countHolders_79 rfl (lv_at hl 2 rfl) ?_
  exact W.iret (v := z2_4) hx hb hr9 (fun t ht hW => ⟨_, rfl, h, ht⟩) (fun _ h9 => nomatch h9) d_M_countHolders_80
def wqM_letGo (nW : Nat) (nE : Nat) (st : Int32) (a1 : Int32) (post : Int32 → Prop) : Prop :=
  wqV_isObject a1 (fun r1 => (r1 = 0 → (post st)) ∧ (¬ (r1 = 0) → (post (0 : Int32))))
set_option maxHeartbeats 4000000 in
set_option maxRecDepth 100000 in
theorem mM_letGo (l : Launch) (dC : Nat → ClassId) (dI : Nat → Nat → Nat) (cA : ClassId) (a0 : Nat) (aR : Nat) (aM : Nat) (aW : Nat) (aP : Nat) (aS : Nat) (aC : Nat) (aO : Nat) (nW : Nat) (nE : Nat) (sz : Nat) (R : Nat → Int32) (f : Nat → Int32) (us : Int32) (P : Nat → Int32) (S : Nat → Int32) (sc : Int32) (li : Int32) (rc : Nat → Int32) (rn : Int32) (ro : Nat → Int32) (rd : Int32) (st : Int32) (a1 : Int32) (post : Int32 → Prop) (h : wqM_letGo nW nE st a1 post) : Met l y_M_letGo ws_M_letGo ({ frames := 2, cells := 0, slots := 0, locals := 40 }) (rw_P (dC, dI) vwCl (TSw cA a0 aR aM aW aP aS aC aO nW nE R f us P S sc li rc rn ro rd st) [(cA, .int)] sz [.ref aM, .int a1]) (va_Qv (fun u : Int32 => post u) (rw_B (dC, dI) vwCl [(cA, .int)] (va_A (TSw cA a0 aR aM aW aP aS aC aO nW nE R f us P S sc li rc rn ro rd st) sz) (fun u : Int32 => TSw cA a0 aR aM aW aP aS aC aO nW nE R f us P S sc li rc rn ro rd u)) (va_A (TSw cA a0 aR aM aW aP aS aC aO nW nE R f us P S sc li rc rn ro rd st) sz)) 0 0 (va_A (TSw cA a0 aR aM aW aP aS aC aO nW nE R f us P S sc li rc rn ro rd st) sz) := by
  refine Met.ofW (cc := c_M_letGo) (maxL := 2) (ret := none) (by decide) rfl ?_
  intro p e s m args below meth c s₁ B hml hv
  obtain ⟨rfl, hsz, hP, hK, hD0⟩ := hv
  have hx := B.exec
  have hb := B.bytes
  have hr9 := B.returns
  have hts := atoms_spec (ws := ws_M_letGo) B.pre
  have hw : ∀ w ∈ WB_, w.before _ s = true := fun w h => hts w (List.mem_cons_of_mem _ h)
  have hown : s.vm.findClass R_M = some m.cls := findClass_of_methodNamed B.named
  have hlocks := B.notSynchronized
  subst hsz
  have hD := hD0.self (sz := s.heap.size)
  generalize hAe : va_A (TSw cA a0 aR aM aW aP aS aC aO nW nE R f us P S sc li rc rn ro rd st) s.heap.size = A at hD ⊢
  have hA : ∀ q : Nat, s.heap.size ≤ q → A q := fun q h => by rw [← hAe]; exact Or.inr h
  have hS : va_S A s.heap s.heap [] := va_S.rf
  have hl := lv_entry ([.ref aM, .int a1]) (n := 2) (Nat.le_of_ble_eq_true rfl)
  rw [lg_entry_eq]
  generalize (lg_sl ([.ref aM, .int a1]) ++ List.replicate (2 - (lg_sl ([.ref aM, .int a1])).length) Slot.unset).toArray = ls at hl ⊢
  have hl : lv_has ls 2 [(0, .ref aM), (1, .int a1)] := hl
  unfold wqM_letGo at h
  refine lv_iload_n hx hb d_M_letGo_0 rfl (lv_at hl 1 rfl) ?_
  refine rq_calli (W.runS (As := [.int a1]) (rest := []) ⟨hx, hb, hml, hown, hw⟩ (mV_isObject l a1 _ h) (va_cwS 1 hw g_M_43 rfl rfl rfl (by decide +kernel) ⟨Nat.le_of_ble_eq_true rfl, Nat.le_of_ble_eq_true rfl⟩) preEq rfl rfl hl.1 rfl (lv_room (Nat.le_of_ble_eq_true rfl)) d_M_letGo_1 ⟨Nat.le_of_ble_eq_true rfl, Nat.le_of_ble_eq_true rfl⟩) (fun r1 h => ?_)
  refine lv_if_eq (tgt := 12) hx hb d_M_letGo_4 (by decide) (fun c_4 => ?_) (fun c_4 => ?_)
  · have h := h.1 c_4
    exact W.vret hx hb hr9 (fun t ht hW => ⟨⟨(st), rfl, h, by rw [ht]; exact hP, va_K.moved hW.alike hK, hD⟩, hS.F ht⟩) hS.2.2 d_M_letGo_12
  · have h := h.2 c_4
    refine lv_aload_n hx hb d_M_letGo_7 rfl (lv_at hl 0 rfl) ?_
    refine lv_iconst (v := (0 : Int32)) hx hb d_M_letGo_8 (by decide) ?_
    refine va_put (D := (dC, dI)) (ci := 1) (v := .int (0 : Int32)) (ty := .boolean) (C := R_M) (T := T_M) (N := 11) hx hb hw in_M ty_M ty_M_ok nm_M hown hK hP hD hS 2 rfl rfl 10 (by decide) (hw _ wd_73) (fun _ h9 => h9) rfl (by decide +kernel) rfl rfl (Nat.le_of_ble_eq_true rfl) d_M_letGo_9 (fun H locs hP hD hS => ?_)
    have hP : va_P (dC, dI) vwCl (TSw cA a0 aR aM aW aP aS aC aO nW nE R f us P S sc li rc rn ro rd (0 : Int32)) H := hP
    have hD : va_D A (TSw cA a0 aR aM aW aP aS aC aO nW nE R f us P S sc li rc rn ro rd (0 : Int32)) := hD
    exact W.vret hx hb hr9 (fun t ht hW => ⟨⟨((0 : Int32)), rfl, h, by rw [ht]; exact hP, va_K.moved hW.alike hK, hD⟩, hS.F ht⟩) hS.2.2 d_M_letGo_12
def wqM_overwrite (nW : Nat) (nE : Nat) (f : Nat → Int32) (st : Int32) (a1 : Int32) (a2 : Int32) (post : (Nat → Int32) → Int32 → Prop) : Prop :=
  vp_in a1 nW ∧ (wqM_letGo nW nE st (f a1.toNatClampNeg) (fun st_7 => vp_in a1 nW ∧ (post (upd f a1.toNatClampNeg a2) st_7)))
set_option maxHeartbeats 4000000 in
set_option maxRecDepth 100000 in
theorem mM_overwrite (l : Launch) (dC : Nat → ClassId) (dI : Nat → Nat → Nat) (cA : ClassId) (a0 : Nat) (aR : Nat) (aM : Nat) (aW : Nat) (aP : Nat) (aS : Nat) (aC : Nat) (aO : Nat) (nW : Nat) (nE : Nat) (sz : Nat) (R : Nat → Int32) (f : Nat → Int32) (us : Int32) (P : Nat → Int32) (S : Nat → Int32) (sc : Int32) (li : Int32) (rc : Nat → Int32) (rn : Int32) (ro : Nat → Int32) (rd : Int32) (st : Int32) (a1 : Int32) (a2 : Int32) (post : (Nat → Int32) → Int32 → Prop) (h : wqM_overwrite nW nE f st a1 a2 post) : Met l y_M_overwrite ws_M_overwrite ({ frames := 3, cells := 0, slots := 0, locals := 61 }) (rw_P (dC, dI) vwCl (TSw cA a0 aR aM aW aP aS aC aO nW nE R f us P S sc li rc rn ro rd st) [(cA, .int)] sz [.ref aM, .int a1, .int a2]) (va_Qv (fun u : (Nat → Int32) × Int32 => post u.1 u.2) (rw_B (dC, dI) vwCl [(cA, .int)] (va_A (TSw cA a0 aR aM aW aP aS aC aO nW nE R f us P S sc li rc rn ro rd st) sz) (fun u : (Nat → Int32) × Int32 => TSw cA a0 aR aM aW aP aS aC aO nW nE R u.1 us P S sc li rc rn ro rd u.2)) (va_A (TSw cA a0 aR aM aW aP aS aC aO nW nE R f us P S sc li rc rn ro rd st) sz)) 0 0 (va_A (TSw cA a0 aR aM aW aP aS aC aO nW nE R f us P S sc li rc rn ro rd st) sz) := by
  refine Met.ofW (cc := c_M_overwrite) (maxL := 3) (ret := none) (by decide) rfl ?_
  intro p e s m args below meth c s₁ B hml hv
  obtain ⟨rfl, hsz, hP, hK, hD0⟩ := hv
  have hx := B.exec
  have hb := B.bytes
  have hr9 := B.returns
  have hts := atoms_spec (ws := ws_M_overwrite) B.pre
  have hw : ∀ w ∈ WB_, w.before _ s = true := fun w h => hts w (List.mem_cons_of_mem _ h)
  have hown : s.vm.findClass R_M = some m.cls := findClass_of_methodNamed B.named
  have hlocks := B.notSynchronized
  subst hsz
  have hD := hD0.self (sz := s.heap.size)
  generalize hAe : va_A (TSw cA a0 aR aM aW aP aS aC aO nW nE R f us P S sc li rc rn ro rd st) s.heap.size = A at hD ⊢
  have hA : ∀ q : Nat, s.heap.size ≤ q → A q := fun q h => by rw [← hAe]; exact Or.inr h
  have hS : va_S A s.heap s.heap [] := va_S.rf
  have hl := lv_entry ([.ref aM, .int a1, .int a2]) (n := 3) (Nat.le_of_ble_eq_true rfl)
  rw [lg_entry_eq]
  generalize (lg_sl ([.ref aM, .int a1, .int a2]) ++ List.replicate (3 - (lg_sl ([.ref aM, .int a1, .int a2])).length) Slot.unset).toArray = ls at hl ⊢
  have hl : lv_has ls 3 [(0, .ref aM), (1, .int a1), (2, .int a2)] := hl
  unfold wqM_overwrite at h
  refine lv_aload_n hx hb d_M_overwrite_0 rfl (lv_at hl 0 rfl) ?_
  refine lv_aload_n hx hb d_M_overwrite_1 rfl (lv_at hl 0 rfl) ?_
  refine va_get (D := (dC, dI)) (ci := 1) (v := .ref aW) (C := R_M) (T := T_M) (N := 11) hx hb hw in_M hown hK hP 2 rfl rfl 0 (by decide) (hw _ wd_63) (fun _ h9 => h9) rfl d_M_overwrite_2 ?_
  refine lv_iload_n hx hb d_M_overwrite_5 rfl (lv_at hl 1 rfl) ?_
  refine va_iald hx hb hK hP 3 0 rfl rfl h.1 d_M_overwrite_6 ?_
  have h := h.2
  have hFc := va_free (wc := TSw cA a0 aR aM aW aP aS aC aO nW nE R f us P S sc li rc rn ro rd st) hD hS hA [0, 1, 2, 3, 4, 5, 6, 7] rfl
  refine va_callv (va_runV (As := [.int (f a1.toNatClampNeg)]) (rest := []) ⟨hx, hb, hml, hown, hw⟩ (mM_letGo l dC dI cA a0 aR aM aW aP aS aC aO nW nE s.heap.size R f us P S sc li rc rn ro rd st (f a1.toNatClampNeg) _ h) (cwV 1 hw g_M_56 rfl rfl rfl (by decide +kernel) ⟨Nat.le_of_ble_eq_true rfl, Nat.le_of_ble_eq_true rfl⟩) (rw_PV (ci := 1) (q0 := 2) hK hP hD rfl rfl) rfl rfl hl.1 rfl (lv_room (Nat.le_of_ble_eq_true rfl)) d_M_overwrite_7 ⟨Nat.le_of_ble_eq_true rfl, Nat.le_of_ble_eq_true rfl⟩) hS (fun q _ h => hFc q h) hFc (fun u t H locs ht hvm h hB hz1 hk1 hS => ?_)
  obtain ⟨st_7, rfl⟩ : ∃ z, z = u := ⟨_, rfl⟩
  obtain ⟨hP, hK1, hD1⟩ := hB
  rw [ht] at hP
  have hD := hD1.weaken (fun _ _ _ q => hFc _ q)
  clear hFc hD1 hK1
  try dsimp only at h
  have hP : va_P (dC, dI) vwCl (TSw cA a0 aR aM aW aP aS aC aO nW nE R f us P S sc li rc rn ro rd st_7) H := hP
  have hD : va_D A (TSw cA a0 aR aM aW aP aS aC aO nW nE R f us P S sc li rc rn ro rd st_7) := hD
  refine lv_aload_n hx hb d_M_overwrite_10 rfl (lv_at hl 0 rfl) ?_
  refine va_get (D := (dC, dI)) (ci := 1) (v := .ref aW) (C := R_M) (T := T_M) (N := 11) hx hb hw in_M hown hK hP 2 rfl rfl 0 (by decide) (hw _ wd_63) (fun _ h9 => h9) rfl d_M_overwrite_11 ?_
  refine lv_iload_n hx hb d_M_overwrite_14 rfl (lv_at hl 1 rfl) ?_
  refine lv_iload_n hx hb d_M_overwrite_15 rfl (lv_at hl 2 rfl) ?_
  refine va_iast hx hb hK hP hD hS 3 0 rfl rfl h.1 d_M_overwrite_16 (fun H locs hP hD hS => ?_)
  have hP : va_P (dC, dI) vwCl (TSw cA a0 aR aM aW aP aS aC aO nW nE R (upd f a1.toNatClampNeg a2) us P S sc li rc rn ro rd st_7) H := hP
  have hD : va_D A (TSw cA a0 aR aM aW aP aS aC aO nW nE R (upd f a1.toNatClampNeg a2) us P S sc li rc rn ro rd st_7) := hD
  have h := h.2
  exact W.vret hx hb hr9 (fun t ht hW => ⟨⟨(upd f a1.toNatClampNeg a2, st_7), rfl, h, by rw [ht]; exact hP, va_K.moved hW.alike hK, hD⟩, hS.F ht⟩) hS.2.2 d_M_overwrite_17
def wqM_setItsClass (nW : Nat) (nE : Nat) (f : Nat → Int32) (P : Nat → Int32) (st : Int32) (a1 : Int32) (a2 : Int32) (post : (Nat → Int32) → Int32 → Prop) : Prop :=
  wqM_place nW nE P a1 (fun r3 => wqM_overwrite nW nE f st (r3 + (2 : Int32)) a2 (fun f_9 st_9 => post f_9 st_9))
set_option maxHeartbeats 4000000 in
set_option maxRecDepth 100000 in
theorem mM_setItsClass (l : Launch) (dC : Nat → ClassId) (dI : Nat → Nat → Nat) (cA : ClassId) (a0 : Nat) (aR : Nat) (aM : Nat) (aW : Nat) (aP : Nat) (aS : Nat) (aC : Nat) (aO : Nat) (nW : Nat) (nE : Nat) (sz : Nat) (R : Nat → Int32) (f : Nat → Int32) (us : Int32) (P : Nat → Int32) (S : Nat → Int32) (sc : Int32) (li : Int32) (rc : Nat → Int32) (rn : Int32) (ro : Nat → Int32) (rd : Int32) (st : Int32) (a1 : Int32) (a2 : Int32) (post : (Nat → Int32) → Int32 → Prop) (h : wqM_setItsClass nW nE f P st a1 a2 post) : Met l y_M_setItsClass ws_M_setItsClass ({ frames := 4, cells := 0, slots := 0, locals := 83 }) (rw_P (dC, dI) vwCl (TSw cA a0 aR aM aW aP aS aC aO nW nE R f us P S sc li rc rn ro rd st) [(cA, .int)] sz [.ref aM, .int a1, .int a2]) (va_Qv (fun u : (Nat → Int32) × Int32 => post u.1 u.2) (rw_B (dC, dI) vwCl [(cA, .int)] (va_A (TSw cA a0 aR aM aW aP aS aC aO nW nE R f us P S sc li rc rn ro rd st) sz) (fun u : (Nat → Int32) × Int32 => TSw cA a0 aR aM aW aP aS aC aO nW nE R u.1 us P S sc li rc rn ro rd u.2)) (va_A (TSw cA a0 aR aM aW aP aS aC aO nW nE R f us P S sc li rc rn ro rd st) sz)) 0 0 (va_A (TSw cA a0 aR aM aW aP aS aC aO nW nE R f us P S sc li rc rn ro rd st) sz) := by
  refine Met.ofW (cc := c_M_setItsClass) (maxL := 3) (ret := none) (by decide) rfl ?_
  intro p e s m args below meth c s₁ B hml hv
  obtain ⟨rfl, hsz, hP, hK, hD0⟩ := hv
  have hx := B.exec
  have hb := B.bytes
  have hr9 := B.returns
  have hts := atoms_spec (ws := ws_M_setItsClass) B.pre
  have hw : ∀ w ∈ WB_, w.before _ s = true := fun w h => hts w (List.mem_cons_of_mem _ h)
  have hown : s.vm.findClass R_M = some m.cls := findClass_of_methodNamed B.named
  have hlocks := B.notSynchronized
  subst hsz
  have hD := hD0.self (sz := s.heap.size)
  generalize hAe : va_A (TSw cA a0 aR aM aW aP aS aC aO nW nE R f us P S sc li rc rn ro rd st) s.heap.size = A at hD ⊢
  have hA : ∀ q : Nat, s.heap.size ≤ q → A q := fun q h => by rw [← hAe]; exact Or.inr h
  have hS : va_S A s.heap s.heap [] := va_S.rf
  have hl := lv_entry ([.ref aM, .int a1, .int a2]) (n := 3) (Nat.le_of_ble_eq_true rfl)
  rw [lg_entry_eq]
  generalize (lg_sl ([.ref aM, .int a1, .int a2]) ++ List.replicate (3 - (lg_sl ([.ref aM, .int a1, .int a2])).length) Slot.unset).toArray = ls at hl ⊢
  have hl : lv_has ls 3 [(0, .ref aM), (1, .int a1), (2, .int a2)] := hl
  unfold wqM_setItsClass at h
  refine lv_aload_n hx hb d_M_setItsClass_0 rfl (lv_at hl 0 rfl) ?_
  refine lv_aload_n hx hb d_M_setItsClass_1 rfl (lv_at hl 0 rfl) ?_
  refine lv_iload_n hx hb d_M_setItsClass_2 rfl (lv_at hl 1 rfl) ?_
  refine rq_calli (W.runV (As := [.int a1]) (rest := [.ref aM]) ⟨hx, hb, hml, hown, hw⟩ (mM_place l dC dI cA a0 aR aM aW aP aS aC aO nW nE R f us P S sc li rc rn ro rd st a1 _ h) (cwV 1 hw g_M_46 rfl rfl rfl (by decide +kernel) ⟨Nat.le_of_ble_eq_true rfl, Nat.le_of_ble_eq_true rfl⟩) (ro_PV (ci := 1) (q0 := 2) hK hP rfl rfl) rfl rfl hl.1 rfl (lv_room (Nat.le_of_ble_eq_true rfl)) d_M_setItsClass_3 ⟨Nat.le_of_ble_eq_true rfl, Nat.le_of_ble_eq_true rfl⟩) (fun r3 h => ?_)
  refine lv_iconst (v := (2 : Int32)) hx hb d_M_setItsClass_6 (by decide) ?_
  refine lv_iadd hx hb d_M_setItsClass_7 ?_
  refine lv_iload_n hx hb d_M_setItsClass_8 rfl (lv_at hl 2 rfl) ?_
  have hFc := va_free (wc := TSw cA a0 aR aM aW aP aS aC aO nW nE R f us P S sc li rc rn ro rd st) hD hS hA [0, 1, 2, 3, 4, 5, 6, 7] rfl
  refine va_callv (va_runV (As := [.int (r3 + (2 : Int32)), .int a2]) (rest := []) ⟨hx, hb, hml, hown, hw⟩ (mM_overwrite l dC dI cA a0 aR aM aW aP aS aC aO nW nE s.heap.size R f us P S sc li rc rn ro rd st (r3 + (2 : Int32)) a2 _ h) (cwV 2 hw g_M_49 rfl rfl rfl (by decide +kernel) ⟨Nat.le_of_ble_eq_true rfl, Nat.le_of_ble_eq_true rfl⟩) (rw_PV (ci := 1) (q0 := 2) hK hP hD rfl rfl) rfl rfl hl.1 rfl (lv_room (Nat.le_of_ble_eq_true rfl)) d_M_setItsClass_9 ⟨Nat.le_of_ble_eq_true rfl, Nat.le_of_ble_eq_true rfl⟩) hS (fun q _ h => hFc q h) hFc (fun u t H locs ht hvm h hB hz1 hk1 hS => ?_)
  obtain ⟨f_9, st_9⟩ := u
  obtain ⟨hP, hK1, hD1⟩ := hB
  rw [ht] at hP
  have hD := hD1.weaken (fun _ _ _ q => hFc _ q)
  clear hFc hD1 hK1
  try dsimp only at h
  have hP : va_P (dC, dI) vwCl (TSw cA a0 aR aM aW aP aS aC aO nW nE R f_9 us P S sc li rc rn ro rd st_9) H := hP
  have hD : va_D A (TSw cA a0 aR aM aW aP aS aC aO nW nE R f_9 us P S sc li rc rn ro rd st_9) := hD
  exact W.vret hx hb hr9 (fun t ht hW => ⟨⟨(f_9, st_9), rfl, h, by rw [ht]; exact hP, va_K.moved hW.alike hK, hD⟩, hS.F ht⟩) hS.2.2 d_M_setItsClass_12
def wqM_setSlot (nW : Nat) (nE : Nat) (f : Nat → Int32) (P : Nat → Int32) (st : Int32) (a1 : Int32) (a2 : Int32) (a3 : Int32) (post : (Nat → Int32) → Int32 → Prop) : Prop :=
  wqM_place nW nE P a1 (fun r3 => wqM_overwrite nW nE f st ((r3 + (4 : Int32)) + a2) a3 (fun f_11 st_11 => post f_11 st_11))
set_option maxHeartbeats 4000000 in
set_option maxRecDepth 100000 in
theorem mM_setSlot (l : Launch) (dC : Nat → ClassId) (dI : Nat → Nat → Nat) (cA : ClassId) (a0 : Nat) (aR : Nat) (aM : Nat) (aW : Nat) (aP : Nat) (aS : Nat) (aC : Nat) (aO : Nat) (nW : Nat) (nE : Nat) (sz : Nat) (R : Nat → Int32) (f : Nat → Int32) (us : Int32) (P : Nat → Int32) (S : Nat → Int32) (sc : Int32) (li : Int32) (rc : Nat → Int32) (rn : Int32) (ro : Nat → Int32) (rd : Int32) (st : Int32) (a1 : Int32) (a2 : Int32) (a3 : Int32) (post : (Nat → Int32) → Int32 → Prop) (h : wqM_setSlot nW nE f P st a1 a2 a3 post) : Met l y_M_setSlot ws_M_setSlot ({ frames := 4, cells := 0, slots := 0, locals := 83 }) (rw_P (dC, dI) vwCl (TSw cA a0 aR aM aW aP aS aC aO nW nE R f us P S sc li rc rn ro rd st) [(cA, .int)] sz [.ref aM, .int a1, .int a2, .int a3]) (va_Qv (fun u : (Nat → Int32) × Int32 => post u.1 u.2) (rw_B (dC, dI) vwCl [(cA, .int)] (va_A (TSw cA a0 aR aM aW aP aS aC aO nW nE R f us P S sc li rc rn ro rd st) sz) (fun u : (Nat → Int32) × Int32 => TSw cA a0 aR aM aW aP aS aC aO nW nE R u.1 us P S sc li rc rn ro rd u.2)) (va_A (TSw cA a0 aR aM aW aP aS aC aO nW nE R f us P S sc li rc rn ro rd st) sz)) 0 0 (va_A (TSw cA a0 aR aM aW aP aS aC aO nW nE R f us P S sc li rc rn ro rd st) sz) := by
  refine Met.ofW (cc := c_M_setSlot) (maxL := 4) (ret := none) (by decide) rfl ?_
  intro p e s m args below meth c s₁ B hml hv
  obtain ⟨rfl, hsz, hP, hK, hD0⟩ := hv
  have hx := B.exec
  have hb := B.bytes
  have hr9 := B.returns
  have hts := atoms_spec (ws := ws_M_setSlot) B.pre
  have hw : ∀ w ∈ WB_, w.before _ s = true := fun w h => hts w (List.mem_cons_of_mem _ h)
  have hown : s.vm.findClass R_M = some m.cls := findClass_of_methodNamed B.named
  have hlocks := B.notSynchronized
  subst hsz
  have hD := hD0.self (sz := s.heap.size)
  generalize hAe : va_A (TSw cA a0 aR aM aW aP aS aC aO nW nE R f us P S sc li rc rn ro rd st) s.heap.size = A at hD ⊢
  have hA : ∀ q : Nat, s.heap.size ≤ q → A q := fun q h => by rw [← hAe]; exact Or.inr h
  have hS : va_S A s.heap s.heap [] := va_S.rf
  have hl := lv_entry ([.ref aM, .int a1, .int a2, .int a3]) (n := 4) (Nat.le_of_ble_eq_true rfl)
  rw [lg_entry_eq]
  generalize (lg_sl ([.ref aM, .int a1, .int a2, .int a3]) ++ List.replicate (4 - (lg_sl ([.ref aM, .int a1, .int a2, .int a3])).length) Slot.unset).toArray = ls at hl ⊢
  have hl : lv_has ls 4 [(0, .ref aM), (1, .int a1), (2, .int a2), (3, .int a3)] := hl
  unfold wqM_setSlot at h
  refine lv_aload_n hx hb d_M_setSlot_0 rfl (lv_at hl 0 rfl) ?_
  refine lv_aload_n hx hb d_M_setSlot_1 rfl (lv_at hl 0 rfl) ?_
  refine lv_iload_n hx hb d_M_setSlot_2 rfl (lv_at hl 1 rfl) ?_
  refine rq_calli (W.runV (As := [.int a1]) (rest := [.ref aM]) ⟨hx, hb, hml, hown, hw⟩ (mM_place l dC dI cA a0 aR aM aW aP aS aC aO nW nE R f us P S sc li rc rn ro rd st a1 _ h) (cwV 1 hw g_M_46 rfl rfl rfl (by decide +kernel) ⟨Nat.le_of_ble_eq_true rfl, Nat.le_of_ble_eq_true rfl⟩) (ro_PV (ci := 1) (q0 := 2) hK hP rfl rfl) rfl rfl hl.1 rfl (lv_room (Nat.le_of_ble_eq_true rfl)) d_M_setSlot_3 ⟨Nat.le_of_ble_eq_true rfl, Nat.le_of_ble_eq_true rfl⟩) (fun r3 h => ?_)
  refine lv_iconst (v := (4 : Int32)) hx hb d_M_setSlot_6 (by decide) ?_
  refine lv_iadd hx hb d_M_setSlot_7 ?_
  refine lv_iload_n hx hb d_M_setSlot_8 rfl (lv_at hl 2 rfl) ?_
  refine lv_iadd hx hb d_M_setSlot_9 ?_
  refine lv_iload_n hx hb d_M_setSlot_10 rfl (lv_at hl 3 rfl) ?_
  have hFc := va_free (wc := TSw cA a0 aR aM aW aP aS aC aO nW nE R f us P S sc li rc rn ro rd st) hD hS hA [0, 1, 2, 3, 4, 5, 6, 7] rfl
  refine va_callv (va_runV (As := [.int ((r3 + (4 : Int32)) + a2), .int a3]) (rest := []) ⟨hx, hb, hml, hown, hw⟩ (mM_overwrite l dC dI cA a0 aR aM aW aP aS aC aO nW nE s.heap.size R f us P S sc li rc rn ro rd st ((r3 + (4 : Int32)) + a2) a3 _ h) (cwV 2 hw g_M_49 rfl rfl rfl (by decide +kernel) ⟨Nat.le_of_ble_eq_true rfl, Nat.le_of_ble_eq_true rfl⟩) (rw_PV (ci := 1) (q0 := 2) hK hP hD rfl rfl) rfl rfl hl.1 rfl (lv_room (Nat.le_of_ble_eq_true rfl)) d_M_setSlot_11 ⟨Nat.le_of_ble_eq_true rfl, Nat.le_of_ble_eq_true rfl⟩) hS (fun q _ h => hFc q h) hFc (fun u t H locs ht hvm h hB hz1 hk1 hS => ?_)
  obtain ⟨f_11, st_11⟩ := u
  obtain ⟨hP, hK1, hD1⟩ := hB
  rw [ht] at hP
  have hD := hD1.weaken (fun _ _ _ q => hFc _ q)
  clear hFc hD1 hK1
  try dsimp only at h
  have hP : va_P (dC, dI) vwCl (TSw cA a0 aR aM aW aP aS aC aO nW nE R f_11 us P S sc li rc rn ro rd st_11) H := hP
  have hD : va_D A (TSw cA a0 aR aM aW aP aS aC aO nW nE R f_11 us P S sc li rc rn ro rd st_11) := hD
  exact W.vret hx hb hr9 (fun t ht hW => ⟨⟨(f_11, st_11), rfl, h, by rw [ht]; exact hP, va_K.moved hW.alike hK, hD⟩, hS.F ht⟩) hS.2.2 d_M_setSlot_14
def wqM_setOneByte (nW : Nat) (nE : Nat) (f : Nat → Int32) (P : Nat → Int32) (a1 : Int32) (a2 : Int32) (a3 : Int32) (post : (Nat → Int32) → Prop) : Prop :=
  wqM_place nW nE P a1 (fun r2 => vp_in ((r2 + (4 : Int32)) + (a2 >>> ((2 : Int32) &&& 31))) nW ∧ (wqM_shiftOf a2 (fun r24 => wqM_shiftOf a2 (fun r43 => vp_in ((r2 + (4 : Int32)) + (a2 >>> ((2 : Int32) &&& 31))) nW ∧ (post (upd f ((r2 + (4 : Int32)) + (a2 >>> ((2 : Int32) &&& 31))).toNatClampNeg (((f ((r2 + (4 : Int32)) + (a2 >>> ((2 : Int32) &&& 31))).toNatClampNeg) &&& (((255 : Int32) <<< (r24 &&& 31)) ^^^ (-1 : Int32))) ||| (a3 <<< (r43 &&& 31)))))))))
set_option maxHeartbeats 4000000 in
set_option maxRecDepth 100000 in
theorem mM_setOneByte (l : Launch) (dC : Nat → ClassId) (dI : Nat → Nat → Nat) (cA : ClassId) (a0 : Nat) (aR : Nat) (aM : Nat) (aW : Nat) (aP : Nat) (aS : Nat) (aC : Nat) (aO : Nat) (nW : Nat) (nE : Nat) (sz : Nat) (R : Nat → Int32) (f : Nat → Int32) (us : Int32) (P : Nat → Int32) (S : Nat → Int32) (sc : Int32) (li : Int32) (rc : Nat → Int32) (rn : Int32) (ro : Nat → Int32) (rd : Int32) (st : Int32) (a1 : Int32) (a2 : Int32) (a3 : Int32) (post : (Nat → Int32) → Prop) (h : wqM_setOneByte nW nE f P a1 a2 a3 post) : Met l y_M_setOneByte ws_M_setOneByte ({ frames := 2, cells := 0, slots := 0, locals := 41 }) (rw_P (dC, dI) vwCl (TSw cA a0 aR aM aW aP aS aC aO nW nE R f us P S sc li rc rn ro rd st) [(cA, .int)] sz [.ref aM, .int a1, .int a2, .int a3]) (va_Qv (fun u : (Nat → Int32) => post u) (rw_B (dC, dI) vwCl [(cA, .int)] (va_A (TSw cA a0 aR aM aW aP aS aC aO nW nE R f us P S sc li rc rn ro rd st) sz) (fun u : (Nat → Int32) => TSw cA a0 aR aM aW aP aS aC aO nW nE R u us P S sc li rc rn ro rd st)) (va_A (TSw cA a0 aR aM aW aP aS aC aO nW nE R f us P S sc li rc rn ro rd st) sz)) 0 0 (va_A (TSw cA a0 aR aM aW aP aS aC aO nW nE R f us P S sc li rc rn ro rd st) sz) := by
  refine Met.ofW (cc := c_M_setOneByte) (maxL := 6) (ret := none) (by decide) rfl ?_
  intro p e s m args below meth c s₁ B hml hv
  obtain ⟨rfl, hsz, hP, hK, hD0⟩ := hv
  have hx := B.exec
  have hb := B.bytes
  have hr9 := B.returns
  have hts := atoms_spec (ws := ws_M_setOneByte) B.pre
  have hw : ∀ w ∈ WB_, w.before _ s = true := fun w h => hts w (List.mem_cons_of_mem _ h)
  have hown : s.vm.findClass R_M = some m.cls := findClass_of_methodNamed B.named
  have hlocks := B.notSynchronized
  subst hsz
  have hD := hD0.self (sz := s.heap.size)
  generalize hAe : va_A (TSw cA a0 aR aM aW aP aS aC aO nW nE R f us P S sc li rc rn ro rd st) s.heap.size = A at hD ⊢
  have hA : ∀ q : Nat, s.heap.size ≤ q → A q := fun q h => by rw [← hAe]; exact Or.inr h
  have hS : va_S A s.heap s.heap [] := va_S.rf
  have hl := lv_entry ([.ref aM, .int a1, .int a2, .int a3]) (n := 6) (Nat.le_of_ble_eq_true rfl)
  rw [lg_entry_eq]
  generalize (lg_sl ([.ref aM, .int a1, .int a2, .int a3]) ++ List.replicate (6 - (lg_sl ([.ref aM, .int a1, .int a2, .int a3])).length) Slot.unset).toArray = ls at hl ⊢
  have hl : lv_has ls 6 [(0, .ref aM), (1, .int a1), (2, .int a2), (3, .int a3)] := hl
  unfold wqM_setOneByte at h
  refine lv_aload_n hx hb d_M_setOneByte_0 rfl (lv_at hl 0 rfl) ?_
  refine lv_iload_n hx hb d_M_setOneByte_1 rfl (lv_at hl 1 rfl) ?_
  refine rq_calli (W.runV (As := [.int a1]) (rest := []) ⟨hx, hb, hml, hown, hw⟩ (mM_place l dC dI cA a0 aR aM aW aP aS aC aO nW nE R f us P S sc li rc rn ro rd st a1 _ h) (cwV 1 hw g_M_46 rfl rfl rfl (by decide +kernel) ⟨Nat.le_of_ble_eq_true rfl, Nat.le_of_ble_eq_true rfl⟩) (ro_PV (ci := 1) (q0 := 2) hK hP rfl rfl) rfl rfl hl.1 rfl (lv_room (Nat.le_of_ble_eq_true rfl)) d_M_setOneByte_2 ⟨Nat.le_of_ble_eq_true rfl, Nat.le_of_ble_eq_true rfl⟩) (fun r2 h => ?_)
  refine lv_iconst (v := (4 : Int32)) hx hb d_M_setOneByte_5 (by decide) ?_
  refine lv_iadd hx hb d_M_setOneByte_6 ?_
  refine lv_iload_n hx hb d_M_setOneByte_7 rfl (lv_at hl 2 rfl) ?_
  refine lv_iconst (v := (2 : Int32)) hx hb d_M_setOneByte_8 (by decide) ?_
  refine lv_ishr hx hb d_M_setOneByte_9 ?_
  refine lv_iadd hx hb d_M_setOneByte_10 ?_
  refine lv_istore (lv' := [(4, .int ((r2 + (4 : Int32)) + (a2 >>> ((2 : Int32) &&& 31)))), (0, .ref aM), (1, .int a1), (2, .int a2), (3, .int a3)]) hx hb d_M_setOneByte_11 hl (by decide) rfl (fun ls hl => ?_)
  refine lv_aload_n hx hb d_M_setOneByte_13 rfl (lv_at hl 1 rfl) ?_
  refine va_get (D := (dC, dI)) (ci := 1) (v := .ref aW) (C := R_M) (T := T_M) (N := 11) hx hb hw in_M hown hK hP 2 rfl rfl 0 (by decide) (hw _ wd_63) (fun _ h9 => h9) rfl d_M_setOneByte_14 ?_
  refine lv_iload hx hb d_M_setOneByte_17 (lv_at hl 0 rfl) ?_
  refine va_iald hx hb hK hP 3 0 rfl rfl h.1 d_M_setOneByte_19 ?_
  have h := h.2
  refine lv_sipush (v := (255 : Int32)) hx hb d_M_setOneByte_20 (by decide) ?_
  refine lv_iload_n hx hb d_M_setOneByte_23 rfl (lv_at hl 3 rfl) ?_
  refine rq_calli (W.runS (As := [.int a2]) (rest := [.int (255 : Int32), .int (f ((r2 + (4 : Int32)) + (a2 >>> ((2 : Int32) &&& 31))).toNatClampNeg)]) ⟨hx, hb, hml, hown, hw⟩ (mM_shiftOf l a2 _ h) (va_cwS 1 hw g_M_53 rfl rfl rfl (by decide +kernel) ⟨Nat.le_of_ble_eq_true rfl, Nat.le_of_ble_eq_true rfl⟩) preEq rfl rfl hl.1 rfl (lv_room (Nat.le_of_ble_eq_true rfl)) d_M_setOneByte_24 ⟨Nat.le_of_ble_eq_true rfl, Nat.le_of_ble_eq_true rfl⟩) (fun r24 h => ?_)
  refine lv_ishl hx hb d_M_setOneByte_27 ?_
  refine lv_iconst (v := (-1 : Int32)) hx hb d_M_setOneByte_28 (by decide) ?_
  refine lv_ixor hx hb d_M_setOneByte_29 ?_
  refine lv_iand hx hb d_M_setOneByte_30 ?_
  refine lv_istore (lv' := [(5, .int ((f ((r2 + (4 : Int32)) + (a2 >>> ((2 : Int32) &&& 31))).toNatClampNeg) &&& (((255 : Int32) <<< (r24 &&& 31)) ^^^ (-1 : Int32)))), (4, .int ((r2 + (4 : Int32)) + (a2 >>> ((2 : Int32) &&& 31)))), (0, .ref aM), (1, .int a1), (2, .int a2), (3, .int a3)]) hx hb d_M_setOneByte_31 hl (by decide) rfl (fun ls hl => ?_)
  refine lv_aload_n hx hb d_M_setOneByte_33 rfl (lv_at hl 2 rfl) ?_
  refine va_get (D := (dC, dI)) (ci := 1) (v := .ref aW) (C := R_M) (T := T_M) (N := 11) hx hb hw in_M hown hK hP 2 rfl rfl 0 (by decide) (hw _ wd_63) (fun _ h9 => h9) rfl d_M_setOneByte_34 ?_
  refine lv_iload hx hb d_M_setOneByte_37 (lv_at hl 1 rfl) ?_
  refine lv_iload hx hb d_M_setOneByte_39 (lv_at hl 0 rfl) ?_
  refine lv_iload_n hx hb d_M_setOneByte_41 rfl (lv_at hl 5 rfl) ?_
  refine lv_iload_n hx hb d_M_setOneByte_42 rfl (lv_at hl 4 rfl) ?_
  refine rq_calli (W.runS (As := [.int a2]) (rest := [.int a3, .int ((f ((r2 + (4 : Int32)) + (a2 >>> ((2 : Int32) &&& 31))).toNatClampNeg) &&& (((255 : Int32) <<< (r24 &&& 31)) ^^^ (-1 : Int32))), .int ((r2 + (4 : Int32)) + (a2 >>> ((2 : Int32) &&& 31))), .ref aW]) ⟨hx, hb, hml, hown, hw⟩ (mM_shiftOf l a2 _ h) (va_cwS 1 hw g_M_53 rfl rfl rfl (by decide +kernel) ⟨Nat.le_of_ble_eq_true rfl, Nat.le_of_ble_eq_true rfl⟩) preEq rfl rfl hl.1 rfl (lv_room (Nat.le_of_ble_eq_true rfl)) d_M_setOneByte_43 ⟨Nat.le_of_ble_eq_true rfl, Nat.le_of_ble_eq_true rfl⟩) (fun r43 h => ?_)
  refine lv_ishl hx hb d_M_setOneByte_46 ?_
  refine lv_ior hx hb d_M_setOneByte_47 ?_
  refine va_iast hx hb hK hP hD hS 3 0 rfl rfl h.1 d_M_setOneByte_48 (fun H locs hP hD hS => ?_)
  have hP : va_P (dC, dI) vwCl (TSw cA a0 aR aM aW aP aS aC aO nW nE R (upd f ((r2 + (4 : Int32)) + (a2 >>> ((2 : Int32) &&& 31))).toNatClampNeg (((f ((r2 + (4 : Int32)) + (a2 >>> ((2 : Int32) &&& 31))).toNatClampNeg) &&& (((255 : Int32) <<< (r24 &&& 31)) ^^^ (-1 : Int32))) ||| (a3 <<< (r43 &&& 31)))) us P S sc li rc rn ro rd st) H := hP
  have hD : va_D A (TSw cA a0 aR aM aW aP aS aC aO nW nE R (upd f ((r2 + (4 : Int32)) + (a2 >>> ((2 : Int32) &&& 31))).toNatClampNeg (((f ((r2 + (4 : Int32)) + (a2 >>> ((2 : Int32) &&& 31))).toNatClampNeg) &&& (((255 : Int32) <<< (r24 &&& 31)) ^^^ (-1 : Int32))) ||| (a3 <<< (r43 &&& 31)))) us P S sc li rc rn ro rd st) := hD
  have h := h.2
  exact W.vret hx hb hr9 (fun t ht hW => ⟨⟨(upd f ((r2 + (4 : Int32)) + (a2 >>> ((2 : Int32) &&& 31))).toNatClampNeg (((f ((r2 + (4 : Int32)) + (a2 >>> ((2 : Int32) &&& 31))).toNatClampNeg) &&& (((255 : Int32) <<< (r24 &&& 31)) ^^^ (-1 : Int32))) ||| (a3 <<< (r43 &&& 31)))), rfl, h, by rw [ht]; exact hP, va_K.moved hW.alike hK, hD⟩, hS.F ht⟩) hS.2.2 d_M_setOneByte_49
def wqM_seat (nW : Nat) (nE : Nat) (f : Nat → Int32) (P : Nat → Int32) (a1 : Int32) (a2 : Int32) (post : (Nat → Int32) → (Nat → Int32) → Prop) : Prop :=
  vp_in a1 nE ∧ (vp_in (a2 + (0 : Int32)) nW ∧ (post (upd f (a2 + (0 : Int32)).toNatClampNeg a1) (upd P a1.toNatClampNeg a2)))
set_option maxHeartbeats 4000000 in
set_option maxRecDepth 100000 in
theorem mM_seat (l : Launch) (dC : Nat → ClassId) (dI : Nat → Nat → Nat) (cA : ClassId) (a0 : Nat) (aR : Nat) (aM : Nat) (aW : Nat) (aP : Nat) (aS : Nat) (aC : Nat) (aO : Nat) (nW : Nat) (nE : Nat) (sz : Nat) (R : Nat → Int32) (f : Nat → Int32) (us : Int32) (P : Nat → Int32) (S : Nat → Int32) (sc : Int32) (li : Int32) (rc : Nat → Int32) (rn : Int32) (ro : Nat → Int32) (rd : Int32) (st : Int32) (a1 : Int32) (a2 : Int32) (post : (Nat → Int32) → (Nat → Int32) → Prop) (h : wqM_seat nW nE f P a1 a2 post) : Met l y_M_seat ws_M_seat ({ frames := 0, cells := 0, slots := 0, locals := 0 }) (rw_P (dC, dI) vwCl (TSw cA a0 aR aM aW aP aS aC aO nW nE R f us P S sc li rc rn ro rd st) [(cA, .int)] sz [.ref aM, .int a1, .int a2]) (va_Qv (fun u : (Nat → Int32) × (Nat → Int32) => post u.1 u.2) (rw_B (dC, dI) vwCl [(cA, .int)] (va_A (TSw cA a0 aR aM aW aP aS aC aO nW nE R f us P S sc li rc rn ro rd st) sz) (fun u : (Nat → Int32) × (Nat → Int32) => TSw cA a0 aR aM aW aP aS aC aO nW nE R u.1 us u.2 S sc li rc rn ro rd st)) (va_A (TSw cA a0 aR aM aW aP aS aC aO nW nE R f us P S sc li rc rn ro rd st) sz)) 0 0 (va_A (TSw cA a0 aR aM aW aP aS aC aO nW nE R f us P S sc li rc rn ro rd st) sz) := by
  refine Met.ofW (cc := c_M_seat) (maxL := 3) (ret := none) (by decide) rfl ?_
  intro p e s m args below meth c s₁ B hml hv
  obtain ⟨rfl, hsz, hP, hK, hD0⟩ := hv
  have hx := B.exec
  have hb := B.bytes
  have hr9 := B.returns
  have hts := atoms_spec (ws := ws_M_seat) B.pre
  have hw : ∀ w ∈ WB_, w.before _ s = true := fun w h => hts w (List.mem_cons_of_mem _ h)
  have hown : s.vm.findClass R_M = some m.cls := findClass_of_methodNamed B.named
  have hlocks := B.notSynchronized
  subst hsz
  have hD := hD0.self (sz := s.heap.size)
  generalize hAe : va_A (TSw cA a0 aR aM aW aP aS aC aO nW nE R f us P S sc li rc rn ro rd st) s.heap.size = A at hD ⊢
  have hA : ∀ q : Nat, s.heap.size ≤ q → A q := fun q h => by rw [← hAe]; exact Or.inr h
  have hS : va_S A s.heap s.heap [] := va_S.rf
  have hl := lv_entry ([.ref aM, .int a1, .int a2]) (n := 3) (Nat.le_of_ble_eq_true rfl)
  rw [lg_entry_eq]
  generalize (lg_sl ([.ref aM, .int a1, .int a2]) ++ List.replicate (3 - (lg_sl ([.ref aM, .int a1, .int a2])).length) Slot.unset).toArray = ls at hl ⊢
  have hl : lv_has ls 3 [(0, .ref aM), (1, .int a1), (2, .int a2)] := hl
  unfold wqM_seat at h
  refine lv_aload_n hx hb d_M_seat_0 rfl (lv_at hl 0 rfl) ?_
  refine va_get (D := (dC, dI)) (ci := 1) (v := .ref aP) (C := R_M) (T := T_M) (N := 11) hx hb hw in_M hown hK hP 2 rfl rfl 2 (by decide) (hw _ wd_65) (fun _ h9 => h9) rfl d_M_seat_1 ?_
  refine lv_iload_n hx hb d_M_seat_4 rfl (lv_at hl 1 rfl) ?_
  refine lv_iload_n hx hb d_M_seat_5 rfl (lv_at hl 2 rfl) ?_
  refine va_iast hx hb hK hP hD hS 4 0 rfl rfl h.1 d_M_seat_6 (fun H locs hP hD hS => ?_)
  have hP : va_P (dC, dI) vwCl (TSw cA a0 aR aM aW aP aS aC aO nW nE R f us (upd P a1.toNatClampNeg a2) S sc li rc rn ro rd st) H := hP
  have hD : va_D A (TSw cA a0 aR aM aW aP aS aC aO nW nE R f us (upd P a1.toNatClampNeg a2) S sc li rc rn ro rd st) := hD
  have h := h.2
  refine lv_aload_n hx hb d_M_seat_7 rfl (lv_at hl 0 rfl) ?_
  refine va_get (D := (dC, dI)) (ci := 1) (v := .ref aW) (C := R_M) (T := T_M) (N := 11) hx hb hw in_M hown hK hP 2 rfl rfl 0 (by decide) (hw _ wd_63) (fun _ h9 => h9) rfl d_M_seat_8 ?_
  refine lv_iload_n hx hb d_M_seat_11 rfl (lv_at hl 2 rfl) ?_
  refine lv_iconst (v := (0 : Int32)) hx hb d_M_seat_12 (by decide) ?_
  refine lv_iadd hx hb d_M_seat_13 ?_
  refine lv_iload_n hx hb d_M_seat_14 rfl (lv_at hl 1 rfl) ?_
  refine va_iast hx hb hK hP hD hS 3 0 rfl rfl h.1 d_M_seat_15 (fun H locs hP hD hS => ?_)
  have hP : va_P (dC, dI) vwCl (TSw cA a0 aR aM aW aP aS aC aO nW nE R (upd f (a2 + (0 : Int32)).toNatClampNeg a1) us (upd P a1.toNatClampNeg a2) S sc li rc rn ro rd st) H := hP
  have hD : va_D A (TSw cA a0 aR aM aW aP aS aC aO nW nE R (upd f (a2 + (0 : Int32)).toNatClampNeg a1) us (upd P a1.toNatClampNeg a2) S sc li rc rn ro rd st) := hD
  have h := h.2
  exact W.vret hx hb hr9 (fun t ht hW => ⟨⟨(upd f (a2 + (0 : Int32)).toNatClampNeg a1, upd P a1.toNatClampNeg a2), rfl, h, by rw [ht]; exact hP, va_K.moved hW.alike hK, hD⟩, hS.F ht⟩) hS.2.2 d_M_seat_16
def wqM_swap (nW : Nat) (nE : Nat) (f : Nat → Int32) (P : Nat → Int32) (a1 : Int32) (a2 : Int32) (post : (Nat → Int32) → (Nat → Int32) → Prop) : Prop :=
  wqM_place nW nE P a1 (fun r2 => wqM_place nW nE P a2 (fun r8 => wqV_toEntry a1 (fun r15 => wqM_seat nW nE f P r15 r8 (fun f_20 P_20 => wqV_toEntry a2 (fun r25 => wqM_seat nW nE f_20 P_20 r25 r2 (fun f_29 P_29 => post f_29 P_29))))))
set_option maxHeartbeats 4000000 in
set_option maxRecDepth 100000 in
theorem mM_swap (l : Launch) (dC : Nat → ClassId) (dI : Nat → Nat → Nat) (cA : ClassId) (a0 : Nat) (aR : Nat) (aM : Nat) (aW : Nat) (aP : Nat) (aS : Nat) (aC : Nat) (aO : Nat) (nW : Nat) (nE : Nat) (sz : Nat) (R : Nat → Int32) (f : Nat → Int32) (us : Int32) (P : Nat → Int32) (S : Nat → Int32) (sc : Int32) (li : Int32) (rc : Nat → Int32) (rn : Int32) (ro : Nat → Int32) (rd : Int32) (st : Int32) (a1 : Int32) (a2 : Int32) (post : (Nat → Int32) → (Nat → Int32) → Prop) (h : wqM_swap nW nE f P a1 a2 post) : Met l y_M_swap ws_M_swap ({ frames := 2, cells := 0, slots := 0, locals := 41 }) (rw_P (dC, dI) vwCl (TSw cA a0 aR aM aW aP aS aC aO nW nE R f us P S sc li rc rn ro rd st) [(cA, .int)] sz [.ref aM, .int a1, .int a2]) (va_Qv (fun u : (Nat → Int32) × (Nat → Int32) => post u.1 u.2) (rw_B (dC, dI) vwCl [(cA, .int)] (va_A (TSw cA a0 aR aM aW aP aS aC aO nW nE R f us P S sc li rc rn ro rd st) sz) (fun u : (Nat → Int32) × (Nat → Int32) => TSw cA a0 aR aM aW aP aS aC aO nW nE R u.1 us u.2 S sc li rc rn ro rd st)) (va_A (TSw cA a0 aR aM aW aP aS aC aO nW nE R f us P S sc li rc rn ro rd st) sz)) 0 0 (va_A (TSw cA a0 aR aM aW aP aS aC aO nW nE R f us P S sc li rc rn ro rd st) sz) := by
  refine Met.ofW (cc := c_M_swap) (maxL := 5) (ret := none) (by decide) rfl ?_
  intro p e s m args below meth c s₁ B hml hv
  obtain ⟨rfl, hsz, hP, hK, hD0⟩ := hv
  have hx := B.exec
  have hb := B.bytes
  have hr9 := B.returns
  have hts := atoms_spec (ws := ws_M_swap) B.pre
  have hw : ∀ w ∈ WB_, w.before _ s = true := fun w h => hts w (List.mem_cons_of_mem _ h)
  have hown : s.vm.findClass R_M = some m.cls := findClass_of_methodNamed B.named
  have hlocks := B.notSynchronized
  subst hsz
  have hD := hD0.self (sz := s.heap.size)
  generalize hAe : va_A (TSw cA a0 aR aM aW aP aS aC aO nW nE R f us P S sc li rc rn ro rd st) s.heap.size = A at hD ⊢
  have hA : ∀ q : Nat, s.heap.size ≤ q → A q := fun q h => by rw [← hAe]; exact Or.inr h
  have hS : va_S A s.heap s.heap [] := va_S.rf
  have hl := lv_entry ([.ref aM, .int a1, .int a2]) (n := 5) (Nat.le_of_ble_eq_true rfl)
  rw [lg_entry_eq]
  generalize (lg_sl ([.ref aM, .int a1, .int a2]) ++ List.replicate (5 - (lg_sl ([.ref aM, .int a1, .int a2])).length) Slot.unset).toArray = ls at hl ⊢
  have hl : lv_has ls 5 [(0, .ref aM), (1, .int a1), (2, .int a2)] := hl
  unfold wqM_swap at h
  refine lv_aload_n hx hb d_M_swap_0 rfl (lv_at hl 0 rfl) ?_
  refine lv_iload_n hx hb d_M_swap_1 rfl (lv_at hl 1 rfl) ?_
  refine rq_calli (W.runV (As := [.int a1]) (rest := []) ⟨hx, hb, hml, hown, hw⟩ (mM_place l dC dI cA a0 aR aM aW aP aS aC aO nW nE R f us P S sc li rc rn ro rd st a1 _ h) (cwV 1 hw g_M_46 rfl rfl rfl (by decide +kernel) ⟨Nat.le_of_ble_eq_true rfl, Nat.le_of_ble_eq_true rfl⟩) (ro_PV (ci := 1) (q0 := 2) hK hP rfl rfl) rfl rfl hl.1 rfl (lv_room (Nat.le_of_ble_eq_true rfl)) d_M_swap_2 ⟨Nat.le_of_ble_eq_true rfl, Nat.le_of_ble_eq_true rfl⟩) (fun r2 h => ?_)
  refine lv_istore_n (lv' := [(3, .int r2), (0, .ref aM), (1, .int a1), (2, .int a2)]) hx hb d_M_swap_5 rfl hl (by decide) rfl (fun ls hl => ?_)
  refine lv_aload_n hx hb d_M_swap_6 rfl (lv_at hl 1 rfl) ?_
  refine lv_iload_n hx hb d_M_swap_7 rfl (lv_at hl 3 rfl) ?_
  refine rq_calli (W.runV (As := [.int a2]) (rest := []) ⟨hx, hb, hml, hown, hw⟩ (mM_place l dC dI cA a0 aR aM aW aP aS aC aO nW nE R f us P S sc li rc rn ro rd st a2 _ h) (cwV 1 hw g_M_46 rfl rfl rfl (by decide +kernel) ⟨Nat.le_of_ble_eq_true rfl, Nat.le_of_ble_eq_true rfl⟩) (ro_PV (ci := 1) (q0 := 2) hK hP rfl rfl) rfl rfl hl.1 rfl (lv_room (Nat.le_of_ble_eq_true rfl)) d_M_swap_8 ⟨Nat.le_of_ble_eq_true rfl, Nat.le_of_ble_eq_true rfl⟩) (fun r8 h => ?_)
  refine lv_istore (lv' := [(4, .int r8), (3, .int r2), (0, .ref aM), (1, .int a1), (2, .int a2)]) hx hb d_M_swap_11 hl (by decide) rfl (fun ls hl => ?_)
  refine lv_aload_n hx hb d_M_swap_13 rfl (lv_at hl 2 rfl) ?_
  refine lv_iload_n hx hb d_M_swap_14 rfl (lv_at hl 3 rfl) ?_
  refine rq_calli (W.runS (As := [.int a1]) (rest := [.ref aM]) ⟨hx, hb, hml, hown, hw⟩ (mV_toEntry l a1 _ h) (va_cwS 1 hw g_M_37 rfl rfl rfl (by decide +kernel) ⟨Nat.le_of_ble_eq_true rfl, Nat.le_of_ble_eq_true rfl⟩) preEq rfl rfl hl.1 rfl (lv_room (Nat.le_of_ble_eq_true rfl)) d_M_swap_15 ⟨Nat.le_of_ble_eq_true rfl, Nat.le_of_ble_eq_true rfl⟩) (fun r15 h => ?_)
  refine lv_iload hx hb d_M_swap_18 (lv_at hl 0 rfl) ?_
  have hFc := va_free (wc := TSw cA a0 aR aM aW aP aS aC aO nW nE R f us P S sc li rc rn ro rd st) hD hS hA [0, 1, 2, 3, 4, 5, 6, 7] rfl
  refine va_callv (va_runV (As := [.int r15, .int r8]) (rest := []) ⟨hx, hb, hml, hown, hw⟩ (mM_seat l dC dI cA a0 aR aM aW aP aS aC aO nW nE s.heap.size R f us P S sc li rc rn ro rd st r15 r8 _ h) (cwV 2 hw g_M_96 rfl rfl rfl (by decide +kernel) ⟨Nat.le_of_ble_eq_true rfl, Nat.le_of_ble_eq_true rfl⟩) (rw_PV (ci := 1) (q0 := 2) hK hP hD rfl rfl) rfl rfl hl.1 rfl (lv_room (Nat.le_of_ble_eq_true rfl)) d_M_swap_20 ⟨Nat.le_of_ble_eq_true rfl, Nat.le_of_ble_eq_true rfl⟩) hS (fun q _ h => hFc q h) hFc (fun u t H locs ht hvm h hB hz1 hk1 hS => ?_)
  obtain ⟨f_20, P_20⟩ := u
  obtain ⟨hP, hK1, hD1⟩ := hB
  rw [ht] at hP
  have hD := hD1.weaken (fun _ _ _ q => hFc _ q)
  clear hFc hD1 hK1
  try dsimp only at h
  have hP : va_P (dC, dI) vwCl (TSw cA a0 aR aM aW aP aS aC aO nW nE R f_20 us P_20 S sc li rc rn ro rd st) H := hP
  have hD : va_D A (TSw cA a0 aR aM aW aP aS aC aO nW nE R f_20 us P_20 S sc li rc rn ro rd st) := hD
  refine lv_aload_n hx hb d_M_swap_23 rfl (lv_at hl 2 rfl) ?_
  refine lv_iload_n hx hb d_M_swap_24 rfl (lv_at hl 4 rfl) ?_
  refine rq_calli (W.runS (As := [.int a2]) (rest := [.ref aM]) ⟨hx, hb, hml, hown, hw⟩ (mV_toEntry l a2 _ h) (va_cwS 1 hw g_M_37 rfl rfl rfl (by decide +kernel) ⟨Nat.le_of_ble_eq_true rfl, Nat.le_of_ble_eq_true rfl⟩) preEq rfl rfl hl.1 rfl (lv_room (Nat.le_of_ble_eq_true rfl)) d_M_swap_25 ⟨Nat.le_of_ble_eq_true rfl, Nat.le_of_ble_eq_true rfl⟩) (fun r25 h => ?_)
  refine lv_iload_n hx hb d_M_swap_28 rfl (lv_at hl 1 rfl) ?_
  have hFc := va_free (wc := TSw cA a0 aR aM aW aP aS aC aO nW nE R f_20 us P_20 S sc li rc rn ro rd st) hD hS hA [0, 1, 2, 3, 4, 5, 6, 7] rfl
  refine va_callv (va_runV (As := [.int r25, .int r2]) (rest := []) ⟨hx, hb, hml, hown, hw⟩ (mM_seat l dC dI cA a0 aR aM aW aP aS aC aO nW nE H.size R f_20 us P_20 S sc li rc rn ro rd st r25 r2 _ h) (cwV 2 hw g_M_96 rfl rfl rfl (by decide +kernel) ⟨Nat.le_of_ble_eq_true rfl, Nat.le_of_ble_eq_true rfl⟩) (rw_PV (ci := 1) (q0 := 2) hK hP hD rfl rfl) rfl rfl hl.1 rfl (lv_room (Nat.le_of_ble_eq_true rfl)) d_M_swap_29 ⟨Nat.le_of_ble_eq_true rfl, Nat.le_of_ble_eq_true rfl⟩) hS (fun q _ h => hFc q h) hFc (fun u t H locs ht hvm h hB hz1 hk1 hS => ?_)
  obtain ⟨f_29, P_29⟩ := u
  obtain ⟨hP, hK1, hD1⟩ := hB
  rw [ht] at hP
  have hD := hD1.weaken (fun _ _ _ q => hFc _ q)
  clear hFc hD1 hK1
  try dsimp only at h
  have hP : va_P (dC, dI) vwCl (TSw cA a0 aR aM aW aP aS aC aO nW nE R f_29 us P_29 S sc li rc rn ro rd st) H := hP
  have hD : va_D A (TSw cA a0 aR aM aW aP aS aC aO nW nE R f_29 us P_29 S sc li rc rn ro rd st) := hD
  exact W.vret hx hb hr9 (fun t ht hW => ⟨⟨(f_29, P_29), rfl, h, by rw [ht]; exact hP, va_K.moved hW.alike hK, hD⟩, hS.F ht⟩) hS.2.2 d_M_swap_32
def wqM_startRound (nW : Nat) (nE : Nat) (rn : Int32) (rd : Int32) (post : Int32 → Int32 → Prop) : Prop :=
  post (0 : Int32) (rd + (1 : Int32))
set_option maxHeartbeats 4000000 in
set_option maxRecDepth 100000 in
theorem mM_startRound (l : Launch) (dC : Nat → ClassId) (dI : Nat → Nat → Nat) (cA : ClassId) (a0 : Nat) (aR : Nat) (aM : Nat) (aW : Nat) (aP : Nat) (aS : Nat) (aC : Nat) (aO : Nat) (nW : Nat) (nE : Nat) (sz : Nat) (R : Nat → Int32) (f : Nat → Int32) (us : Int32) (P : Nat → Int32) (S : Nat → Int32) (sc : Int32) (li : Int32) (rc : Nat → Int32) (rn : Int32) (ro : Nat → Int32) (rd : Int32) (st : Int32) (post : Int32 → Int32 → Prop) (h : wqM_startRound nW nE rn rd post) : Met l y_M_startRound ws_M_startRound ({ frames := 0, cells := 0, slots := 0, locals := 0 }) (rw_P (dC, dI) vwCl (TSw cA a0 aR aM aW aP aS aC aO nW nE R f us P S sc li rc rn ro rd st) [(cA, .int)] sz [.ref aM]) (va_Qv (fun u : Int32 × Int32 => post u.1 u.2) (rw_B (dC, dI) vwCl [(cA, .int)] (va_A (TSw cA a0 aR aM aW aP aS aC aO nW nE R f us P S sc li rc rn ro rd st) sz) (fun u : Int32 × Int32 => TSw cA a0 aR aM aW aP aS aC aO nW nE R f us P S sc li rc u.1 ro u.2 st)) (va_A (TSw cA a0 aR aM aW aP aS aC aO nW nE R f us P S sc li rc rn ro rd st) sz)) 0 0 (va_A (TSw cA a0 aR aM aW aP aS aC aO nW nE R f us P S sc li rc rn ro rd st) sz) := by
  refine Met.ofW (cc := c_M_startRound) (maxL := 1) (ret := none) (by decide) rfl ?_
  intro p e s m args below meth c s₁ B hml hv
  obtain ⟨rfl, hsz, hP, hK, hD0⟩ := hv
  have hx := B.exec
  have hb := B.bytes
  have hr9 := B.returns
  have hts := atoms_spec (ws := ws_M_startRound) B.pre
  have hw : ∀ w ∈ WB_, w.before _ s = true := fun w h => hts w (List.mem_cons_of_mem _ h)
  have hown : s.vm.findClass R_M = some m.cls := findClass_of_methodNamed B.named
  have hlocks := B.notSynchronized
  subst hsz
  have hD := hD0.self (sz := s.heap.size)
  generalize hAe : va_A (TSw cA a0 aR aM aW aP aS aC aO nW nE R f us P S sc li rc rn ro rd st) s.heap.size = A at hD ⊢
  have hA : ∀ q : Nat, s.heap.size ≤ q → A q := fun q h => by rw [← hAe]; exact Or.inr h
  have hS : va_S A s.heap s.heap [] := va_S.rf
  have hl := lv_entry ([.ref aM]) (n := 1) (Nat.le_of_ble_eq_true rfl)
  rw [lg_entry_eq]
  generalize (lg_sl ([.ref aM]) ++ List.replicate (1 - (lg_sl ([.ref aM])).length) Slot.unset).toArray = ls at hl ⊢
  have hl : lv_has ls 1 [(0, .ref aM)] := hl
  unfold wqM_startRound at h
  refine lv_aload_n hx hb d_M_startRound_0 rfl (lv_at hl 0 rfl) ?_
  refine lv_dup hx hb d_M_startRound_1 rfl ?_
  refine va_get (D := (dC, dI)) (ci := 1) (v := .int rd) (C := R_M) (T := T_M) (N := 11) hx hb hw in_M hown hK hP 2 rfl rfl 9 (by decide) (hw _ wd_72) (fun _ h9 => h9) rfl d_M_startRound_2 ?_
  refine lv_iconst (v := (1 : Int32)) hx hb d_M_startRound_5 (by decide) ?_
  refine lv_iadd hx hb d_M_startRound_6 ?_
  refine va_put (D := (dC, dI)) (ci := 1) (v := .int (rd + (1 : Int32))) (ty := .int) (C := R_M) (T := T_M) (N := 11) hx hb hw in_M ty_M ty_M_ok nm_M hown hK hP hD hS 2 rfl rfl 9 (by decide) (hw _ wd_72) (fun _ h9 => h9) rfl (by decide +kernel) rfl rfl (Nat.le_of_ble_eq_true rfl) d_M_startRound_7 (fun H locs hP hD hS => ?_)
  have hP : va_P (dC, dI) vwCl (TSw cA a0 aR aM aW aP aS aC aO nW nE R f us P S sc li rc rn ro (rd + (1 : Int32)) st) H := hP
  have hD : va_D A (TSw cA a0 aR aM aW aP aS aC aO nW nE R f us P S sc li rc rn ro (rd + (1 : Int32)) st) := hD
  refine lv_aload_n hx hb d_M_startRound_10 rfl (lv_at hl 0 rfl) ?_
  refine lv_iconst (v := (0 : Int32)) hx hb d_M_startRound_11 (by decide) ?_
  refine va_put (D := (dC, dI)) (ci := 1) (v := .int (0 : Int32)) (ty := .int) (C := R_M) (T := T_M) (N := 11) hx hb hw in_M ty_M ty_M_ok nm_M hown hK hP hD hS 2 rfl rfl 7 (by decide) (hw _ wd_70) (fun _ h9 => h9) rfl (by decide +kernel) rfl rfl (Nat.le_of_ble_eq_true rfl) d_M_startRound_12 (fun H locs hP hD hS => ?_)
  have hP : va_P (dC, dI) vwCl (TSw cA a0 aR aM aW aP aS aC aO nW nE R f us P S sc li rc (0 : Int32) ro (rd + (1 : Int32)) st) H := hP
  have hD : va_D A (TSw cA a0 aR aM aW aP aS aC aO nW nE R f us P S sc li rc (0 : Int32) ro (rd + (1 : Int32)) st) := hD
  exact W.vret hx hb hr9 (fun t ht hW => ⟨⟨((0 : Int32), rd + (1 : Int32)), rfl, h, by rw [ht]; exact hP, va_K.moved hW.alike hK, hD⟩, hS.F ht⟩) hS.2.2 d_M_startRound_15
def wqM_reach (nW : Nat) (nE : Nat) (rc : Nat → Int32) (rn : Int32) (ro : Nat → Int32) (rd : Int32) (a1 : Int32) (post : (Nat → Int32) → Int32 → (Nat → Int32) → Prop) : Prop :=
  wqV_isObject a1 (fun r1 => (r1 = 0 → (post rc rn ro)) ∧ (¬ (r1 = 0) → (wqV_toEntry a1 (fun r9 => wqM_isReached nW nE ro rd r9 (fun r15 => (r15 = 0 → (vp_in r9 nE ∧ (vp_in rn nE ∧ (post (upd rc rn.toNatClampNeg r9) (rn + (1 : Int32)) (upd ro r9.toNatClampNeg rd))))) ∧ (¬ (r15 = 0) → (post rc rn ro)))))))
set_option maxHeartbeats 4000000 in
set_option maxRecDepth 100000 in
theorem mM_reach (l : Launch) (dC : Nat → ClassId) (dI : Nat → Nat → Nat) (cA : ClassId) (a0 : Nat) (aR : Nat) (aM : Nat) (aW : Nat) (aP : Nat) (aS : Nat) (aC : Nat) (aO : Nat) (nW : Nat) (nE : Nat) (sz : Nat) (R : Nat → Int32) (f : Nat → Int32) (us : Int32) (P : Nat → Int32) (S : Nat → Int32) (sc : Int32) (li : Int32) (rc : Nat → Int32) (rn : Int32) (ro : Nat → Int32) (rd : Int32) (st : Int32) (a1 : Int32) (post : (Nat → Int32) → Int32 → (Nat → Int32) → Prop) (h : wqM_reach nW nE rc rn ro rd a1 post) : Met l y_M_reach ws_M_reach ({ frames := 2, cells := 0, slots := 0, locals := 40 }) (rw_P (dC, dI) vwCl (TSw cA a0 aR aM aW aP aS aC aO nW nE R f us P S sc li rc rn ro rd st) [(cA, .int)] sz [.ref aM, .int a1]) (va_Qv (fun u : (Nat → Int32) × Int32 × (Nat → Int32) => post u.1 u.2.1 u.2.2) (rw_B (dC, dI) vwCl [(cA, .int)] (va_A (TSw cA a0 aR aM aW aP aS aC aO nW nE R f us P S sc li rc rn ro rd st) sz) (fun u : (Nat → Int32) × Int32 × (Nat → Int32) => TSw cA a0 aR aM aW aP aS aC aO nW nE R f us P S sc li u.1 u.2.1 u.2.2 rd st)) (va_A (TSw cA a0 aR aM aW aP aS aC aO nW nE R f us P S sc li rc rn ro rd st) sz)) 0 0 (va_A (TSw cA a0 aR aM aW aP aS aC aO nW nE R f us P S sc li rc rn ro rd st) sz) := by
  refine Met.ofW (cc := c_M_reach) (maxL := 3) (ret := none) (by decide) rfl ?_
  intro p e s m args below meth c s₁ B hml hv
  obtain ⟨rfl, hsz, hP, hK, hD0⟩ := hv
  have hx := B.exec
  have hb := B.bytes
  have hr9 := B.returns
  have hts := atoms_spec (ws := ws_M_reach) B.pre
  have hw : ∀ w ∈ WB_, w.before _ s = true := fun w h => hts w (List.mem_cons_of_mem _ h)
  have hown : s.vm.findClass R_M = some m.cls := findClass_of_methodNamed B.named
  have hlocks := B.notSynchronized
  subst hsz
  have hD := hD0.self (sz := s.heap.size)
  generalize hAe : va_A (TSw cA a0 aR aM aW aP aS aC aO nW nE R f us P S sc li rc rn ro rd st) s.heap.size = A at hD ⊢
  have hA : ∀ q : Nat, s.heap.size ≤ q → A q := fun q h => by rw [← hAe]; exact Or.inr h
  have hS : va_S A s.heap s.heap [] := va_S.rf
  have hl := lv_entry ([.ref aM, .int a1]) (n := 3) (Nat.le_of_ble_eq_true rfl)
  rw [lg_entry_eq]
  generalize (lg_sl ([.ref aM, .int a1]) ++ List.replicate (3 - (lg_sl ([.ref aM, .int a1])).length) Slot.unset).toArray = ls at hl ⊢
  have hl : lv_has ls 3 [(0, .ref aM), (1, .int a1)] := hl
  unfold wqM_reach at h
  refine lv_iload_n hx hb d_M_reach_0 rfl (lv_at hl 1 rfl) ?_
  refine rq_calli (W.runS (As := [.int a1]) (rest := []) ⟨hx, hb, hml, hown, hw⟩ (mV_isObject l a1 _ h) (va_cwS 1 hw g_M_43 rfl rfl rfl (by decide +kernel) ⟨Nat.le_of_ble_eq_true rfl, Nat.le_of_ble_eq_true rfl⟩) preEq rfl rfl hl.1 rfl (lv_room (Nat.le_of_ble_eq_true rfl)) d_M_reach_1 ⟨Nat.le_of_ble_eq_true rfl, Nat.le_of_ble_eq_true rfl⟩) (fun r1 h => ?_)
  refine lv_if_ne (tgt := 8) hx hb d_M_reach_4 (by decide) (fun c_4 => ?_) (fun c_4 => ?_)
  · have h := h.2 c_4
    refine lv_iload_n hx hb d_M_reach_8 rfl (lv_at hl 1 rfl) ?_
    refine rq_calli (W.runS (As := [.int a1]) (rest := []) ⟨hx, hb, hml, hown, hw⟩ (mV_toEntry l a1 _ h) (va_cwS 1 hw g_M_37 rfl rfl rfl (by decide +kernel) ⟨Nat.le_of_ble_eq_true rfl, Nat.le_of_ble_eq_true rfl⟩) preEq rfl rfl hl.1 rfl (lv_room (Nat.le_of_ble_eq_true rfl)) d_M_reach_9 ⟨Nat.le_of_ble_eq_true rfl, Nat.le_of_ble_eq_true rfl⟩) (fun r9 h => ?_)
    refine lv_istore_n (lv' := [(2, .int r9), (0, .ref aM), (1, .int a1)]) hx hb d_M_reach_12 rfl hl (by decide) rfl (fun ls hl => ?_)
    refine lv_aload_n hx hb d_M_reach_13 rfl (lv_at hl 1 rfl) ?_
    refine lv_iload_n hx hb d_M_reach_14 rfl (lv_at hl 0 rfl) ?_
    refine rq_calli (W.runV (As := [.int r9]) (rest := []) ⟨hx, hb, hml, hown, hw⟩ (mM_isReached l dC dI cA a0 aR aM aW aP aS aC aO nW nE R f us P S sc li rc rn ro rd st r9 _ h) (cwV 1 hw g_M_111 rfl rfl rfl (by decide +kernel) ⟨Nat.le_of_ble_eq_true rfl, Nat.le_of_ble_eq_true rfl⟩) (ro_PV (ci := 1) (q0 := 2) hK hP rfl rfl) rfl rfl hl.1 rfl (lv_room (Nat.le_of_ble_eq_true rfl)) d_M_reach_15 ⟨Nat.le_of_ble_eq_true rfl, Nat.le_of_ble_eq_true rfl⟩) (fun r15 h => ?_)
    refine lv_if_ne (tgt := 51) hx hb d_M_reach_18 (by decide) (fun c_18 => ?_) (fun c_18 => ?_)
    · have h := h.2 c_18
      exact W.vret hx hb hr9 (fun t ht hW => ⟨⟨(rc, rn, ro), rfl, h, by rw [ht]; exact hP, va_K.moved hW.alike hK, hD⟩, hS.F ht⟩) hS.2.2 d_M_reach_51
    · have h := h.1 c_18
      refine lv_aload_n hx hb d_M_reach_21 rfl (lv_at hl 1 rfl) ?_
      refine va_get (D := (dC, dI)) (ci := 1) (v := .ref aO) (C := R_M) (T := T_M) (N := 11) hx hb hw in_M hown hK hP 2 rfl rfl 8 (by decide) (hw _ wd_71) (fun _ h9 => h9) rfl d_M_reach_22 ?_
      refine lv_iload_n hx hb d_M_reach_25 rfl (lv_at hl 0 rfl) ?_
      refine lv_aload_n hx hb d_M_reach_26 rfl (lv_at hl 1 rfl) ?_
      refine va_get (D := (dC, dI)) (ci := 1) (v := .int rd) (C := R_M) (T := T_M) (N := 11) hx hb hw in_M hown hK hP 2 rfl rfl 9 (by decide) (hw _ wd_72) (fun _ h9 => h9) rfl d_M_reach_27 ?_
      refine va_iast hx hb hK hP hD hS 7 0 rfl rfl h.1 d_M_reach_30 (fun H locs hP hD hS => ?_)
      have hP : va_P (dC, dI) vwCl (TSw cA a0 aR aM aW aP aS aC aO nW nE R f us P S sc li rc rn (upd ro r9.toNatClampNeg rd) rd st) H := hP
      have hD : va_D A (TSw cA a0 aR aM aW aP aS aC aO nW nE R f us P S sc li rc rn (upd ro r9.toNatClampNeg rd) rd st) := hD
      have h := h.2
      refine lv_aload_n hx hb d_M_reach_31 rfl (lv_at hl 1 rfl) ?_
      refine va_get (D := (dC, dI)) (ci := 1) (v := .ref aC) (C := R_M) (T := T_M) (N := 11) hx hb hw in_M hown hK hP 2 rfl rfl 6 (by decide) (hw _ wd_69) (fun _ h9 => h9) rfl d_M_reach_32 ?_
      refine lv_aload_n hx hb d_M_reach_35 rfl (lv_at hl 1 rfl) ?_
      refine va_get (D := (dC, dI)) (ci := 1) (v := .int rn) (C := R_M) (T := T_M) (N := 11) hx hb hw in_M hown hK hP 2 rfl rfl 7 (by decide) (hw _ wd_70) (fun _ h9 => h9) rfl d_M_reach_36 ?_
      refine lv_iload_n hx hb d_M_reach_39 rfl (lv_at hl 0 rfl) ?_
      refine va_iast hx hb hK hP hD hS 6 0 rfl rfl h.1 d_M_reach_40 (fun H locs hP hD hS => ?_)
      have hP : va_P (dC, dI) vwCl (TSw cA a0 aR aM aW aP aS aC aO nW nE R f us P S sc li (upd rc rn.toNatClampNeg r9) rn (upd ro r9.toNatClampNeg rd) rd st) H := hP
      have hD : va_D A (TSw cA a0 aR aM aW aP aS aC aO nW nE R f us P S sc li (upd rc rn.toNatClampNeg r9) rn (upd ro r9.toNatClampNeg rd) rd st) := hD
      have h := h.2
      refine lv_aload_n hx hb d_M_reach_41 rfl (lv_at hl 1 rfl) ?_
      refine lv_dup hx hb d_M_reach_42 rfl ?_
      refine va_get (D := (dC, dI)) (ci := 1) (v := .int rn) (C := R_M) (T := T_M) (N := 11) hx hb hw in_M hown hK hP 2 rfl rfl 7 (by decide) (hw _ wd_70) (fun _ h9 => h9) rfl d_M_reach_43 ?_
      refine lv_iconst (v := (1 : Int32)) hx hb d_M_reach_46 (by decide) ?_
      refine lv_iadd hx hb d_M_reach_47 ?_
      refine va_put (D := (dC, dI)) (ci := 1) (v := .int (rn + (1 : Int32))) (ty := .int) (C := R_M) (T := T_M) (N := 11) hx hb hw in_M ty_M ty_M_ok nm_M hown hK hP hD hS 2 rfl rfl 7 (by decide) (hw _ wd_70) (fun _ h9 => h9) rfl (by decide +kernel) rfl rfl (Nat.le_of_ble_eq_true rfl) d_M_reach_48 (fun H locs hP hD hS => ?_)
      have hP : va_P (dC, dI) vwCl (TSw cA a0 aR aM aW aP aS aC aO nW nE R f us P S sc li (upd rc rn.toNatClampNeg r9) (rn + (1 : Int32)) (upd ro r9.toNatClampNeg rd) rd st) H := hP
      have hD : va_D A (TSw cA a0 aR aM aW aP aS aC aO nW nE R f us P S sc li (upd rc rn.toNatClampNeg r9) (rn + (1 : Int32)) (upd ro r9.toNatClampNeg rd) rd st) := hD
      exact W.vret hx hb hr9 (fun t ht hW => ⟨⟨(upd rc rn.toNatClampNeg r9, rn + (1 : Int32), upd ro r9.toNatClampNeg rd), rfl, h, by rw [ht]; exact hP, va_K.moved hW.alike hK, hD⟩, hS.F ht⟩) hS.2.2 d_M_reach_51
  · have h := h.1 c_4
    exact W.vret hx hb hr9 (fun t ht hW => ⟨⟨(rc, rn, ro), rfl, h, by rw [ht]; exact hP, va_K.moved hW.alike hK, hD⟩, hS.F ht⟩) hS.2.2 d_M_reach_7
def wqM_spread_54 (nW : Nat) (nE : Nat) (f : Nat → Int32) (P : Nat → Int32) (rd : Int32) (y1_54 : Int32) (y2_54 : Int32) (y3_54 : Int32) (post : (Nat → Int32) → Int32 → (Nat → Int32) → Prop) (kx : Int32 → (Nat → Int32) → Int32 → (Nat → Int32) → Prop) : Nat → Int32 → (Nat → Int32) → Int32 → (Nat → Int32) → Prop
  | 0, _, _, _, _ => False
  | n + 1, x4_54, rc_54, rn_54, ro_54 =>
    (y3_54 ≤ x4_54 → (kx x4_54 rc_54 rn_54 ro_54)) ∧ (¬ (y3_54 ≤ x4_54) → (vp_in x4_54 nW ∧ (wqM_reach nW nE rc_54 rn_54 ro_54 rd (f x4_54.toNatClampNeg) (fun rc_68 rn_68 ro_68 => wqM_spread_54 nW nE f P rd y1_54 y2_54 y3_54 post kx n (x4_54 + (1 : Int32)) rc_68 rn_68 ro_68))))
def wqM_spread_2 (nW : Nat) (nE : Nat) (f : Nat → Int32) (P : Nat → Int32) (rd : Int32) (post : (Nat → Int32) → Int32 → (Nat → Int32) → Prop) (kx : Int32 → (Nat → Int32) → Int32 → (Nat → Int32) → Prop) : Nat → Int32 → (Nat → Int32) → Int32 → (Nat → Int32) → Prop
  | 0, _, _, _, _ => False
  | n + 1, x1_2, rc_2, rn_2, ro_2 =>
    ((nI nE) ≤ x1_2 → (kx x1_2 rc_2 rn_2 ro_2)) ∧ (¬ ((nI nE) ≤ x1_2) → ((rn_2 ≤ x1_2 → (kx x1_2 rc_2 rn_2 ro_2)) ∧ (¬ (rn_2 ≤ x1_2) → (vp_in x1_2 nE ∧ (vp_in (rc_2 x1_2.toNatClampNeg) nE ∧ (vp_in ((P (rc_2 x1_2.toNatClampNeg).toNatClampNeg) + (2 : Int32)) nW ∧ (wqM_reach nW nE rc_2 rn_2 ro_2 rd (f ((P (rc_2 x1_2.toNatClampNeg).toNatClampNeg) + (2 : Int32)).toNatClampNeg) (fun rc_40 rn_40 ro_40 => wqM_endOfSlots nW nE f (P (rc_2 x1_2.toNatClampNeg).toNatClampNeg) (fun r45 => ∃ k_54, wqM_spread_54 nW nE f P rd x1_2 (P (rc_2 x1_2.toNatClampNeg).toNatClampNeg) r45 post (fun z4_54 rce_54 rne_54 roe_54 => wqM_spread_2 nW nE f P rd post kx n (x1_2 + (1 : Int32)) rce_54 rne_54 roe_54) k_54 ((P (rc_2 x1_2.toNatClampNeg).toNatClampNeg) + (4 : Int32)) rc_40 rn_40 ro_40)))))))))
def wqM_spread (nW : Nat) (nE : Nat) (f : Nat → Int32) (P : Nat → Int32) (rc : Nat → Int32) (rn : Int32) (ro : Nat → Int32) (rd : Int32) (post : (Nat → Int32) → Int32 → (Nat → Int32) → Prop) : Prop :=
  ∃ k_2, wqM_spread_2 nW nE f P rd post (fun z1_2 rce_2 rne_2 roe_2 => post rce_2 rne_2 roe_2) k_2 (0 : Int32) rc rn ro
set_option maxHeartbeats 4000000 in
set_option maxRecDepth 100000 in
theorem mM_spread (l : Launch) (dC : Nat → ClassId) (dI : Nat → Nat → Nat) (cA : ClassId) (a0 : Nat) (aR : Nat) (aM : Nat) (aW : Nat) (aP : Nat) (aS : Nat) (aC : Nat) (aO : Nat) (nW : Nat) (nE : Nat) (sz : Nat) (R : Nat → Int32) (f : Nat → Int32) (us : Int32) (P : Nat → Int32) (S : Nat → Int32) (sc : Int32) (li : Int32) (rc : Nat → Int32) (rn : Int32) (ro : Nat → Int32) (rd : Int32) (st : Int32) (post : (Nat → Int32) → Int32 → (Nat → Int32) → Prop) (h : wqM_spread nW nE f P rc rn ro rd post) : Met l y_M_spread ws_M_spread ({ frames := 3, cells := 0, slots := 0, locals := 63 }) (rw_P (dC, dI) vwCl (TSw cA a0 aR aM aW aP aS aC aO nW nE R f us P S sc li rc rn ro rd st) [(cA, .int)] sz [.ref aM]) (va_Qv (fun u : (Nat → Int32) × Int32 × (Nat → Int32) => post u.1 u.2.1 u.2.2) (rw_B (dC, dI) vwCl [(cA, .int)] (va_A (TSw cA a0 aR aM aW aP aS aC aO nW nE R f us P S sc li rc rn ro rd st) sz) (fun u : (Nat → Int32) × Int32 × (Nat → Int32) => TSw cA a0 aR aM aW aP aS aC aO nW nE R f us P S sc li u.1 u.2.1 u.2.2 rd st)) (va_A (TSw cA a0 aR aM aW aP aS aC aO nW nE R f us P S sc li rc rn ro rd st) sz)) 0 0 (va_A (TSw cA a0 aR aM aW aP aS aC aO nW nE R f us P S sc li rc rn ro rd st) sz) := by
  refine Met.ofW (cc := c_M_spread) (maxL := 5) (ret := none) (by decide) rfl ?_
  intro p e s m args below meth c s₁ B hml hv
  obtain ⟨rfl, hsz, hP, hK, hD0⟩ := hv
  have hx := B.exec
  have hb := B.bytes
  have hr9 := B.returns
  have hts := atoms_spec (ws := ws_M_spread) B.pre
  have hw : ∀ w ∈ WB_, w.before _ s = true := fun w h => hts w (List.mem_cons_of_mem _ h)
  have hown : s.vm.findClass R_M = some m.cls := findClass_of_methodNamed B.named
  have hlocks := B.notSynchronized
  subst hsz
  have hD := hD0.self (sz := s.heap.size)
  generalize hAe : va_A (TSw cA a0 aR aM aW aP aS aC aO nW nE R f us P S sc li rc rn ro rd st) s.heap.size = A at hD ⊢
  have hA : ∀ q : Nat, s.heap.size ≤ q → A q := fun q h => by rw [← hAe]; exact Or.inr h
  have hS : va_S A s.heap s.heap [] := va_S.rf
  have hl := lv_entry ([.ref aM]) (n := 5) (Nat.le_of_ble_eq_true rfl)
  rw [lg_entry_eq]
  generalize (lg_sl ([.ref aM]) ++ List.replicate (5 - (lg_sl ([.ref aM])).length) Slot.unset).toArray = ls at hl ⊢
  have hl : lv_has ls 5 [(0, .ref aM)] := hl
  have lp_54 : ∀ (y1_54 : Int32) (y2_54 : Int32) (y3_54 : Int32) (kx : Int32 → (Nat → Int32) → Int32 → (Nat → Int32) → Prop), (∀ (z4_54 : Int32) (rce_54 : Nat → Int32) (rne_54 : Int32) (roe_54 : Nat → Int32) (H : Heap) (locs : List Loc) (ls : Array Slot), va_P (dC, dI) vwCl (TSw cA a0 aR aM aW aP aS aC aO nW nE R f us P S sc li rce_54 rne_54 roe_54 rd st) H → va_D A (TSw cA a0 aR aM aW aP aS aC aO nW nE R f us P S sc li rce_54 rne_54 roe_54 rd st) → va_S A s.heap H locs → lv_has ls 5 [(0, .ref aM), (1, .int y1_54), (2, .int y2_54), (3, .int y3_54), (4, .int z4_54)] → kx z4_54 rce_54 rne_54 roe_54 → W p l e (headSpec ws_M_spread ({ frames := 3, cells := 0, slots := 0, locals := 63 })).room s m ([.ref aM] : List Value).toArray below meth c H locs 0 0 (MQ below (va_Qv (fun u : (Nat → Int32) × Int32 × (Nat → Int32) => post u.1 u.2.1 u.2.2) (rw_B (dC, dI) vwCl [(cA, .int)] A (fun u : (Nat → Int32) × Int32 × (Nat → Int32) => TSw cA a0 aR aM aW aP aS aC aO nW nE R f us P S sc li u.1 u.2.1 u.2.2 rd st)) A) ([.ref aM] : List Value).toArray s 0 0 A) (F0 m 77 ls [])) → ∀ (n : Nat) (x4_54 : Int32) (rc_54 : Nat → Int32) (rn_54 : Int32) (ro_54 : Nat → Int32) (H : Heap) (locs : List Loc) (ls : Array Slot), va_P (dC, dI) vwCl (TSw cA a0 aR aM aW aP aS aC aO nW nE R f us P S sc li rc_54 rn_54 ro_54 rd st) H → va_D A (TSw cA a0 aR aM aW aP aS aC aO nW nE R f us P S sc li rc_54 rn_54 ro_54 rd st) → va_S A s.heap H locs → lv_has ls 5 [(0, .ref aM), (1, .int y1_54), (2, .int y2_54), (3, .int y3_54), (4, .int x4_54)] → wqM_spread_54 nW nE f P rd y1_54 y2_54 y3_54 post kx n x4_54 rc_54 rn_54 ro_54 → W p l e (headSpec ws_M_spread ({ frames := 3, cells := 0, slots := 0, locals := 63 })).room s m ([.ref aM] : List Value).toArray below meth c H locs 0 0 (MQ below (va_Qv (fun u : (Nat → Int32) × Int32 × (Nat → Int32) => post u.1 u.2.1 u.2.2) (rw_B (dC, dI) vwCl [(cA, .int)] A (fun u : (Nat → Int32) × Int32 × (Nat → Int32) => TSw cA a0 aR aM aW aP aS aC aO nW nE R f us P S sc li u.1 u.2.1 u.2.2 rd st)) A) ([.ref aM] : List Value).toArray s 0 0 A) (F0 m 54 ls []) := by
    intro y1_54 y2_54 y3_54 kx K n
    induction n with
    | zero => intro x4_54 rc_54 rn_54 ro_54 H locs ls hP hD hS hl h; exact h.elim
    | succ n ih =>
      intro x4_54 rc_54 rn_54 ro_54 H locs ls hP hD hS hl h
      refine lv_iload hx hb d_M_spread_54 (lv_at hl 4 rfl) ?_
      refine lv_iload_n hx hb d_M_spread_56 rfl (lv_at hl 3 rfl) ?_
      refine lv_icmp_ge (tgt := 77) hx hb d_M_spread_57 (by decide) (fun c_57 => ?_) (fun c_57 => ?_)
      · have h := h.1 c_57
        exact K x4_54 rc_54 rn_54 ro_54 H locs ls hP hD hS (lv_sub hl [0, 1, 2, 3, 4] rfl) h
      · have h := h.2 c_57
        refine lv_aload_n hx hb d_M_spread_60 rfl (lv_at hl 0 rfl) ?_
        refine lv_aload_n hx hb d_M_spread_61 rfl (lv_at hl 0 rfl) ?_
        refine va_get (D := (dC, dI)) (ci := 1) (v := .ref aW) (C := R_M) (T := T_M) (N := 11) hx hb hw in_M hown hK hP 2 rfl rfl 0 (by decide) (hw _ wd_63) (fun _ h9 => h9) rfl d_M_spread_62 ?_
        refine lv_iload hx hb d_M_spread_65 (lv_at hl 4 rfl) ?_
        refine va_iald hx hb hK hP 3 0 rfl rfl h.1 d_M_spread_67 ?_
        have h := h.2
        have hFc := va_free (wc := TSw cA a0 aR aM aW aP aS aC aO nW nE R f us P S sc li rc_54 rn_54 ro_54 rd st) hD hS hA [0, 1, 2, 3, 4, 5, 6, 7] rfl
        refine va_callv (va_runV (As := [.int (f x4_54.toNatClampNeg)]) (rest := []) ⟨hx, hb, hml, hown, hw⟩ (mM_reach l dC dI cA a0 aR aM aW aP aS aC aO nW nE H.size R f us P S sc li rc_54 rn_54 ro_54 rd st (f x4_54.toNatClampNeg) _ h) (cwV 1 hw g_M_102 rfl rfl rfl (by decide +kernel) ⟨Nat.le_of_ble_eq_true rfl, Nat.le_of_ble_eq_true rfl⟩) (rw_PV (ci := 1) (q0 := 2) hK hP hD rfl rfl) rfl rfl hl.1 rfl (lv_room (Nat.le_of_ble_eq_true rfl)) d_M_spread_68 ⟨Nat.le_of_ble_eq_true rfl, Nat.le_of_ble_eq_true rfl⟩) hS (fun q _ h => hFc q h) hFc (fun u t H locs ht hvm h hB hz1 hk1 hS => ?_)
        obtain ⟨rc_68, rn_68, ro_68⟩ := u
        obtain ⟨hP, hK1, hD1⟩ := hB
        rw [ht] at hP
        have hD := hD1.weaken (fun _ _ _ q => hFc _ q)
        clear hFc hD1 hK1
        try dsimp only at h
        have hP : va_P (dC, dI) vwCl (TSw cA a0 aR aM aW aP aS aC aO nW nE R f us P S sc li rc_68 rn_68 ro_68 rd st) H := hP
        have hD : va_D A (TSw cA a0 aR aM aW aP aS aC aO nW nE R f us P S sc li rc_68 rn_68 ro_68 rd st) := hD
        refine lv_iinc (v := x4_54 + (1 : Int32)) (lv' := [(4, .int (x4_54 + (1 : Int32))), (0, .ref aM), (1, .int y1_54), (2, .int y2_54), (3, .int y3_54)]) hx hb d_M_spread_71 hl (k := 4) rfl rfl (by decide) rfl (fun ls hl => ?_)
        refine lv_goto (tgt := 54) hx hb d_M_spread_74 (by decide) ?_
        exact ih (x4_54 + (1 : Int32)) rc_68 rn_68 ro_68 H locs ls hP hD hS (lv_sub hl [1, 2, 3, 4, 0] rfl) h
  have lp_2 : ∀ (kx : Int32 → (Nat → Int32) → Int32 → (Nat → Int32) → Prop), (∀ (z1_2 : Int32) (rce_2 : Nat → Int32) (rne_2 : Int32) (roe_2 : Nat → Int32) (H : Heap) (locs : List Loc) (ls : Array Slot), va_P (dC, dI) vwCl (TSw cA a0 aR aM aW aP aS aC aO nW nE R f us P S sc li rce_2 rne_2 roe_2 rd st) H → va_D A (TSw cA a0 aR aM aW aP aS aC aO nW nE R f us P S sc li rce_2 rne_2 roe_2 rd st) → va_S A s.heap H locs → lv_has ls 5 [(0, .ref aM), (1, .int z1_2)] → kx z1_2 rce_2 rne_2 roe_2 → W p l e (headSpec ws_M_spread ({ frames := 3, cells := 0, slots := 0, locals := 63 })).room s m ([.ref aM] : List Value).toArray below meth c H locs 0 0 (MQ below (va_Qv (fun u : (Nat → Int32) × Int32 × (Nat → Int32) => post u.1 u.2.1 u.2.2) (rw_B (dC, dI) vwCl [(cA, .int)] A (fun u : (Nat → Int32) × Int32 × (Nat → Int32) => TSw cA a0 aR aM aW aP aS aC aO nW nE R f us P S sc li u.1 u.2.1 u.2.2 rd st)) A) ([.ref aM] : List Value).toArray s 0 0 A) (F0 m 83 ls [])) → ∀ (n : Nat) (x1_2 : Int32) (rc_2 : Nat → Int32) (rn_2 : Int32) (ro_2 : Nat → Int32) (H : Heap) (locs : List Loc) (ls : Array Slot), va_P (dC, dI) vwCl (TSw cA a0 aR aM aW aP aS aC aO nW nE R f us P S sc li rc_2 rn_2 ro_2 rd st) H → va_D A (TSw cA a0 aR aM aW aP aS aC aO nW nE R f us P S sc li rc_2 rn_2 ro_2 rd st) → va_S A s.heap H locs → lv_has ls 5 [(0, .ref aM), (1, .int x1_2)] → wqM_spread_2 nW nE f P rd post kx n x1_2 rc_2 rn_2 ro_2 → W p l e (headSpec ws_M_spread ({ frames := 3, cells := 0, slots := 0, locals := 63 })).room s m ([.ref aM] : List Value).toArray below meth c H locs 0 0 (MQ below (va_Qv (fun u : (Nat → Int32) × Int32 × (Nat → Int32) => post u.1 u.2.1 u.2.2) (rw_B (dC, dI) vwCl [(cA, .int)] A (fun u : (Nat → Int32) × Int32 × (Nat → Int32) => TSw cA a0 aR aM aW aP aS aC aO nW nE R f us P S sc li u.1 u.2.1 u.2.2 rd st)) A) ([.ref aM] : List Value).toArray s 0 0 A) (F0 m 2 ls []) := by
    intro kx K n
    induction n with
    | zero => intro x1_2 rc_2 rn_2 ro_2 H locs ls hP hD hS hl h; exact h.elim
    | succ n ih =>
      intro x1_2 rc_2 rn_2 ro_2 H locs ls hP hD hS hl h
      refine lv_iload_n hx hb d_M_spread_2 rfl (lv_at hl 1 rfl) ?_
      refine lv_aload_n hx hb d_M_spread_3 rfl (lv_at hl 0 rfl) ?_
      refine va_get (D := (dC, dI)) (ci := 1) (v := .ref aC) (C := R_M) (T := T_M) (N := 11) hx hb hw in_M hown hK hP 2 rfl rfl 6 (by decide) (hw _ wd_69) (fun _ h9 => h9) rfl d_M_spread_4 ?_
      refine va_alen (v := nI nE) hx hb hK hP 6 0 rfl rfl rfl d_M_spread_7 ?_
      refine lv_icmp_ge (tgt := 83) hx hb d_M_spread_8 (by decide) (fun c_8 => ?_) (fun c_8 => ?_)
      · have h := h.1 c_8
        exact K x1_2 rc_2 rn_2 ro_2 H locs ls hP hD hS (lv_sub hl [0, 1] rfl) h
      · have h := h.2 c_8
        refine lv_iload_n hx hb d_M_spread_11 rfl (lv_at hl 1 rfl) ?_
        refine lv_aload_n hx hb d_M_spread_12 rfl (lv_at hl 0 rfl) ?_
        refine va_get (D := (dC, dI)) (ci := 1) (v := .int rn_2) (C := R_M) (T := T_M) (N := 11) hx hb hw in_M hown hK hP 2 rfl rfl 7 (by decide) (hw _ wd_70) (fun _ h9 => h9) rfl d_M_spread_13 ?_
        refine lv_icmp_ge (tgt := 83) hx hb d_M_spread_16 (by decide) (fun c_16 => ?_) (fun c_16 => ?_)
        · have h := h.1 c_16
          exact K x1_2 rc_2 rn_2 ro_2 H locs ls hP hD hS (lv_sub hl [0, 1] rfl) h
        · have h := h.2 c_16
          refine lv_aload_n hx hb d_M_spread_19 rfl (lv_at hl 0 rfl) ?_
          refine va_get (D := (dC, dI)) (ci := 1) (v := .ref aP) (C := R_M) (T := T_M) (N := 11) hx hb hw in_M hown hK hP 2 rfl rfl 2 (by decide) (hw _ wd_65) (fun _ h9 => h9) rfl d_M_spread_20 ?_
          refine lv_aload_n hx hb d_M_spread_23 rfl (lv_at hl 0 rfl) ?_
          refine va_get (D := (dC, dI)) (ci := 1) (v := .ref aC) (C := R_M) (T := T_M) (N := 11) hx hb hw in_M hown hK hP 2 rfl rfl 6 (by decide) (hw _ wd_69) (fun _ h9 => h9) rfl d_M_spread_24 ?_
          refine lv_iload_n hx hb d_M_spread_27 rfl (lv_at hl 1 rfl) ?_
          refine va_iald hx hb hK hP 6 0 rfl rfl h.1 d_M_spread_28 ?_
          have h := h.2
          refine va_iald hx hb hK hP 4 0 rfl rfl h.1 d_M_spread_29 ?_
          have h := h.2
          refine lv_istore_n (lv' := [(2, .int (P (rc_2 x1_2.toNatClampNeg).toNatClampNeg)), (0, .ref aM), (1, .int x1_2)]) hx hb d_M_spread_30 rfl hl (by decide) rfl (fun ls hl => ?_)
          refine lv_aload_n hx hb d_M_spread_31 rfl (lv_at hl 1 rfl) ?_
          refine lv_aload_n hx hb d_M_spread_32 rfl (lv_at hl 1 rfl) ?_
          refine va_get (D := (dC, dI)) (ci := 1) (v := .ref aW) (C := R_M) (T := T_M) (N := 11) hx hb hw in_M hown hK hP 2 rfl rfl 0 (by decide) (hw _ wd_63) (fun _ h9 => h9) rfl d_M_spread_33 ?_
          refine lv_iload_n hx hb d_M_spread_36 rfl (lv_at hl 0 rfl) ?_
          refine lv_iconst (v := (2 : Int32)) hx hb d_M_spread_37 (by decide) ?_
          refine lv_iadd hx hb d_M_spread_38 ?_
          refine va_iald hx hb hK hP 3 0 rfl rfl h.1 d_M_spread_39 ?_
          have h := h.2
          have hFc := va_free (wc := TSw cA a0 aR aM aW aP aS aC aO nW nE R f us P S sc li rc_2 rn_2 ro_2 rd st) hD hS hA [0, 1, 2, 3, 4, 5, 6, 7] rfl
          refine va_callv (va_runV (As := [.int (f ((P (rc_2 x1_2.toNatClampNeg).toNatClampNeg) + (2 : Int32)).toNatClampNeg)]) (rest := []) ⟨hx, hb, hml, hown, hw⟩ (mM_reach l dC dI cA a0 aR aM aW aP aS aC aO nW nE H.size R f us P S sc li rc_2 rn_2 ro_2 rd st (f ((P (rc_2 x1_2.toNatClampNeg).toNatClampNeg) + (2 : Int32)).toNatClampNeg) _ h) (cwV 1 hw g_M_102 rfl rfl rfl (by decide +kernel) ⟨Nat.le_of_ble_eq_true rfl, Nat.le_of_ble_eq_true rfl⟩) (rw_PV (ci := 1) (q0 := 2) hK hP hD rfl rfl) rfl rfl hl.1 rfl (lv_room (Nat.le_of_ble_eq_true rfl)) d_M_spread_40 ⟨Nat.le_of_ble_eq_true rfl, Nat.le_of_ble_eq_true rfl⟩) hS (fun q _ h => hFc q h) hFc (fun u t H locs ht hvm h hB hz1 hk1 hS => ?_)
          obtain ⟨rc_40, rn_40, ro_40⟩ := u
          obtain ⟨hP, hK1, hD1⟩ := hB
          rw [ht] at hP
          have hD := hD1.weaken (fun _ _ _ q => hFc _ q)
          clear hFc hD1 hK1
          try dsimp only at h
          have hP : va_P (dC, dI) vwCl (TSw cA a0 aR aM aW aP aS aC aO nW nE R f us P S sc li rc_40 rn_40 ro_40 rd st) H := hP
          have hD : va_D A (TSw cA a0 aR aM aW aP aS aC aO nW nE R f us P S sc li rc_40 rn_40 ro_40 rd st) := hD
          refine lv_aload_n hx hb d_M_spread_43 rfl (lv_at hl 1 rfl) ?_
          refine lv_iload_n hx hb d_M_spread_44 rfl (lv_at hl 0 rfl) ?_
          refine rq_calli (W.runV (As := [.int (P (rc_2 x1_2.toNatClampNeg).toNatClampNeg)]) (rest := []) ⟨hx, hb, hml, hown, hw⟩ (mM_endOfSlots l dC dI cA a0 aR aM aW aP aS aC aO nW nE R f us P S sc li rc_40 rn_40 ro_40 rd st (P (rc_2 x1_2.toNatClampNeg).toNatClampNeg) _ h) (cwV 1 hw g_M_120 rfl rfl rfl (by decide +kernel) ⟨Nat.le_of_ble_eq_true rfl, Nat.le_of_ble_eq_true rfl⟩) (ro_PV (ci := 1) (q0 := 2) hK hP rfl rfl) rfl rfl hl.1 rfl (lv_room (Nat.le_of_ble_eq_true rfl)) d_M_spread_45 ⟨Nat.le_of_ble_eq_true rfl, Nat.le_of_ble_eq_true rfl⟩) (fun r45 h => ?_)
          refine lv_istore_n (lv' := [(3, .int r45), (2, .int (P (rc_2 x1_2.toNatClampNeg).toNatClampNeg)), (0, .ref aM), (1, .int x1_2)]) hx hb d_M_spread_48 rfl hl (by decide) rfl (fun ls hl => ?_)
          refine lv_iload_n hx hb d_M_spread_49 rfl (lv_at hl 1 rfl) ?_
          refine lv_iconst (v := (4 : Int32)) hx hb d_M_spread_50 (by decide) ?_
          refine lv_iadd hx hb d_M_spread_51 ?_
          refine lv_istore (lv' := [(4, .int ((P (rc_2 x1_2.toNatClampNeg).toNatClampNeg) + (4 : Int32))), (3, .int r45), (2, .int (P (rc_2 x1_2.toNatClampNeg).toNatClampNeg)), (0, .ref aM), (1, .int x1_2)]) hx hb d_M_spread_52 hl (by decide) rfl (fun ls hl => ?_)
          obtain ⟨n_54, h⟩ := h
          refine lp_54 x1_2 (P (rc_2 x1_2.toNatClampNeg).toNatClampNeg) r45 _ (fun z4_54 rce_54 rne_54 roe_54 H locs ls hP hD hS hl h => ?_) n_54 ((P (rc_2 x1_2.toNatClampNeg).toNatClampNeg) + (4 : Int32)) rc_40 rn_40 ro_40 H locs ls hP hD hS (lv_sub hl [3, 4, 2, 1, 0] rfl) h
          refine lv_iinc (v := x1_2 + (1 : Int32)) (lv' := [(1, .int (x1_2 + (1 : Int32))), (0, .ref aM), (2, .int (P (rc_2 x1_2.toNatClampNeg).toNatClampNeg)), (3, .int r45), (4, .int z4_54)]) hx hb d_M_spread_77 hl (k := 1) rfl rfl (by decide) rfl (fun ls hl => ?_)
          refine lv_goto (tgt := 2) hx hb d_M_spread_80 (by decide) ?_
          exact ih (x1_2 + (1 : Int32)) rce_54 rne_54 roe_54 H locs ls hP hD hS (lv_sub hl [1, 0] rfl) h
  unfold wqM_spread at h
  refine lv_iconst (v := (0 : Int32)) hx hb d_M_spread_0 (by decide) ?_
  refine lv_istore_n (lv' := [(1, .int (0 : Int32)), (0, .ref aM)]) hx hb d_M_spread_1 rfl hl (by decide) rfl (fun ls hl => ?_)
  obtain ⟨n_2, h⟩ := h
  refine lp_2 _ (fun z1_2 rce_2 rne_2 roe_2 H locs ls hP hD hS hl h => ?_) n_2 (0 : Int32) rc rn ro s.heap [] ls hP hD hS (lv_sub hl [1, 0] rfl) h
  exact W.vret hx hb hr9 (fun t ht hW => ⟨⟨(rce_2, rne_2, roe_2), rfl, h, by rw [ht]; exact hP, va_K.moved hW.alike hK, hD⟩, hS.F ht⟩) hS.2.2 d_M_spread_83
def wqM_slide_12 (nW : Nat) (nE : Nat) (ro : Nat → Int32) (rd : Int32) (y1_12 : Int32) (post : (Nat → Int32) → Int32 → (Nat → Int32) → (Nat → Int32) → Int32 → Prop) (kx : Int32 → (Nat → Int32) → Int32 → (Nat → Int32) → (Nat → Int32) → Int32 → Prop) : Nat → Int32 → (Nat → Int32) → Int32 → (Nat → Int32) → (Nat → Int32) → Int32 → Prop
  | 0, _, _, _, _, _, _ => False
  | n + 1, x3_12, f_12, us_12, P_12, S_12, sc_12 =>
    (y1_12 ≤ x3_12 → (kx x3_12 f_12 us_12 P_12 S_12 sc_12)) ∧ (¬ (y1_12 ≤ x3_12) → (wqM_bodyWordsAt nW nE f_12 x3_12 (fun r19 => vp_in (x3_12 + (0 : Int32)) nW ∧ (wqM_isReached nW nE ro rd (f_12 (x3_12 + (0 : Int32)).toNatClampNeg) (fun r36 => (r36 = 0 → (vp_in sc_12 nE ∧ (wqM_slide_12 nW nE ro rd y1_12 post kx n (x3_12 + ((4 : Int32) + r19)) f_12 us_12 P_12 (upd S_12 sc_12.toNatClampNeg (f_12 (x3_12 + (0 : Int32)).toNatClampNeg)) (sc_12 + (1 : Int32))))) ∧ (¬ (r36 = 0) → (¬ x3_12 < 0 ∧ ¬ us_12 < 0 ∧ ¬ ((4 : Int32) + r19) < 0 ∧ x3_12.toNatClampNeg + ((4 : Int32) + r19).toNatClampNeg ≤ nW ∧ us_12.toNatClampNeg + ((4 : Int32) + r19).toNatClampNeg ≤ nW ∧ (vp_in (f_12 (x3_12 + (0 : Int32)).toNatClampNeg) nE ∧ (wqM_slide_12 nW nE ro rd y1_12 post kx n (x3_12 + ((4 : Int32) + r19)) (va_cpy f_12 f_12 x3_12.toNatClampNeg us_12.toNatClampNeg ((4 : Int32) + r19).toNatClampNeg) (us_12 + ((4 : Int32) + r19)) (upd P_12 (f_12 (x3_12 + (0 : Int32)).toNatClampNeg).toNatClampNeg us_12) S_12 sc_12)))))))))
def wqM_slide (nW : Nat) (nE : Nat) (f : Nat → Int32) (us : Int32) (P : Nat → Int32) (S : Nat → Int32) (sc : Int32) (ro : Nat → Int32) (rd : Int32) (post : (Nat → Int32) → Int32 → (Nat → Int32) → (Nat → Int32) → Int32 → Prop) : Prop :=
  ∃ k_12, wqM_slide_12 nW nE ro rd us post (fun z3_12 fe_12 use_12 Pe_12 Se_12 sce_12 => post fe_12 use_12 Pe_12 Se_12 sce_12) k_12 (0 : Int32) f (0 : Int32) P S sc
set_option maxHeartbeats 4000000 in
set_option maxRecDepth 100000 in
theorem mM_slide (l : Launch) (dC : Nat → ClassId) (dI : Nat → Nat → Nat) (cA : ClassId) (a0 : Nat) (aR : Nat) (aM : Nat) (aW : Nat) (aP : Nat) (aS : Nat) (aC : Nat) (aO : Nat) (nW : Nat) (nE : Nat) (sz : Nat) (R : Nat → Int32) (f : Nat → Int32) (us : Int32) (P : Nat → Int32) (S : Nat → Int32) (sc : Int32) (li : Int32) (rc : Nat → Int32) (rn : Int32) (ro : Nat → Int32) (rd : Int32) (st : Int32) (post : (Nat → Int32) → Int32 → (Nat → Int32) → (Nat → Int32) → Int32 → Prop) (h : wqM_slide nW nE f us P S sc ro rd post) : Met l y_M_slide ws_M_slide ({ frames := 3, cells := 0, slots := 0, locals := 62 }) (rw_P (dC, dI) vwCl (TSw cA a0 aR aM aW aP aS aC aO nW nE R f us P S sc li rc rn ro rd st) [(cA, .int)] sz [.ref aM]) (va_Qv (fun u : (Nat → Int32) × Int32 × (Nat → Int32) × (Nat → Int32) × Int32 => post u.1 u.2.1 u.2.2.1 u.2.2.2.1 u.2.2.2.2) (rw_B (dC, dI) vwCl [(cA, .int)] (va_A (TSw cA a0 aR aM aW aP aS aC aO nW nE R f us P S sc li rc rn ro rd st) sz) (fun u : (Nat → Int32) × Int32 × (Nat → Int32) × (Nat → Int32) × Int32 => TSw cA a0 aR aM aW aP aS aC aO nW nE R u.1 u.2.1 u.2.2.1 u.2.2.2.1 u.2.2.2.2 li rc rn ro rd st)) (va_A (TSw cA a0 aR aM aW aP aS aC aO nW nE R f us P S sc li rc rn ro rd st) sz)) 0 0 (va_A (TSw cA a0 aR aM aW aP aS aC aO nW nE R f us P S sc li rc rn ro rd st) sz) := by
  refine Met.ofW (cc := c_M_slide) (maxL := 5) (ret := none) (by decide) rfl ?_
  intro p e s m args below meth c s₁ B hml hv
  obtain ⟨rfl, hsz, hP, hK, hD0⟩ := hv
  have hx := B.exec
  have hb := B.bytes
  have hr9 := B.returns
  have hts := atoms_spec (ws := ws_M_slide) B.pre
  have hw : ∀ w ∈ WB_, w.before _ s = true := fun w h => hts w (List.mem_cons_of_mem _ h)
  have hown : s.vm.findClass R_M = some m.cls := findClass_of_methodNamed B.named
  have hlocks := B.notSynchronized
  subst hsz
  have hD := hD0.self (sz := s.heap.size)
  generalize hAe : va_A (TSw cA a0 aR aM aW aP aS aC aO nW nE R f us P S sc li rc rn ro rd st) s.heap.size = A at hD ⊢
  have hA : ∀ q : Nat, s.heap.size ≤ q → A q := fun q h => by rw [← hAe]; exact Or.inr h
  have hS : va_S A s.heap s.heap [] := va_S.rf
  have hl := lv_entry ([.ref aM]) (n := 5) (Nat.le_of_ble_eq_true rfl)
  rw [lg_entry_eq]
  generalize (lg_sl ([.ref aM]) ++ List.replicate (5 - (lg_sl ([.ref aM])).length) Slot.unset).toArray = ls at hl ⊢
  have hl : lv_has ls 5 [(0, .ref aM)] := hl
  have lp_12 : ∀ (y1_12 : Int32) (kx : Int32 → (Nat → Int32) → Int32 → (Nat → Int32) → (Nat → Int32) → Int32 → Prop), (∀ (z3_12 : Int32) (fe_12 : Nat → Int32) (use_12 : Int32) (Pe_12 : Nat → Int32) (Se_12 : Nat → Int32) (sce_12 : Int32) (H : Heap) (locs : List Loc) (ls : Array Slot), va_P (dC, dI) vwCl (TSw cA a0 aR aM aW aP aS aC aO nW nE R fe_12 use_12 Pe_12 Se_12 sce_12 li rc rn ro rd st) H → va_D A (TSw cA a0 aR aM aW aP aS aC aO nW nE R fe_12 use_12 Pe_12 Se_12 sce_12 li rc rn ro rd st) → va_S A s.heap H locs → lv_has ls 5 [(0, .ref aM), (1, .int y1_12), (3, .int z3_12)] → kx z3_12 fe_12 use_12 Pe_12 Se_12 sce_12 → W p l e (headSpec ws_M_slide ({ frames := 3, cells := 0, slots := 0, locals := 62 })).room s m ([.ref aM] : List Value).toArray below meth c H locs 0 0 (MQ below (va_Qv (fun u : (Nat → Int32) × Int32 × (Nat → Int32) × (Nat → Int32) × Int32 => post u.1 u.2.1 u.2.2.1 u.2.2.2.1 u.2.2.2.2) (rw_B (dC, dI) vwCl [(cA, .int)] A (fun u : (Nat → Int32) × Int32 × (Nat → Int32) × (Nat → Int32) × Int32 => TSw cA a0 aR aM aW aP aS aC aO nW nE R u.1 u.2.1 u.2.2.1 u.2.2.2.1 u.2.2.2.2 li rc rn ro rd st)) A) ([.ref aM] : List Value).toArray s 0 0 A) (F0 m 117 ls [])) → ∀ (n : Nat) (x3_12 : Int32) (f_12 : Nat → Int32) (us_12 : Int32) (P_12 : Nat → Int32) (S_12 : Nat → Int32) (sc_12 : Int32) (H : Heap) (locs : List Loc) (ls : Array Slot), va_P (dC, dI) vwCl (TSw cA a0 aR aM aW aP aS aC aO nW nE R f_12 us_12 P_12 S_12 sc_12 li rc rn ro rd st) H → va_D A (TSw cA a0 aR aM aW aP aS aC aO nW nE R f_12 us_12 P_12 S_12 sc_12 li rc rn ro rd st) → va_S A s.heap H locs → lv_has ls 5 [(0, .ref aM), (1, .int y1_12), (3, .int x3_12)] → wqM_slide_12 nW nE ro rd y1_12 post kx n x3_12 f_12 us_12 P_12 S_12 sc_12 → W p l e (headSpec ws_M_slide ({ frames := 3, cells := 0, slots := 0, locals := 62 })).room s m ([.ref aM] : List Value).toArray below meth c H locs 0 0 (MQ below (va_Qv (fun u : (Nat → Int32) × Int32 × (Nat → Int32) × (Nat → Int32) × Int32 => post u.1 u.2.1 u.2.2.1 u.2.2.2.1 u.2.2.2.2) (rw_B (dC, dI) vwCl [(cA, .int)] A (fun u : (Nat → Int32) × Int32 × (Nat → Int32) × (Nat → Int32) × Int32 => TSw cA a0 aR aM aW aP aS aC aO nW nE R u.1 u.2.1 u.2.2.1 u.2.2.2.1 u.2.2.2.2 li rc rn ro rd st)) A) ([.ref aM] : List Value).toArray s 0 0 A) (F0 m 12 ls []) := by
    intro y1_12 kx K n
    induction n with
    | zero => intro x3_12 f_12 us_12 P_12 S_12 sc_12 H locs ls hP hD hS hl h; exact h.elim
    | succ n ih =>
      intro x3_12 f_12 us_12 P_12 S_12 sc_12 H locs ls hP hD hS hl h
      refine lv_iload_n hx hb d_M_slide_12 rfl (lv_at hl 2 rfl) ?_
      refine lv_iload_n hx hb d_M_slide_13 rfl (lv_at hl 1 rfl) ?_
      refine lv_icmp_ge (tgt := 117) hx hb d_M_slide_14 (by decide) (fun c_14 => ?_) (fun c_14 => ?_)
      · have h := h.1 c_14
        exact K x3_12 f_12 us_12 P_12 S_12 sc_12 H locs ls hP hD hS (lv_sub hl [0, 1, 2] rfl) h
      · have h := h.2 c_14
        refine lv_aload_n hx hb d_M_slide_17 rfl (lv_at hl 0 rfl) ?_
        refine lv_iload_n hx hb d_M_slide_18 rfl (lv_at hl 2 rfl) ?_
        refine rq_calli (W.runV (As := [.int x3_12]) (rest := []) ⟨hx, hb, hml, hown, hw⟩ (mM_bodyWordsAt l dC dI cA a0 aR aM aW aP aS aC aO nW nE R f_12 us_12 P_12 S_12 sc_12 li rc rn ro rd st x3_12 _ h) (cwV 1 hw g_M_123 rfl rfl rfl (by decide +kernel) ⟨Nat.le_of_ble_eq_true rfl, Nat.le_of_ble_eq_true rfl⟩) (ro_PV (ci := 1) (q0 := 2) hK hP rfl rfl) rfl rfl hl.1 rfl (lv_room (Nat.le_of_ble_eq_true rfl)) d_M_slide_19 ⟨Nat.le_of_ble_eq_true rfl, Nat.le_of_ble_eq_true rfl⟩) (fun r19 h => ?_)
        refine lv_istore_n (lv' := [(2, .int r19), (0, .ref aM), (1, .int y1_12), (3, .int x3_12)]) hx hb d_M_slide_22 rfl hl (by decide) rfl (fun ls hl => ?_)
        refine lv_aload_n hx hb d_M_slide_23 rfl (lv_at hl 1 rfl) ?_
        refine va_get (D := (dC, dI)) (ci := 1) (v := .ref aW) (C := R_M) (T := T_M) (N := 11) hx hb hw in_M hown hK hP 2 rfl rfl 0 (by decide) (hw _ wd_63) (fun _ h9 => h9) rfl d_M_slide_24 ?_
        refine lv_iload_n hx hb d_M_slide_27 rfl (lv_at hl 3 rfl) ?_
        refine lv_iconst (v := (0 : Int32)) hx hb d_M_slide_28 (by decide) ?_
        refine lv_iadd hx hb d_M_slide_29 ?_
        refine va_iald hx hb hK hP 3 0 rfl rfl h.1 d_M_slide_30 ?_
        have h := h.2
        refine lv_istore (lv' := [(4, .int (f_12 (x3_12 + (0 : Int32)).toNatClampNeg)), (2, .int r19), (0, .ref aM), (1, .int y1_12), (3, .int x3_12)]) hx hb d_M_slide_31 hl (by decide) rfl (fun ls hl => ?_)
        refine lv_aload_n hx hb d_M_slide_33 rfl (lv_at hl 2 rfl) ?_
        refine lv_iload hx hb d_M_slide_34 (lv_at hl 0 rfl) ?_
        refine rq_calli (W.runV (As := [.int (f_12 (x3_12 + (0 : Int32)).toNatClampNeg)]) (rest := []) ⟨hx, hb, hml, hown, hw⟩ (mM_isReached l dC dI cA a0 aR aM aW aP aS aC aO nW nE R f_12 us_12 P_12 S_12 sc_12 li rc rn ro rd st (f_12 (x3_12 + (0 : Int32)).toNatClampNeg) _ h) (cwV 1 hw g_M_111 rfl rfl rfl (by decide +kernel) ⟨Nat.le_of_ble_eq_true rfl, Nat.le_of_ble_eq_true rfl⟩) (ro_PV (ci := 1) (q0 := 2) hK hP rfl rfl) rfl rfl hl.1 rfl (lv_room (Nat.le_of_ble_eq_true rfl)) d_M_slide_36 ⟨Nat.le_of_ble_eq_true rfl, Nat.le_of_ble_eq_true rfl⟩) (fun r36 h => ?_)
        refine lv_if_eq (tgt := 87) hx hb d_M_slide_39 (by decide) (fun c_39 => ?_) (fun c_39 => ?_)
        · have h := h.1 c_39
          refine lv_aload_n hx hb d_M_slide_87 rfl (lv_at hl 2 rfl) ?_
          refine va_get (D := (dC, dI)) (ci := 1) (v := .ref aS) (C := R_M) (T := T_M) (N := 11) hx hb hw in_M hown hK hP 2 rfl rfl 3 (by decide) (hw _ wd_66) (fun _ h9 => h9) rfl d_M_slide_88 ?_
          refine lv_aload_n hx hb d_M_slide_91 rfl (lv_at hl 2 rfl) ?_
          refine va_get (D := (dC, dI)) (ci := 1) (v := .int sc_12) (C := R_M) (T := T_M) (N := 11) hx hb hw in_M hown hK hP 2 rfl rfl 4 (by decide) (hw _ wd_67) (fun _ h9 => h9) rfl d_M_slide_92 ?_
          refine lv_iload hx hb d_M_slide_95 (lv_at hl 0 rfl) ?_
          refine va_iast hx hb hK hP hD hS 5 0 rfl rfl h.1 d_M_slide_97 (fun H locs hP hD hS => ?_)
          have hP : va_P (dC, dI) vwCl (TSw cA a0 aR aM aW aP aS aC aO nW nE R f_12 us_12 P_12 (upd S_12 sc_12.toNatClampNeg (f_12 (x3_12 + (0 : Int32)).toNatClampNeg)) sc_12 li rc rn ro rd st) H := hP
          have hD : va_D A (TSw cA a0 aR aM aW aP aS aC aO nW nE R f_12 us_12 P_12 (upd S_12 sc_12.toNatClampNeg (f_12 (x3_12 + (0 : Int32)).toNatClampNeg)) sc_12 li rc rn ro rd st) := hD
          have h := h.2
          refine lv_aload_n hx hb d_M_slide_98 rfl (lv_at hl 2 rfl) ?_
          refine lv_dup hx hb d_M_slide_99 rfl ?_
          refine va_get (D := (dC, dI)) (ci := 1) (v := .int sc_12) (C := R_M) (T := T_M) (N := 11) hx hb hw in_M hown hK hP 2 rfl rfl 4 (by decide) (hw _ wd_67) (fun _ h9 => h9) rfl d_M_slide_100 ?_
          refine lv_iconst (v := (1 : Int32)) hx hb d_M_slide_103 (by decide) ?_
          refine lv_iadd hx hb d_M_slide_104 ?_
          refine va_put (D := (dC, dI)) (ci := 1) (v := .int (sc_12 + (1 : Int32))) (ty := .int) (C := R_M) (T := T_M) (N := 11) hx hb hw in_M ty_M ty_M_ok nm_M hown hK hP hD hS 2 rfl rfl 4 (by decide) (hw _ wd_67) (fun _ h9 => h9) rfl (by decide +kernel) rfl rfl (Nat.le_of_ble_eq_true rfl) d_M_slide_105 (fun H locs hP hD hS => ?_)
          have hP : va_P (dC, dI) vwCl (TSw cA a0 aR aM aW aP aS aC aO nW nE R f_12 us_12 P_12 (upd S_12 sc_12.toNatClampNeg (f_12 (x3_12 + (0 : Int32)).toNatClampNeg)) (sc_12 + (1 : Int32)) li rc rn ro rd st) H := hP
          have hD : va_D A (TSw cA a0 aR aM aW aP aS aC aO nW nE R f_12 us_12 P_12 (upd S_12 sc_12.toNatClampNeg (f_12 (x3_12 + (0 : Int32)).toNatClampNeg)) (sc_12 + (1 : Int32)) li rc rn ro rd st) := hD
          refine lv_iload_n hx hb d_M_slide_108 rfl (lv_at hl 4 rfl) ?_
          refine lv_iconst (v := (4 : Int32)) hx hb d_M_slide_109 (by decide) ?_
          refine lv_iload_n hx hb d_M_slide_110 rfl (lv_at hl 1 rfl) ?_
          refine lv_iadd hx hb d_M_slide_111 ?_
          refine lv_iadd hx hb d_M_slide_112 ?_
          refine lv_istore_n (lv' := [(3, .int (x3_12 + ((4 : Int32) + r19))), (4, .int (f_12 (x3_12 + (0 : Int32)).toNatClampNeg)), (2, .int r19), (0, .ref aM), (1, .int y1_12)]) hx hb d_M_slide_113 rfl hl (by decide) rfl (fun ls hl => ?_)
          refine lv_goto (tgt := 12) hx hb d_M_slide_114 (by decide) ?_
          exact ih (x3_12 + ((4 : Int32) + r19)) f_12 us_12 P_12 (upd S_12 sc_12.toNatClampNeg (f_12 (x3_12 + (0 : Int32)).toNatClampNeg)) (sc_12 + (1 : Int32)) H locs ls hP hD hS (lv_sub hl [3, 4, 0] rfl) h
        · have h := h.2 c_39
          refine lv_aload_n hx hb d_M_slide_42 rfl (lv_at hl 2 rfl) ?_
          refine va_get (D := (dC, dI)) (ci := 1) (v := .ref aW) (C := R_M) (T := T_M) (N := 11) hx hb hw in_M hown hK hP 2 rfl rfl 0 (by decide) (hw _ wd_63) (fun _ h9 => h9) rfl d_M_slide_43 ?_
          refine lv_iload_n hx hb d_M_slide_46 rfl (lv_at hl 4 rfl) ?_
          refine lv_aload_n hx hb d_M_slide_47 rfl (lv_at hl 2 rfl) ?_
          refine va_get (D := (dC, dI)) (ci := 1) (v := .ref aW) (C := R_M) (T := T_M) (N := 11) hx hb hw in_M hown hK hP 2 rfl rfl 0 (by decide) (hw _ wd_63) (fun _ h9 => h9) rfl d_M_slide_48 ?_
          refine lv_aload_n hx hb d_M_slide_51 rfl (lv_at hl 2 rfl) ?_
          refine va_get (D := (dC, dI)) (ci := 1) (v := .int us_12) (C := R_M) (T := T_M) (N := 11) hx hb hw in_M hown hK hP 2 rfl rfl 1 (by decide) (hw _ wd_64) (fun _ h9 => h9) rfl d_M_slide_52 ?_
          refine lv_iconst (v := (4 : Int32)) hx hb d_M_slide_55 (by decide) ?_
          refine lv_iload_n hx hb d_M_slide_56 rfl (lv_at hl 1 rfl) ?_
          refine lv_iadd hx hb d_M_slide_57 ?_
          obtain ⟨k1, k2, k3, k4, k5, h⟩ := h
          refine va_copyi hx hb (hml.trans hl.1.symm) hown (hw _ wd_156) (hw _ wd_158) (hw _ wd_157) (hw _ wd_41) hK hP hD hS 3 3 0 0 rfl rfl rfl rfl rfl k1 k2 k3 k4 k5 (fun _ _ => rfl) (Nat.le_of_ble_eq_true rfl) (Nat.le_of_ble_eq_true rfl) d_M_slide_58 (fun H locs hP hD hS => ?_)
          have hP : va_P (dC, dI) vwCl (TSw cA a0 aR aM aW aP aS aC aO nW nE R (va_cpy f_12 f_12 x3_12.toNatClampNeg us_12.toNatClampNeg ((4 : Int32) + r19).toNatClampNeg) us_12 P_12 S_12 sc_12 li rc rn ro rd st) H := hP
          have hD : va_D A (TSw cA a0 aR aM aW aP aS aC aO nW nE R (va_cpy f_12 f_12 x3_12.toNatClampNeg us_12.toNatClampNeg ((4 : Int32) + r19).toNatClampNeg) us_12 P_12 S_12 sc_12 li rc rn ro rd st) := hD
          refine lv_aload_n hx hb d_M_slide_61 rfl (lv_at hl 2 rfl) ?_
          refine va_get (D := (dC, dI)) (ci := 1) (v := .ref aP) (C := R_M) (T := T_M) (N := 11) hx hb hw in_M hown hK hP 2 rfl rfl 2 (by decide) (hw _ wd_65) (fun _ h9 => h9) rfl d_M_slide_62 ?_
          refine lv_iload hx hb d_M_slide_65 (lv_at hl 0 rfl) ?_
          refine lv_aload_n hx hb d_M_slide_67 rfl (lv_at hl 2 rfl) ?_
          refine va_get (D := (dC, dI)) (ci := 1) (v := .int us_12) (C := R_M) (T := T_M) (N := 11) hx hb hw in_M hown hK hP 2 rfl rfl 1 (by decide) (hw _ wd_64) (fun _ h9 => h9) rfl d_M_slide_68 ?_
          refine va_iast hx hb hK hP hD hS 4 0 rfl rfl h.1 d_M_slide_71 (fun H locs hP hD hS => ?_)
          have hP : va_P (dC, dI) vwCl (TSw cA a0 aR aM aW aP aS aC aO nW nE R (va_cpy f_12 f_12 x3_12.toNatClampNeg us_12.toNatClampNeg ((4 : Int32) + r19).toNatClampNeg) us_12 (upd P_12 (f_12 (x3_12 + (0 : Int32)).toNatClampNeg).toNatClampNeg us_12) S_12 sc_12 li rc rn ro rd st) H := hP
          have hD : va_D A (TSw cA a0 aR aM aW aP aS aC aO nW nE R (va_cpy f_12 f_12 x3_12.toNatClampNeg us_12.toNatClampNeg ((4 : Int32) + r19).toNatClampNeg) us_12 (upd P_12 (f_12 (x3_12 + (0 : Int32)).toNatClampNeg).toNatClampNeg us_12) S_12 sc_12 li rc rn ro rd st) := hD
          have h := h.2
          refine lv_aload_n hx hb d_M_slide_72 rfl (lv_at hl 2 rfl) ?_
          refine lv_dup hx hb d_M_slide_73 rfl ?_
          refine va_get (D := (dC, dI)) (ci := 1) (v := .int us_12) (C := R_M) (T := T_M) (N := 11) hx hb hw in_M hown hK hP 2 rfl rfl 1 (by decide) (hw _ wd_64) (fun _ h9 => h9) rfl d_M_slide_74 ?_
          refine lv_iconst (v := (4 : Int32)) hx hb d_M_slide_77 (by decide) ?_
          refine lv_iload_n hx hb d_M_slide_78 rfl (lv_at hl 1 rfl) ?_
          refine lv_iadd hx hb d_M_slide_79 ?_
          refine lv_iadd hx hb d_M_slide_80 ?_
          refine va_put (D := (dC, dI)) (ci := 1) (v := .int (us_12 + ((4 : Int32) + r19))) (ty := .int) (C := R_M) (T := T_M) (N := 11) hx hb hw in_M ty_M ty_M_ok nm_M hown hK hP hD hS 2 rfl rfl 1 (by decide) (hw _ wd_64) (fun _ h9 => h9) rfl (by decide +kernel) rfl rfl (Nat.le_of_ble_eq_true rfl) d_M_slide_81 (fun H locs hP hD hS => ?_)
          have hP : va_P (dC, dI) vwCl (TSw cA a0 aR aM aW aP aS aC aO nW nE R (va_cpy f_12 f_12 x3_12.toNatClampNeg us_12.toNatClampNeg ((4 : Int32) + r19).toNatClampNeg) (us_12 + ((4 : Int32) + r19)) (upd P_12 (f_12 (x3_12 + (0 : Int32)).toNatClampNeg).toNatClampNeg us_12) S_12 sc_12 li rc rn ro rd st) H := hP
          have hD : va_D A (TSw cA a0 aR aM aW aP aS aC aO nW nE R (va_cpy f_12 f_12 x3_12.toNatClampNeg us_12.toNatClampNeg ((4 : Int32) + r19).toNatClampNeg) (us_12 + ((4 : Int32) + r19)) (upd P_12 (f_12 (x3_12 + (0 : Int32)).toNatClampNeg).toNatClampNeg us_12) S_12 sc_12 li rc rn ro rd st) := hD
          refine lv_goto (tgt := 108) hx hb d_M_slide_84 (by decide) ?_
          refine lv_iload_n hx hb d_M_slide_108 rfl (lv_at hl 4 rfl) ?_
          refine lv_iconst (v := (4 : Int32)) hx hb d_M_slide_109 (by decide) ?_
          refine lv_iload_n hx hb d_M_slide_110 rfl (lv_at hl 1 rfl) ?_
          refine lv_iadd hx hb d_M_slide_111 ?_
          refine lv_iadd hx hb d_M_slide_112 ?_
          refine lv_istore_n (lv' := [(3, .int (x3_12 + ((4 : Int32) + r19))), (4, .int (f_12 (x3_12 + (0 : Int32)).toNatClampNeg)), (2, .int r19), (0, .ref aM), (1, .int y1_12)]) hx hb d_M_slide_113 rfl hl (by decide) rfl (fun ls hl => ?_)
          refine lv_goto (tgt := 12) hx hb d_M_slide_114 (by decide) ?_
          exact ih (x3_12 + ((4 : Int32) + r19)) (va_cpy f_12 f_12 x3_12.toNatClampNeg us_12.toNatClampNeg ((4 : Int32) + r19).toNatClampNeg) (us_12 + ((4 : Int32) + r19)) (upd P_12 (f_12 (x3_12 + (0 : Int32)).toNatClampNeg).toNatClampNeg us_12) S_12 sc_12 H locs ls hP hD hS (lv_sub hl [3, 4, 0] rfl) h
  unfold wqM_slide at h
  refine lv_aload_n hx hb d_M_slide_0 rfl (lv_at hl 0 rfl) ?_
  refine va_get (D := (dC, dI)) (ci := 1) (v := .int us) (C := R_M) (T := T_M) (N := 11) hx hb hw in_M hown hK hP 2 rfl rfl 1 (by decide) (hw _ wd_64) (fun _ h9 => h9) rfl d_M_slide_1 ?_
  refine lv_istore_n (lv' := [(1, .int us), (0, .ref aM)]) hx hb d_M_slide_4 rfl hl (by decide) rfl (fun ls hl => ?_)
  refine lv_aload_n hx hb d_M_slide_5 rfl (lv_at hl 1 rfl) ?_
  refine lv_iconst (v := (0 : Int32)) hx hb d_M_slide_6 (by decide) ?_
  refine va_put (D := (dC, dI)) (ci := 1) (v := .int (0 : Int32)) (ty := .int) (C := R_M) (T := T_M) (N := 11) hx hb hw in_M ty_M ty_M_ok nm_M hown hK hP hD hS 2 rfl rfl 1 (by decide) (hw _ wd_64) (fun _ h9 => h9) rfl (by decide +kernel) rfl rfl (Nat.le_of_ble_eq_true rfl) d_M_slide_7 (fun H locs hP hD hS => ?_)
  have hP : va_P (dC, dI) vwCl (TSw cA a0 aR aM aW aP aS aC aO nW nE R f (0 : Int32) P S sc li rc rn ro rd st) H := hP
  have hD : va_D A (TSw cA a0 aR aM aW aP aS aC aO nW nE R f (0 : Int32) P S sc li rc rn ro rd st) := hD
  refine lv_iconst (v := (0 : Int32)) hx hb d_M_slide_10 (by decide) ?_
  refine lv_istore_n (lv' := [(3, .int (0 : Int32)), (1, .int us), (0, .ref aM)]) hx hb d_M_slide_11 rfl hl (by decide) rfl (fun ls hl => ?_)
  obtain ⟨n_12, h⟩ := h
  refine lp_12 us _ (fun z3_12 fe_12 use_12 Pe_12 Se_12 sce_12 H locs ls hP hD hS hl h => ?_) n_12 (0 : Int32) f (0 : Int32) P S sc H locs ls hP hD hS (lv_sub hl [2, 1, 0] rfl) h
  exact W.vret hx hb hr9 (fun t ht hW => ⟨⟨(fe_12, use_12, Pe_12, Se_12, sce_12), rfl, h, by rw [ht]; exact hP, va_K.moved hW.alike hK, hD⟩, hS.F ht⟩) hS.2.2 d_M_slide_117
def wqM_settle_20 (nW : Nat) (nE : Nat) (R : Nat → Int32) (y3_20 : Int32) (ff_20 : Nat → Int32) (usf_20 : Int32) (Pf_20 : Nat → Int32) (Sf_20 : Nat → Int32) (scf_20 : Int32) (rdf_20 : Int32) (stf_20 : Int32) (post : (Nat → Int32) → Int32 → (Nat → Int32) → (Nat → Int32) → Int32 → (Nat → Int32) → Int32 → (Nat → Int32) → Int32 → Int32 → Prop) (kx : Int32 → (Nat → Int32) → Int32 → (Nat → Int32) → Prop) : Nat → Int32 → (Nat → Int32) → Int32 → (Nat → Int32) → Prop
  | 0, _, _, _, _ => False
  | n + 1, x4_20, rc_20, rn_20, ro_20 =>
    (y3_20 ≤ x4_20 → (kx x4_20 rc_20 rn_20 ro_20)) ∧ (¬ (y3_20 ≤ x4_20) → (vp_in x4_20 32 ∧ (wqM_reach nW nE rc_20 rn_20 ro_20 rdf_20 (R x4_20.toNatClampNeg) (fun rc_35 rn_35 ro_35 => wqM_settle_20 nW nE R y3_20 ff_20 usf_20 Pf_20 Sf_20 scf_20 rdf_20 stf_20 post kx n (x4_20 + (1 : Int32)) rc_35 rn_35 ro_35))))
def wqM_settle (nW : Nat) (nE : Nat) (R : Nat → Int32) (f : Nat → Int32) (us : Int32) (P : Nat → Int32) (S : Nat → Int32) (sc : Int32) (rc : Nat → Int32) (rn : Int32) (ro : Nat → Int32) (rd : Int32) (st : Int32) (post : (Nat → Int32) → Int32 → (Nat → Int32) → (Nat → Int32) → Int32 → (Nat → Int32) → Int32 → (Nat → Int32) → Int32 → Int32 → Prop) : Prop :=
  (st = 0 → (wqM_startRound nW nE rn rd (fun rn_9 rd_9 => ∃ k_20, wqM_settle_20 nW nE R (nI 32) f us P S sc rd_9 st post (fun z4_20 rce_20 rne_20 roe_20 => wqM_spread nW nE f P rce_20 rne_20 roe_20 rd_9 (fun rc_45 rn_45 ro_45 => wqM_slide nW nE f us P S sc ro_45 rd_9 (fun f_49 us_49 P_49 S_49 sc_49 => post f_49 us_49 P_49 S_49 sc_49 rc_45 rn_45 ro_45 rd_9 (1 : Int32)))) k_20 (0 : Int32) rc rn_9 ro))) ∧ (¬ (st = 0) → (post f us P S sc rc rn ro rd st))
set_option maxHeartbeats 4000000 in
set_option maxRecDepth 100000 in
theorem mM_settle (l : Launch) (dC : Nat → ClassId) (dI : Nat → Nat → Nat) (cA : ClassId) (a0 : Nat) (aR : Nat) (aM : Nat) (aW : Nat) (aP : Nat) (aS : Nat) (aC : Nat) (aO : Nat) (nW : Nat) (nE : Nat) (sz : Nat) (R : Nat → Int32) (f : Nat → Int32) (us : Int32) (P : Nat → Int32) (S : Nat → Int32) (sc : Int32) (li : Int32) (rc : Nat → Int32) (rn : Int32) (ro : Nat → Int32) (rd : Int32) (st : Int32) (post : (Nat → Int32) → Int32 → (Nat → Int32) → (Nat → Int32) → Int32 → (Nat → Int32) → Int32 → (Nat → Int32) → Int32 → Int32 → Prop) (h : wqM_settle nW nE R f us P S sc rc rn ro rd st post) : Met l y_M_settle ws_M_settle ({ frames := 4, cells := 0, slots := 0, locals := 87 }) (rw_P (dC, dI) vwCl (TSw cA a0 aR aM aW aP aS aC aO nW nE R f us P S sc li rc rn ro rd st) [(cA, .int)] sz [.ref aM, .ref aR]) (va_Qv (fun u : (Nat → Int32) × Int32 × (Nat → Int32) × (Nat → Int32) × Int32 × (Nat → Int32) × Int32 × (Nat → Int32) × Int32 × Int32 => post u.1 u.2.1 u.2.2.1 u.2.2.2.1 u.2.2.2.2.1 u.2.2.2.2.2.1 u.2.2.2.2.2.2.1 u.2.2.2.2.2.2.2.1 u.2.2.2.2.2.2.2.2.1 u.2.2.2.2.2.2.2.2.2) (rw_B (dC, dI) vwCl [(cA, .int)] (va_A (TSw cA a0 aR aM aW aP aS aC aO nW nE R f us P S sc li rc rn ro rd st) sz) (fun u : (Nat → Int32) × Int32 × (Nat → Int32) × (Nat → Int32) × Int32 × (Nat → Int32) × Int32 × (Nat → Int32) × Int32 × Int32 => TSw cA a0 aR aM aW aP aS aC aO nW nE R u.1 u.2.1 u.2.2.1 u.2.2.2.1 u.2.2.2.2.1 li u.2.2.2.2.2.1 u.2.2.2.2.2.2.1 u.2.2.2.2.2.2.2.1 u.2.2.2.2.2.2.2.2.1 u.2.2.2.2.2.2.2.2.2)) (va_A (TSw cA a0 aR aM aW aP aS aC aO nW nE R f us P S sc li rc rn ro rd st) sz)) 0 0 (va_A (TSw cA a0 aR aM aW aP aS aC aO nW nE R f us P S sc li rc rn ro rd st) sz) := by
  refine Met.ofW (cc := c_M_settle) (maxL := 6) (ret := none) (by decide) rfl ?_
  intro p e s m args below meth c s₁ B hml hv
  obtain ⟨rfl, hsz, hP, hK, hD0⟩ := hv
  have hx := B.exec
  have hb := B.bytes
  have hr9 := B.returns
  have hts := atoms_spec (ws := ws_M_settle) B.pre
  have hw : ∀ w ∈ WB_, w.before _ s = true := fun w h => hts w (List.mem_cons_of_mem _ h)
  have hown : s.vm.findClass R_M = some m.cls := findClass_of_methodNamed B.named
  have hlocks := B.notSynchronized
  subst hsz
  have hD := hD0.self (sz := s.heap.size)
  generalize hAe : va_A (TSw cA a0 aR aM aW aP aS aC aO nW nE R f us P S sc li rc rn ro rd st) s.heap.size = A at hD ⊢
  have hA : ∀ q : Nat, s.heap.size ≤ q → A q := fun q h => by rw [← hAe]; exact Or.inr h
  have hS : va_S A s.heap s.heap [] := va_S.rf
  have hl := lv_entry ([.ref aM, .ref aR]) (n := 6) (Nat.le_of_ble_eq_true rfl)
  rw [lg_entry_eq]
  generalize (lg_sl ([.ref aM, .ref aR]) ++ List.replicate (6 - (lg_sl ([.ref aM, .ref aR])).length) Slot.unset).toArray = ls at hl ⊢
  have hl : lv_has ls 6 [(0, .ref aM), (1, .ref aR)] := hl
  have lp_20 : ∀ (y3_20 : Int32) (ff_20 : Nat → Int32) (usf_20 : Int32) (Pf_20 : Nat → Int32) (Sf_20 : Nat → Int32) (scf_20 : Int32) (rdf_20 : Int32) (stf_20 : Int32) (kx : Int32 → (Nat → Int32) → Int32 → (Nat → Int32) → Prop), (∀ (z4_20 : Int32) (rce_20 : Nat → Int32) (rne_20 : Int32) (roe_20 : Nat → Int32) (H : Heap) (locs : List Loc) (ls : Array Slot), va_P (dC, dI) vwCl (TSw cA a0 aR aM aW aP aS aC aO nW nE R ff_20 usf_20 Pf_20 Sf_20 scf_20 li rce_20 rne_20 roe_20 rdf_20 stf_20) H → va_D A (TSw cA a0 aR aM aW aP aS aC aO nW nE R ff_20 usf_20 Pf_20 Sf_20 scf_20 li rce_20 rne_20 roe_20 rdf_20 stf_20) → va_S A s.heap H locs → lv_has ls 6 [(0, .ref aM), (1, .ref aR), (2, .ref aR), (3, .int y3_20), (4, .int z4_20)] → kx z4_20 rce_20 rne_20 roe_20 → W p l e (headSpec ws_M_settle ({ frames := 4, cells := 0, slots := 0, locals := 87 })).room s m ([.ref aM, .ref aR] : List Value).toArray below meth c H locs 0 0 (MQ below (va_Qv (fun u : (Nat → Int32) × Int32 × (Nat → Int32) × (Nat → Int32) × Int32 × (Nat → Int32) × Int32 × (Nat → Int32) × Int32 × Int32 => post u.1 u.2.1 u.2.2.1 u.2.2.2.1 u.2.2.2.2.1 u.2.2.2.2.2.1 u.2.2.2.2.2.2.1 u.2.2.2.2.2.2.2.1 u.2.2.2.2.2.2.2.2.1 u.2.2.2.2.2.2.2.2.2) (rw_B (dC, dI) vwCl [(cA, .int)] A (fun u : (Nat → Int32) × Int32 × (Nat → Int32) × (Nat → Int32) × Int32 × (Nat → Int32) × Int32 × (Nat → Int32) × Int32 × Int32 => TSw cA a0 aR aM aW aP aS aC aO nW nE R u.1 u.2.1 u.2.2.1 u.2.2.2.1 u.2.2.2.2.1 li u.2.2.2.2.2.1 u.2.2.2.2.2.2.1 u.2.2.2.2.2.2.2.1 u.2.2.2.2.2.2.2.2.1 u.2.2.2.2.2.2.2.2.2)) A) ([.ref aM, .ref aR] : List Value).toArray s 0 0 A) (F0 m 44 ls [])) → ∀ (n : Nat) (x4_20 : Int32) (rc_20 : Nat → Int32) (rn_20 : Int32) (ro_20 : Nat → Int32) (H : Heap) (locs : List Loc) (ls : Array Slot), va_P (dC, dI) vwCl (TSw cA a0 aR aM aW aP aS aC aO nW nE R ff_20 usf_20 Pf_20 Sf_20 scf_20 li rc_20 rn_20 ro_20 rdf_20 stf_20) H → va_D A (TSw cA a0 aR aM aW aP aS aC aO nW nE R ff_20 usf_20 Pf_20 Sf_20 scf_20 li rc_20 rn_20 ro_20 rdf_20 stf_20) → va_S A s.heap H locs → lv_has ls 6 [(0, .ref aM), (1, .ref aR), (2, .ref aR), (3, .int y3_20), (4, .int x4_20)] → wqM_settle_20 nW nE R y3_20 ff_20 usf_20 Pf_20 Sf_20 scf_20 rdf_20 stf_20 post kx n x4_20 rc_20 rn_20 ro_20 → W p l e (headSpec ws_M_settle ({ frames := 4, cells := 0, slots := 0, locals := 87 })).room s m ([.ref aM, .ref aR] : List Value).toArray below meth c H locs 0 0 (MQ below (va_Qv (fun u : (Nat → Int32) × Int32 × (Nat → Int32) × (Nat → Int32) × Int32 × (Nat → Int32) × Int32 × (Nat → Int32) × Int32 × Int32 => post u.1 u.2.1 u.2.2.1 u.2.2.2.1 u.2.2.2.2.1 u.2.2.2.2.2.1 u.2.2.2.2.2.2.1 u.2.2.2.2.2.2.2.1 u.2.2.2.2.2.2.2.2.1 u.2.2.2.2.2.2.2.2.2) (rw_B (dC, dI) vwCl [(cA, .int)] A (fun u : (Nat → Int32) × Int32 × (Nat → Int32) × (Nat → Int32) × Int32 × (Nat → Int32) × Int32 × (Nat → Int32) × Int32 × Int32 => TSw cA a0 aR aM aW aP aS aC aO nW nE R u.1 u.2.1 u.2.2.1 u.2.2.2.1 u.2.2.2.2.1 li u.2.2.2.2.2.1 u.2.2.2.2.2.2.1 u.2.2.2.2.2.2.2.1 u.2.2.2.2.2.2.2.2.1 u.2.2.2.2.2.2.2.2.2)) A) ([.ref aM, .ref aR] : List Value).toArray s 0 0 A) (F0 m 20 ls []) := by
    intro y3_20 ff_20 usf_20 Pf_20 Sf_20 scf_20 rdf_20 stf_20 kx K n
    induction n with
    | zero => intro x4_20 rc_20 rn_20 ro_20 H locs ls hP hD hS hl h; exact h.elim
    | succ n ih =>
      intro x4_20 rc_20 rn_20 ro_20 H locs ls hP hD hS hl h
      refine lv_iload hx hb d_M_settle_20 (lv_at hl 4 rfl) ?_
      refine lv_iload_n hx hb d_M_settle_22 rfl (lv_at hl 3 rfl) ?_
      refine lv_icmp_ge (tgt := 44) hx hb d_M_settle_23 (by decide) (fun c_23 => ?_) (fun c_23 => ?_)
      · have h := h.1 c_23
        exact K x4_20 rc_20 rn_20 ro_20 H locs ls hP hD hS (lv_sub hl [0, 1, 2, 3, 4] rfl) h
      · have h := h.2 c_23
        refine lv_aload_n hx hb d_M_settle_26 rfl (lv_at hl 2 rfl) ?_
        refine lv_iload hx hb d_M_settle_27 (lv_at hl 4 rfl) ?_
        refine va_iald hx hb hK hP 1 0 rfl rfl h.1 d_M_settle_29 ?_
        have h := h.2
        refine lv_istore (lv' := [(5, .int (R x4_20.toNatClampNeg)), (0, .ref aM), (1, .ref aR), (2, .ref aR), (3, .int y3_20), (4, .int x4_20)]) hx hb d_M_settle_30 hl (by decide) rfl (fun ls hl => ?_)
        refine lv_aload_n hx hb d_M_settle_32 rfl (lv_at hl 1 rfl) ?_
        refine lv_iload hx hb d_M_settle_33 (lv_at hl 0 rfl) ?_
        have hFc := va_free (wc := TSw cA a0 aR aM aW aP aS aC aO nW nE R ff_20 usf_20 Pf_20 Sf_20 scf_20 li rc_20 rn_20 ro_20 rdf_20 stf_20) hD hS hA [0, 1, 2, 3, 4, 5, 6, 7] rfl
        refine va_callv (va_runV (As := [.int (R x4_20.toNatClampNeg)]) (rest := []) ⟨hx, hb, hml, hown, hw⟩ (mM_reach l dC dI cA a0 aR aM aW aP aS aC aO nW nE H.size R ff_20 usf_20 Pf_20 Sf_20 scf_20 li rc_20 rn_20 ro_20 rdf_20 stf_20 (R x4_20.toNatClampNeg) _ h) (cwV 1 hw g_M_102 rfl rfl rfl (by decide +kernel) ⟨Nat.le_of_ble_eq_true rfl, Nat.le_of_ble_eq_true rfl⟩) (rw_PV (ci := 1) (q0 := 2) hK hP hD rfl rfl) rfl rfl hl.1 rfl (lv_room (Nat.le_of_ble_eq_true rfl)) d_M_settle_35 ⟨Nat.le_of_ble_eq_true rfl, Nat.le_of_ble_eq_true rfl⟩) hS (fun q _ h => hFc q h) hFc (fun u t H locs ht hvm h hB hz1 hk1 hS => ?_)
        obtain ⟨rc_35, rn_35, ro_35⟩ := u
        obtain ⟨hP, hK1, hD1⟩ := hB
        rw [ht] at hP
        have hD := hD1.weaken (fun _ _ _ q => hFc _ q)
        clear hFc hD1 hK1
        try dsimp only at h
        have hP : va_P (dC, dI) vwCl (TSw cA a0 aR aM aW aP aS aC aO nW nE R ff_20 usf_20 Pf_20 Sf_20 scf_20 li rc_35 rn_35 ro_35 rdf_20 stf_20) H := hP
        have hD : va_D A (TSw cA a0 aR aM aW aP aS aC aO nW nE R ff_20 usf_20 Pf_20 Sf_20 scf_20 li rc_35 rn_35 ro_35 rdf_20 stf_20) := hD
        refine lv_iinc (v := x4_20 + (1 : Int32)) (lv' := [(4, .int (x4_20 + (1 : Int32))), (5, .int (R x4_20.toNatClampNeg)), (0, .ref aM), (1, .ref aR), (2, .ref aR), (3, .int y3_20)]) hx hb d_M_settle_38 hl (k := 5) rfl rfl (by decide) rfl (fun ls hl => ?_)
        refine lv_goto (tgt := 20) hx hb d_M_settle_41 (by decide) ?_
        exact ih (x4_20 + (1 : Int32)) rc_35 rn_35 ro_35 H locs ls hP hD hS (lv_sub hl [2, 3, 4, 5, 0] rfl) h
  unfold wqM_settle at h
  refine lv_aload_n hx hb d_M_settle_0 rfl (lv_at hl 0 rfl) ?_
  refine va_get (D := (dC, dI)) (ci := 1) (v := .int st) (C := R_M) (T := T_M) (N := 11) hx hb hw in_M hown hK hP 2 rfl rfl 10 (by decide) (hw _ wd_73) (fun _ h9 => h9) rfl d_M_settle_1 ?_
  refine lv_if_eq (tgt := 8) hx hb d_M_settle_4 (by decide) (fun c_4 => ?_) (fun c_4 => ?_)
  · have h := h.1 c_4
    refine lv_aload_n hx hb d_M_settle_8 rfl (lv_at hl 0 rfl) ?_
    have hFc := va_free (wc := TSw cA a0 aR aM aW aP aS aC aO nW nE R f us P S sc li rc rn ro rd st) hD hS hA [0, 1, 2, 3, 4, 5, 6, 7] rfl
    refine va_callv (va_runV (As := []) (rest := []) ⟨hx, hb, hml, hown, hw⟩ (mM_startRound l dC dI cA a0 aR aM aW aP aS aC aO nW nE s.heap.size R f us P S sc li rc rn ro rd st _ h) (cwV 0 hw g_M_99 rfl rfl rfl (by decide +kernel) ⟨Nat.le_of_ble_eq_true rfl, Nat.le_of_ble_eq_true rfl⟩) (rw_PV (ci := 1) (q0 := 2) hK hP hD rfl rfl) rfl rfl hl.1 rfl (lv_room (Nat.le_of_ble_eq_true rfl)) d_M_settle_9 ⟨Nat.le_of_ble_eq_true rfl, Nat.le_of_ble_eq_true rfl⟩) hS (fun q _ h => hFc q h) hFc (fun u t H locs ht hvm h hB hz1 hk1 hS => ?_)
    obtain ⟨rn_9, rd_9⟩ := u
    obtain ⟨hP, hK1, hD1⟩ := hB
    rw [ht] at hP
    have hD := hD1.weaken (fun _ _ _ q => hFc _ q)
    clear hFc hD1 hK1
    try dsimp only at h
    have hP : va_P (dC, dI) vwCl (TSw cA a0 aR aM aW aP aS aC aO nW nE R f us P S sc li rc rn_9 ro rd_9 st) H := hP
    have hD : va_D A (TSw cA a0 aR aM aW aP aS aC aO nW nE R f us P S sc li rc rn_9 ro rd_9 st) := hD
    refine lv_aload_n hx hb d_M_settle_12 rfl (lv_at hl 1 rfl) ?_
    refine lv_astore_n (lv' := [(2, .ref aR), (0, .ref aM), (1, .ref aR)]) hx hb d_M_settle_13 rfl hl (by decide) rfl (fun ls hl => ?_)
    refine lv_aload_n hx hb d_M_settle_14 rfl (lv_at hl 0 rfl) ?_
    refine va_alen (v := nI 32) hx hb hK hP 1 0 rfl rfl rfl d_M_settle_15 ?_
    refine lv_istore_n (lv' := [(3, .int (nI 32)), (2, .ref aR), (0, .ref aM), (1, .ref aR)]) hx hb d_M_settle_16 rfl hl (by decide) rfl (fun ls hl => ?_)
    refine lv_iconst (v := (0 : Int32)) hx hb d_M_settle_17 (by decide) ?_
    refine lv_istore (lv' := [(4, .int (0 : Int32)), (3, .int (nI 32)), (2, .ref aR), (0, .ref aM), (1, .ref aR)]) hx hb d_M_settle_18 hl (by decide) rfl (fun ls hl => ?_)
    obtain ⟨n_20, h⟩ := h
    refine lp_20 (nI 32) f us P S sc rd_9 st _ (fun z4_20 rce_20 rne_20 roe_20 H locs ls hP hD hS hl h => ?_) n_20 (0 : Int32) rc rn_9 ro H locs ls hP hD hS (lv_sub hl [3, 4, 2, 1, 0] rfl) h
    refine lv_aload_n hx hb d_M_settle_44 rfl (lv_at hl 0 rfl) ?_
    have hFc := va_free (wc := TSw cA a0 aR aM aW aP aS aC aO nW nE R f us P S sc li rce_20 rne_20 roe_20 rd_9 st) hD hS hA [0, 1, 2, 3, 4, 5, 6, 7] rfl
    refine va_callv (va_runV (As := []) (rest := []) ⟨hx, hb, hml, hown, hw⟩ (mM_spread l dC dI cA a0 aR aM aW aP aS aC aO nW nE H.size R f us P S sc li rce_20 rne_20 roe_20 rd_9 st _ h) (cwV 0 hw g_M_105 rfl rfl rfl (by decide +kernel) ⟨Nat.le_of_ble_eq_true rfl, Nat.le_of_ble_eq_true rfl⟩) (rw_PV (ci := 1) (q0 := 2) hK hP hD rfl rfl) rfl rfl hl.1 rfl (lv_room (Nat.le_of_ble_eq_true rfl)) d_M_settle_45 ⟨Nat.le_of_ble_eq_true rfl, Nat.le_of_ble_eq_true rfl⟩) hS (fun q _ h => hFc q h) hFc (fun u t H locs ht hvm h hB hz1 hk1 hS => ?_)
    obtain ⟨rc_45, rn_45, ro_45⟩ := u
    obtain ⟨hP, hK1, hD1⟩ := hB
    rw [ht] at hP
    have hD := hD1.weaken (fun _ _ _ q => hFc _ q)
    clear hFc hD1 hK1
    try dsimp only at h
    have hP : va_P (dC, dI) vwCl (TSw cA a0 aR aM aW aP aS aC aO nW nE R f us P S sc li rc_45 rn_45 ro_45 rd_9 st) H := hP
    have hD : va_D A (TSw cA a0 aR aM aW aP aS aC aO nW nE R f us P S sc li rc_45 rn_45 ro_45 rd_9 st) := hD
    refine lv_aload_n hx hb d_M_settle_48 rfl (lv_at hl 0 rfl) ?_
    have hFc := va_free (wc := TSw cA a0 aR aM aW aP aS aC aO nW nE R f us P S sc li rc_45 rn_45 ro_45 rd_9 st) hD hS hA [0, 1, 2, 3, 4, 5, 6, 7] rfl
    refine va_callv (va_runV (As := []) (rest := []) ⟨hx, hb, hml, hown, hw⟩ (mM_slide l dC dI cA a0 aR aM aW aP aS aC aO nW nE H.size R f us P S sc li rc_45 rn_45 ro_45 rd_9 st _ h) (cwV 0 hw g_M_108 rfl rfl rfl (by decide +kernel) ⟨Nat.le_of_ble_eq_true rfl, Nat.le_of_ble_eq_true rfl⟩) (rw_PV (ci := 1) (q0 := 2) hK hP hD rfl rfl) rfl rfl hl.1 rfl (lv_room (Nat.le_of_ble_eq_true rfl)) d_M_settle_49 ⟨Nat.le_of_ble_eq_true rfl, Nat.le_of_ble_eq_true rfl⟩) hS (fun q _ h => hFc q h) hFc (fun u t H locs ht hvm h hB hz1 hk1 hS => ?_)
    obtain ⟨f_49, us_49, P_49, S_49, sc_49⟩ := u
    obtain ⟨hP, hK1, hD1⟩ := hB
    rw [ht] at hP
    have hD := hD1.weaken (fun _ _ _ q => hFc _ q)
    clear hFc hD1 hK1
    try dsimp only at h
    have hP : va_P (dC, dI) vwCl (TSw cA a0 aR aM aW aP aS aC aO nW nE R f_49 us_49 P_49 S_49 sc_49 li rc_45 rn_45 ro_45 rd_9 st) H := hP
    have hD : va_D A (TSw cA a0 aR aM aW aP aS aC aO nW nE R f_49 us_49 P_49 S_49 sc_49 li rc_45 rn_45 ro_45 rd_9 st) := hD
    refine lv_aload_n hx hb d_M_settle_52 rfl (lv_at hl 0 rfl) ?_
    refine lv_iconst (v := (1 : Int32)) hx hb d_M_settle_53 (by decide) ?_
    refine va_put (D := (dC, dI)) (ci := 1) (v := .int (1 : Int32)) (ty := .boolean) (C := R_M) (T := T_M) (N := 11) hx hb hw in_M ty_M ty_M_ok nm_M hown hK hP hD hS 2 rfl rfl 10 (by decide) (hw _ wd_73) (fun _ h9 => h9) rfl (by decide +kernel) rfl rfl (Nat.le_of_ble_eq_true rfl) d_M_settle_54 (fun H locs hP hD hS => ?_)
    have hP : va_P (dC, dI) vwCl (TSw cA a0 aR aM aW aP aS aC aO nW nE R f_49 us_49 P_49 S_49 sc_49 li rc_45 rn_45 ro_45 rd_9 (1 : Int32)) H := hP
    have hD : va_D A (TSw cA a0 aR aM aW aP aS aC aO nW nE R f_49 us_49 P_49 S_49 sc_49 li rc_45 rn_45 ro_45 rd_9 (1 : Int32)) := hD
    exact W.vret hx hb hr9 (fun t ht hW => ⟨⟨(f_49, us_49, P_49, S_49, sc_49, rc_45, rn_45, ro_45, rd_9, (1 : Int32)), rfl, h, by rw [ht]; exact hP, va_K.moved hW.alike hK, hD⟩, hS.F ht⟩) hS.2.2 d_M_settle_57
  · have h := h.2 c_4
    exact W.vret hx hb hr9 (fun t ht hW => ⟨⟨(f, us, P, S, sc, rc, rn, ro, rd, st), rfl, h, by rw [ht]; exact hP, va_K.moved hW.alike hK, hD⟩, hS.F ht⟩) hS.2.2 d_M_settle_7
def wqM_leadsTo (nW : Nat) (nE : Nat) (f : Nat → Int32) (P : Nat → Int32) (rc : Nat → Int32) (rn : Int32) (ro : Nat → Int32) (rd : Int32) (a1 : Int32) (a2 : Int32) (post : Int32 → (Nat → Int32) → Int32 → (Nat → Int32) → Int32 → Prop) : Prop :=
  wqM_startRound nW nE rn rd (fun rn_1 rd_1 => wqM_reach nW nE rc rn_1 ro rd_1 a1 (fun rc_6 rn_6 ro_6 => wqM_spread nW nE f P rc_6 rn_6 ro_6 rd_1 (fun rc_10 rn_10 ro_10 => wqV_toEntry a2 (fun r15 => wqM_isReached nW nE ro_10 rd_1 r15 (fun r18 => narrow .boolean (.int r18) = .int r18 ∧ post r18 rc_10 rn_10 ro_10 rd_1)))))
set_option maxHeartbeats 4000000 in
set_option maxRecDepth 100000 in
theorem mM_leadsTo (l : Launch) (dC : Nat → ClassId) (dI : Nat → Nat → Nat) (cA : ClassId) (a0 : Nat) (aR : Nat) (aM : Nat) (aW : Nat) (aP : Nat) (aS : Nat) (aC : Nat) (aO : Nat) (nW : Nat) (nE : Nat) (sz : Nat) (R : Nat → Int32) (f : Nat → Int32) (us : Int32) (P : Nat → Int32) (S : Nat → Int32) (sc : Int32) (li : Int32) (rc : Nat → Int32) (rn : Int32) (ro : Nat → Int32) (rd : Int32) (st : Int32) (a1 : Int32) (a2 : Int32) (post : Int32 → (Nat → Int32) → Int32 → (Nat → Int32) → Int32 → Prop) (h : wqM_leadsTo nW nE f P rc rn ro rd a1 a2 post) : Met l y_M_leadsTo ws_M_leadsTo ({ frames := 4, cells := 0, slots := 0, locals := 87 }) (rw_P (dC, dI) vwCl (TSw cA a0 aR aM aW aP aS aC aO nW nE R f us P S sc li rc rn ro rd st) [(cA, .int)] sz [.ref aM, .int a1, .int a2]) (va_Qi (fun (r : Int32) (u : (Nat → Int32) × Int32 × (Nat → Int32) × Int32) => post r u.1 u.2.1 u.2.2.1 u.2.2.2) (rw_B (dC, dI) vwCl [(cA, .int)] (va_A (TSw cA a0 aR aM aW aP aS aC aO nW nE R f us P S sc li rc rn ro rd st) sz) (fun u : (Nat → Int32) × Int32 × (Nat → Int32) × Int32 => TSw cA a0 aR aM aW aP aS aC aO nW nE R f us P S sc li u.1 u.2.1 u.2.2.1 u.2.2.2 st)) (va_A (TSw cA a0 aR aM aW aP aS aC aO nW nE R f us P S sc li rc rn ro rd st) sz)) 0 0 (va_A (TSw cA a0 aR aM aW aP aS aC aO nW nE R f us P S sc li rc rn ro rd st) sz) := by
  refine Met.ofW (cc := c_M_leadsTo) (maxL := 3) (ret := (some .boolean)) (by decide) rfl ?_
  intro p e s m args below meth c s₁ B hml hv
  obtain ⟨rfl, hsz, hP, hK, hD0⟩ := hv
  have hx := B.exec
  have hb := B.bytes
  have hr9 := B.returns
  have hts := atoms_spec (ws := ws_M_leadsTo) B.pre
  have hw : ∀ w ∈ WB_, w.before _ s = true := fun w h => hts w (List.mem_cons_of_mem _ h)
  have hown : s.vm.findClass R_M = some m.cls := findClass_of_methodNamed B.named
  have hlocks := B.notSynchronized
  subst hsz
  have hD := hD0.self (sz := s.heap.size)
  generalize hAe : va_A (TSw cA a0 aR aM aW aP aS aC aO nW nE R f us P S sc li rc rn ro rd st) s.heap.size = A at hD ⊢
  have hA : ∀ q : Nat, s.heap.size ≤ q → A q := fun q h => by rw [← hAe]; exact Or.inr h
  have hS : va_S A s.heap s.heap [] := va_S.rf
  have hl := lv_entry ([.ref aM, .int a1, .int a2]) (n := 3) (Nat.le_of_ble_eq_true rfl)
  rw [lg_entry_eq]
  generalize (lg_sl ([.ref aM, .int a1, .int a2]) ++ List.replicate (3 - (lg_sl ([.ref aM, .int a1, .int a2])).length) Slot.unset).toArray = ls at hl ⊢
  have hl : lv_has ls 3 [(0, .ref aM), (1, .int a1), (2, .int a2)] := hl
  unfold wqM_leadsTo at h
  refine lv_aload_n hx hb d_M_leadsTo_0 rfl (lv_at hl 0 rfl) ?_
  have hFc := va_free (wc := TSw cA a0 aR aM aW aP aS aC aO nW nE R f us P S sc li rc rn ro rd st) hD hS hA [0, 1, 2, 3, 4, 5, 6, 7] rfl
  refine va_callv (va_runV (As := []) (rest := []) ⟨hx, hb, hml, hown, hw⟩ (mM_startRound l dC dI cA a0 aR aM aW aP aS aC aO nW nE s.heap.size R f us P S sc li rc rn ro rd st _ h) (cwV 0 hw g_M_99 rfl rfl rfl (by decide +kernel) ⟨Nat.le_of_ble_eq_true rfl, Nat.le_of_ble_eq_true rfl⟩) (rw_PV (ci := 1) (q0 := 2) hK hP hD rfl rfl) rfl rfl hl.1 rfl (lv_room (Nat.le_of_ble_eq_true rfl)) d_M_leadsTo_1 ⟨Nat.le_of_ble_eq_true rfl, Nat.le_of_ble_eq_true rfl⟩) hS (fun q _ h => hFc q h) hFc (fun u t H locs ht hvm h hB hz1 hk1 hS => ?_)
  obtain ⟨rn_1, rd_1⟩ := u
  obtain ⟨hP, hK1, hD1⟩ := hB
  rw [ht] at hP
  have hD := hD1.weaken (fun _ _ _ q => hFc _ q)
  clear hFc hD1 hK1
  try dsimp only at h
  have hP : va_P (dC, dI) vwCl (TSw cA a0 aR aM aW aP aS aC aO nW nE R f us P S sc li rc rn_1 ro rd_1 st) H := hP
  have hD : va_D A (TSw cA a0 aR aM aW aP aS aC aO nW nE R f us P S sc li rc rn_1 ro rd_1 st) := hD
  refine lv_aload_n hx hb d_M_leadsTo_4 rfl (lv_at hl 0 rfl) ?_
  refine lv_iload_n hx hb d_M_leadsTo_5 rfl (lv_at hl 1 rfl) ?_
  have hFc := va_free (wc := TSw cA a0 aR aM aW aP aS aC aO nW nE R f us P S sc li rc rn_1 ro rd_1 st) hD hS hA [0, 1, 2, 3, 4, 5, 6, 7] rfl
  refine va_callv (va_runV (As := [.int a1]) (rest := []) ⟨hx, hb, hml, hown, hw⟩ (mM_reach l dC dI cA a0 aR aM aW aP aS aC aO nW nE H.size R f us P S sc li rc rn_1 ro rd_1 st a1 _ h) (cwV 1 hw g_M_102 rfl rfl rfl (by decide +kernel) ⟨Nat.le_of_ble_eq_true rfl, Nat.le_of_ble_eq_true rfl⟩) (rw_PV (ci := 1) (q0 := 2) hK hP hD rfl rfl) rfl rfl hl.1 rfl (lv_room (Nat.le_of_ble_eq_true rfl)) d_M_leadsTo_6 ⟨Nat.le_of_ble_eq_true rfl, Nat.le_of_ble_eq_true rfl⟩) hS (fun q _ h => hFc q h) hFc (fun u t H locs ht hvm h hB hz1 hk1 hS => ?_)
  obtain ⟨rc_6, rn_6, ro_6⟩ := u
  obtain ⟨hP, hK1, hD1⟩ := hB
  rw [ht] at hP
  have hD := hD1.weaken (fun _ _ _ q => hFc _ q)
  clear hFc hD1 hK1
  try dsimp only at h
  have hP : va_P (dC, dI) vwCl (TSw cA a0 aR aM aW aP aS aC aO nW nE R f us P S sc li rc_6 rn_6 ro_6 rd_1 st) H := hP
  have hD : va_D A (TSw cA a0 aR aM aW aP aS aC aO nW nE R f us P S sc li rc_6 rn_6 ro_6 rd_1 st) := hD
  refine lv_aload_n hx hb d_M_leadsTo_9 rfl (lv_at hl 0 rfl) ?_
  have hFc := va_free (wc := TSw cA a0 aR aM aW aP aS aC aO nW nE R f us P S sc li rc_6 rn_6 ro_6 rd_1 st) hD hS hA [0, 1, 2, 3, 4, 5, 6, 7] rfl
  refine va_callv (va_runV (As := []) (rest := []) ⟨hx, hb, hml, hown, hw⟩ (mM_spread l dC dI cA a0 aR aM aW aP aS aC aO nW nE H.size R f us P S sc li rc_6 rn_6 ro_6 rd_1 st _ h) (cwV 0 hw g_M_105 rfl rfl rfl (by decide +kernel) ⟨Nat.le_of_ble_eq_true rfl, Nat.le_of_ble_eq_true rfl⟩) (rw_PV (ci := 1) (q0 := 2) hK hP hD rfl rfl) rfl rfl hl.1 rfl (lv_room (Nat.le_of_ble_eq_true rfl)) d_M_leadsTo_10 ⟨Nat.le_of_ble_eq_true rfl, Nat.le_of_ble_eq_true rfl⟩) hS (fun q _ h => hFc q h) hFc (fun u t H locs ht hvm h hB hz1 hk1 hS => ?_)
  obtain ⟨rc_10, rn_10, ro_10⟩ := u
  obtain ⟨hP, hK1, hD1⟩ := hB
  rw [ht] at hP
  have hD := hD1.weaken (fun _ _ _ q => hFc _ q)
  clear hFc hD1 hK1
  try dsimp only at h
  have hP : va_P (dC, dI) vwCl (TSw cA a0 aR aM aW aP aS aC aO nW nE R f us P S sc li rc_10 rn_10 ro_10 rd_1 st) H := hP
  have hD : va_D A (TSw cA a0 aR aM aW aP aS aC aO nW nE R f us P S sc li rc_10 rn_10 ro_10 rd_1 st) := hD
  refine lv_aload_n hx hb d_M_leadsTo_13 rfl (lv_at hl 0 rfl) ?_
  refine lv_iload_n hx hb d_M_leadsTo_14 rfl (lv_at hl 2 rfl) ?_
  refine rq_calli (W.runS (As := [.int a2]) (rest := [.ref aM]) ⟨hx, hb, hml, hown, hw⟩ (mV_toEntry l a2 _ h) (va_cwS 1 hw g_M_37 rfl rfl rfl (by decide +kernel) ⟨Nat.le_of_ble_eq_true rfl, Nat.le_of_ble_eq_true rfl⟩) preEq rfl rfl hl.1 rfl (lv_room (Nat.le_of_ble_eq_true rfl)) d_M_leadsTo_15 ⟨Nat.le_of_ble_eq_true rfl, Nat.le_of_ble_eq_true rfl⟩) (fun r15 h => ?_)
  refine rq_calli (W.runV (As := [.int r15]) (rest := []) ⟨hx, hb, hml, hown, hw⟩ (mM_isReached l dC dI cA a0 aR aM aW aP aS aC aO nW nE R f us P S sc li rc_10 rn_10 ro_10 rd_1 st r15 _ h) (cwV 1 hw g_M_111 rfl rfl rfl (by decide +kernel) ⟨Nat.le_of_ble_eq_true rfl, Nat.le_of_ble_eq_true rfl⟩) (ro_PV (ci := 1) (q0 := 2) hK hP rfl rfl) rfl rfl hl.1 rfl (lv_room (Nat.le_of_ble_eq_true rfl)) d_M_leadsTo_18 ⟨Nat.le_of_ble_eq_true rfl, Nat.le_of_ble_eq_true rfl⟩) (fun r18 h => ?_)
  exact W.zret (v := r18) (ty := .boolean) hx hb hr9 h.1 (fun t ht hW => ⟨⟨_, (rc_10, rn_10, ro_10, rd_1), rfl, h.2, by rw [ht]; exact hP, va_K.moved hW.alike hK, hD⟩, hS.F ht⟩) hS.2.2 d_M_leadsTo_21
def wqM_build_140 (nW : Nat) (nE : Nat) (R : Nat → Int32) (y1_140 : Int32) (y2_140 : Int32) (y4_140 : Int32) (y5_140 : Int32) (y6_140 : Int32) (usf_140 : Int32) (Pf_140 : Nat → Int32) (Sf_140 : Nat → Int32) (scf_140 : Int32) (lif_140 : Int32) (rcf_140 : Nat → Int32) (rnf_140 : Int32) (rof_140 : Nat → Int32) (rdf_140 : Int32) (stf_140 : Int32) (post : Int32 → (Nat → Int32) → Int32 → (Nat → Int32) → (Nat → Int32) → Int32 → Int32 → (Nat → Int32) → Int32 → (Nat → Int32) → Int32 → Int32 → Prop) (kx : Int32 → (Nat → Int32) → Prop) : Nat → Int32 → (Nat → Int32) → Prop
  | 0, _, _ => False
  | n + 1, x7_140, f_140 =>
    (usf_140 ≤ x7_140 → (kx x7_140 f_140)) ∧ (¬ (usf_140 ≤ x7_140) → (vp_in x7_140 nW ∧ (wqM_build_140 nW nE R y1_140 y2_140 y4_140 y5_140 y6_140 usf_140 Pf_140 Sf_140 scf_140 lif_140 rcf_140 rnf_140 rof_140 rdf_140 stf_140 post kx n (x7_140 + (1 : Int32)) (upd f_140 x7_140.toNatClampNeg (0 : Int32)))))
def wqM_build_22 (nW : Nat) (nE : Nat) (R : Nat → Int32) (y1_22 : Int32) (y2_22 : Int32) (y4_22 : Int32) (f_22 : Nat → Int32) (us_22 : Int32) (P_22 : Nat → Int32) (S_22 : Nat → Int32) (sc_22 : Int32) (li_22 : Int32) (rc_22 : Nat → Int32) (rn_22 : Int32) (ro_22 : Nat → Int32) (rd_22 : Int32) (st_22 : Int32) (post : Int32 → (Nat → Int32) → Int32 → (Nat → Int32) → (Nat → Int32) → Int32 → Int32 → (Nat → Int32) → Int32 → (Nat → Int32) → Int32 → Int32 → Prop) : Prop :=
  wqM_fits nW nE us_22 sc_22 y4_22 (fun r25 => (r25 = 0 → (post (0 : Int32) f_22 us_22 P_22 S_22 sc_22 li_22 rc_22 rn_22 ro_22 rd_22 st_22)) ∧ (¬ (r25 = 0) → (vp_in (sc_22 - (1 : Int32)) nE ∧ (vp_in (S_22 (sc_22 - (1 : Int32)).toNatClampNeg) nE ∧ (vp_in (us_22 + (0 : Int32)) nW ∧ (vp_in (us_22 + (1 : Int32)) nW ∧ (vp_in (us_22 + (2 : Int32)) nW ∧ (vp_in (us_22 + (3 : Int32)) nW ∧ (∃ k_140, wqM_build_140 nW nE R y1_22 y2_22 y4_22 (S_22 (sc_22 - (1 : Int32)).toNatClampNeg) us_22 (us_22 + y4_22) (upd P_22 (S_22 (sc_22 - (1 : Int32)).toNatClampNeg).toNatClampNeg us_22) S_22 (sc_22 - (1 : Int32)) (li_22 + (1 : Int32)) rc_22 rn_22 ro_22 rd_22 st_22 post (fun z7_140 fe_140 => wqV_ofEntry (S_22 (sc_22 - (1 : Int32)).toNatClampNeg) (fun r165 => post r165 fe_140 (us_22 + y4_22) (upd P_22 (S_22 (sc_22 - (1 : Int32)).toNatClampNeg).toNatClampNeg us_22) S_22 (sc_22 - (1 : Int32)) (li_22 + (1 : Int32)) rc_22 rn_22 ro_22 rd_22 st_22)) k_140 (us_22 + (4 : Int32)) (upd (upd (upd (upd f_22 (us_22 + (0 : Int32)).toNatClampNeg (S_22 (sc_22 - (1 : Int32)).toNatClampNeg)) (us_22 + (1 : Int32)).toNatClampNeg (li_22 + (1 : Int32))) (us_22 + (2 : Int32)).toNatClampNeg y1_22) (us_22 + (3 : Int32)).toNatClampNeg y2_22))))))))))
def wqM_build (nW : Nat) (nE : Nat) (R : Nat → Int32) (f : Nat → Int32) (us : Int32) (P : Nat → Int32) (S : Nat → Int32) (sc : Int32) (li : Int32) (rc : Nat → Int32) (rn : Int32) (ro : Nat → Int32) (rd : Int32) (st : Int32) (a1 : Int32) (a2 : Int32) (post : Int32 → (Nat → Int32) → Int32 → (Nat → Int32) → (Nat → Int32) → Int32 → Int32 → (Nat → Int32) → Int32 → (Nat → Int32) → Int32 → Int32 → Prop) : Prop :=
  wqM_bodyWords a2 (fun r2 => wqM_fits nW nE us sc ((4 : Int32) + r2) (fun r11 => (r11 = 0 → (wqM_settle nW nE R f us P S sc rc rn ro rd st (fun f_19 us_19 P_19 S_19 sc_19 rc_19 rn_19 ro_19 rd_19 st_19 => wqM_build_22 nW nE R a1 a2 ((4 : Int32) + r2) f_19 us_19 P_19 S_19 sc_19 li rc_19 rn_19 ro_19 rd_19 st_19 post))) ∧ (¬ (r11 = 0) → (wqM_build_22 nW nE R a1 a2 ((4 : Int32) + r2) f us P S sc li rc rn ro rd st post))))
set_option maxHeartbeats 4000000 in
set_option maxRecDepth 100000 in
theorem mM_build (l : Launch) (dC : Nat → ClassId) (dI : Nat → Nat → Nat) (cA : ClassId) (a0 : Nat) (aR : Nat) (aM : Nat) (aW : Nat) (aP : Nat) (aS : Nat) (aC : Nat) (aO : Nat) (nW : Nat) (nE : Nat) (sz : Nat) (R : Nat → Int32) (f : Nat → Int32) (us : Int32) (P : Nat → Int32) (S : Nat → Int32) (sc : Int32) (li : Int32) (rc : Nat → Int32) (rn : Int32) (ro : Nat → Int32) (rd : Int32) (st : Int32) (a1 : Int32) (a2 : Int32) (post : Int32 → (Nat → Int32) → Int32 → (Nat → Int32) → (Nat → Int32) → Int32 → Int32 → (Nat → Int32) → Int32 → (Nat → Int32) → Int32 → Int32 → Prop) (h : wqM_build nW nE R f us P S sc li rc rn ro rd st a1 a2 post) : Met l y_M_build ws_M_build ({ frames := 5, cells := 0, slots := 0, locals := 112 }) (rw_P (dC, dI) vwCl (TSw cA a0 aR aM aW aP aS aC aO nW nE R f us P S sc li rc rn ro rd st) [(cA, .int)] sz [.ref aM, .int a1, .int a2, .ref aR]) (va_Qi (fun (r : Int32) (u : (Nat → Int32) × Int32 × (Nat → Int32) × (Nat → Int32) × Int32 × Int32 × (Nat → Int32) × Int32 × (Nat → Int32) × Int32 × Int32) => post r u.1 u.2.1 u.2.2.1 u.2.2.2.1 u.2.2.2.2.1 u.2.2.2.2.2.1 u.2.2.2.2.2.2.1 u.2.2.2.2.2.2.2.1 u.2.2.2.2.2.2.2.2.1 u.2.2.2.2.2.2.2.2.2.1 u.2.2.2.2.2.2.2.2.2.2) (rw_B (dC, dI) vwCl [(cA, .int)] (va_A (TSw cA a0 aR aM aW aP aS aC aO nW nE R f us P S sc li rc rn ro rd st) sz) (fun u : (Nat → Int32) × Int32 × (Nat → Int32) × (Nat → Int32) × Int32 × Int32 × (Nat → Int32) × Int32 × (Nat → Int32) × Int32 × Int32 => TSw cA a0 aR aM aW aP aS aC aO nW nE R u.1 u.2.1 u.2.2.1 u.2.2.2.1 u.2.2.2.2.1 u.2.2.2.2.2.1 u.2.2.2.2.2.2.1 u.2.2.2.2.2.2.2.1 u.2.2.2.2.2.2.2.2.1 u.2.2.2.2.2.2.2.2.2.1 u.2.2.2.2.2.2.2.2.2.2)) (va_A (TSw cA a0 aR aM aW aP aS aC aO nW nE R f us P S sc li rc rn ro rd st) sz)) 0 0 (va_A (TSw cA a0 aR aM aW aP aS aC aO nW nE R f us P S sc li rc rn ro rd st) sz) := by
  refine Met.ofW (cc := c_M_build) (maxL := 8) (ret := (some .int)) (by decide) rfl ?_
  intro p e s m args below meth c s₁ B hml hv
  obtain ⟨rfl, hsz, hP, hK, hD0⟩ := hv
  have hx := B.exec
  have hb := B.bytes
  have hr9 := B.returns
  have hts := atoms_spec (ws := ws_M_build) B.pre
  have hw : ∀ w ∈ WB_, w.before _ s = true := fun w h => hts w (List.mem_cons_of_mem _ h)
  have hown : s.vm.findClass R_M = some m.cls := findClass_of_methodNamed B.named
  have hlocks := B.notSynchronized
  subst hsz
  have hD := hD0.self (sz := s.heap.size)
  generalize hAe : va_A (TSw cA a0 aR aM aW aP aS aC aO nW nE R f us P S sc li rc rn ro rd st) s.heap.size = A at hD ⊢
  have hA : ∀ q : Nat, s.heap.size ≤ q → A q := fun q h => by rw [← hAe]; exact Or.inr h
  have hS : va_S A s.heap s.heap [] := va_S.rf
  have hl := lv_entry ([.ref aM, .int a1, .int a2, .ref aR]) (n := 8) (Nat.le_of_ble_eq_true rfl)
  rw [lg_entry_eq]
  generalize (lg_sl ([.ref aM, .int a1, .int a2, .ref aR]) ++ List.replicate (8 - (lg_sl ([.ref aM, .int a1, .int a2, .ref aR])).length) Slot.unset).toArray = ls at hl ⊢
  have hl : lv_has ls 8 [(0, .ref aM), (1, .int a1), (2, .int a2), (3, .ref aR)] := hl
  have lp_140 : ∀ (y1_140 : Int32) (y2_140 : Int32) (y4_140 : Int32) (y5_140 : Int32) (y6_140 : Int32) (usf_140 : Int32) (Pf_140 : Nat → Int32) (Sf_140 : Nat → Int32) (scf_140 : Int32) (lif_140 : Int32) (rcf_140 : Nat → Int32) (rnf_140 : Int32) (rof_140 : Nat → Int32) (rdf_140 : Int32) (stf_140 : Int32) (kx : Int32 → (Nat → Int32) → Prop), (∀ (z7_140 : Int32) (fe_140 : Nat → Int32) (H : Heap) (locs : List Loc) (ls : Array Slot), va_P (dC, dI) vwCl (TSw cA a0 aR aM aW aP aS aC aO nW nE R fe_140 usf_140 Pf_140 Sf_140 scf_140 lif_140 rcf_140 rnf_140 rof_140 rdf_140 stf_140) H → va_D A (TSw cA a0 aR aM aW aP aS aC aO nW nE R fe_140 usf_140 Pf_140 Sf_140 scf_140 lif_140 rcf_140 rnf_140 rof_140 rdf_140 stf_140) → va_S A s.heap H locs → lv_has ls 8 [(0, .ref aM), (1, .int y1_140), (2, .int y2_140), (3, .ref aR), (4, .int y4_140), (5, .int y5_140), (6, .int y6_140), (7, .int z7_140)] → kx z7_140 fe_140 → W p l e (headSpec ws_M_build ({ frames := 5, cells := 0, slots := 0, locals := 112 })).room s m ([.ref aM, .int a1, .int a2, .ref aR] : List Value).toArray below meth c H locs 0 0 (MQ below (va_Qi (fun (r : Int32) (u : (Nat → Int32) × Int32 × (Nat → Int32) × (Nat → Int32) × Int32 × Int32 × (Nat → Int32) × Int32 × (Nat → Int32) × Int32 × Int32) => post r u.1 u.2.1 u.2.2.1 u.2.2.2.1 u.2.2.2.2.1 u.2.2.2.2.2.1 u.2.2.2.2.2.2.1 u.2.2.2.2.2.2.2.1 u.2.2.2.2.2.2.2.2.1 u.2.2.2.2.2.2.2.2.2.1 u.2.2.2.2.2.2.2.2.2.2) (rw_B (dC, dI) vwCl [(cA, .int)] A (fun u : (Nat → Int32) × Int32 × (Nat → Int32) × (Nat → Int32) × Int32 × Int32 × (Nat → Int32) × Int32 × (Nat → Int32) × Int32 × Int32 => TSw cA a0 aR aM aW aP aS aC aO nW nE R u.1 u.2.1 u.2.2.1 u.2.2.2.1 u.2.2.2.2.1 u.2.2.2.2.2.1 u.2.2.2.2.2.2.1 u.2.2.2.2.2.2.2.1 u.2.2.2.2.2.2.2.2.1 u.2.2.2.2.2.2.2.2.2.1 u.2.2.2.2.2.2.2.2.2.2)) A) ([.ref aM, .int a1, .int a2, .ref aR] : List Value).toArray s 0 0 A) (F0 m 163 ls [])) → ∀ (n : Nat) (x7_140 : Int32) (f_140 : Nat → Int32) (H : Heap) (locs : List Loc) (ls : Array Slot), va_P (dC, dI) vwCl (TSw cA a0 aR aM aW aP aS aC aO nW nE R f_140 usf_140 Pf_140 Sf_140 scf_140 lif_140 rcf_140 rnf_140 rof_140 rdf_140 stf_140) H → va_D A (TSw cA a0 aR aM aW aP aS aC aO nW nE R f_140 usf_140 Pf_140 Sf_140 scf_140 lif_140 rcf_140 rnf_140 rof_140 rdf_140 stf_140) → va_S A s.heap H locs → lv_has ls 8 [(0, .ref aM), (1, .int y1_140), (2, .int y2_140), (3, .ref aR), (4, .int y4_140), (5, .int y5_140), (6, .int y6_140), (7, .int x7_140)] → wqM_build_140 nW nE R y1_140 y2_140 y4_140 y5_140 y6_140 usf_140 Pf_140 Sf_140 scf_140 lif_140 rcf_140 rnf_140 rof_140 rdf_140 stf_140 post kx n x7_140 f_140 → W p l e (headSpec ws_M_build ({ frames := 5, cells := 0, slots := 0, locals := 112 })).room s m ([.ref aM, .int a1, .int a2, .ref aR] : List Value).toArray below meth c H locs 0 0 (MQ below (va_Qi (fun (r : Int32) (u : (Nat → Int32) × Int32 × (Nat → Int32) × (Nat → Int32) × Int32 × Int32 × (Nat → Int32) × Int32 × (Nat → Int32) × Int32 × Int32) => post r u.1 u.2.1 u.2.2.1 u.2.2.2.1 u.2.2.2.2.1 u.2.2.2.2.2.1 u.2.2.2.2.2.2.1 u.2.2.2.2.2.2.2.1 u.2.2.2.2.2.2.2.2.1 u.2.2.2.2.2.2.2.2.2.1 u.2.2.2.2.2.2.2.2.2.2) (rw_B (dC, dI) vwCl [(cA, .int)] A (fun u : (Nat → Int32) × Int32 × (Nat → Int32) × (Nat → Int32) × Int32 × Int32 × (Nat → Int32) × Int32 × (Nat → Int32) × Int32 × Int32 => TSw cA a0 aR aM aW aP aS aC aO nW nE R u.1 u.2.1 u.2.2.1 u.2.2.2.1 u.2.2.2.2.1 u.2.2.2.2.2.1 u.2.2.2.2.2.2.1 u.2.2.2.2.2.2.2.1 u.2.2.2.2.2.2.2.2.1 u.2.2.2.2.2.2.2.2.2.1 u.2.2.2.2.2.2.2.2.2.2)) A) ([.ref aM, .int a1, .int a2, .ref aR] : List Value).toArray s 0 0 A) (F0 m 140 ls []) := by
    intro y1_140 y2_140 y4_140 y5_140 y6_140 usf_140 Pf_140 Sf_140 scf_140 lif_140 rcf_140 rnf_140 rof_140 rdf_140 stf_140 kx K n
    induction n with
    | zero => intro x7_140 f_140 H locs ls hP hD hS hl h; exact h.elim
    | succ n ih =>
      intro x7_140 f_140 H locs ls hP hD hS hl h
      refine lv_iload hx hb d_M_build_140 (lv_at hl 7 rfl) ?_
      refine lv_aload_n hx hb d_M_build_142 rfl (lv_at hl 0 rfl) ?_
      refine va_get (D := (dC, dI)) (ci := 1) (v := .int usf_140) (C := R_M) (T := T_M) (N := 11) hx hb hw in_M hown hK hP 2 rfl rfl 1 (by decide) (hw _ wd_64) (fun _ h9 => h9) rfl d_M_build_143 ?_
      refine lv_icmp_ge (tgt := 163) hx hb d_M_build_146 (by decide) (fun c_146 => ?_) (fun c_146 => ?_)
      · have h := h.1 c_146
        exact K x7_140 f_140 H locs ls hP hD hS (lv_sub hl [0, 1, 2, 3, 4, 5, 6, 7] rfl) h
      · have h := h.2 c_146
        refine lv_aload_n hx hb d_M_build_149 rfl (lv_at hl 0 rfl) ?_
        refine va_get (D := (dC, dI)) (ci := 1) (v := .ref aW) (C := R_M) (T := T_M) (N := 11) hx hb hw in_M hown hK hP 2 rfl rfl 0 (by decide) (hw _ wd_63) (fun _ h9 => h9) rfl d_M_build_150 ?_
        refine lv_iload hx hb d_M_build_153 (lv_at hl 7 rfl) ?_
        refine lv_iconst (v := (0 : Int32)) hx hb d_M_build_155 (by decide) ?_
        refine va_iast hx hb hK hP hD hS 3 0 rfl rfl h.1 d_M_build_156 (fun H locs hP hD hS => ?_)
        have hP : va_P (dC, dI) vwCl (TSw cA a0 aR aM aW aP aS aC aO nW nE R (upd f_140 x7_140.toNatClampNeg (0 : Int32)) usf_140 Pf_140 Sf_140 scf_140 lif_140 rcf_140 rnf_140 rof_140 rdf_140 stf_140) H := hP
        have hD : va_D A (TSw cA a0 aR aM aW aP aS aC aO nW nE R (upd f_140 x7_140.toNatClampNeg (0 : Int32)) usf_140 Pf_140 Sf_140 scf_140 lif_140 rcf_140 rnf_140 rof_140 rdf_140 stf_140) := hD
        have h := h.2
        refine lv_iinc (v := x7_140 + (1 : Int32)) (lv' := [(7, .int (x7_140 + (1 : Int32))), (0, .ref aM), (1, .int y1_140), (2, .int y2_140), (3, .ref aR), (4, .int y4_140), (5, .int y5_140), (6, .int y6_140)]) hx hb d_M_build_157 hl (k := 7) rfl rfl (by decide) rfl (fun ls hl => ?_)
        refine lv_goto (tgt := 140) hx hb d_M_build_160 (by decide) ?_
        exact ih (x7_140 + (1 : Int32)) (upd f_140 x7_140.toNatClampNeg (0 : Int32)) H locs ls hP hD hS (lv_sub hl [1, 2, 3, 4, 5, 6, 7, 0] rfl) h
  have lp_22 : ∀ (y1_22 : Int32) (y2_22 : Int32) (y4_22 : Int32) (f_22 : Nat → Int32) (us_22 : Int32) (P_22 : Nat → Int32) (S_22 : Nat → Int32) (sc_22 : Int32) (li_22 : Int32) (rc_22 : Nat → Int32) (rn_22 : Int32) (ro_22 : Nat → Int32) (rd_22 : Int32) (st_22 : Int32) (H : Heap) (locs : List Loc) (ls : Array Slot), va_P (dC, dI) vwCl (TSw cA a0 aR aM aW aP aS aC aO nW nE R f_22 us_22 P_22 S_22 sc_22 li_22 rc_22 rn_22 ro_22 rd_22 st_22) H → va_D A (TSw cA a0 aR aM aW aP aS aC aO nW nE R f_22 us_22 P_22 S_22 sc_22 li_22 rc_22 rn_22 ro_22 rd_22 st_22) → va_S A s.heap H locs → lv_has ls 8 [(0, .ref aM), (1, .int y1_22), (2, .int y2_22), (3, .ref aR), (4, .int y4_22)] → wqM_build_22 nW nE R y1_22 y2_22 y4_22 f_22 us_22 P_22 S_22 sc_22 li_22 rc_22 rn_22 ro_22 rd_22 st_22 post → W p l e (headSpec ws_M_build ({ frames := 5, cells := 0, slots := 0, locals := 112 })).room s m ([.ref aM, .int a1, .int a2, .ref aR] : List Value).toArray below meth c H locs 0 0 (MQ below (va_Qi (fun (r : Int32) (u : (Nat → Int32) × Int32 × (Nat → Int32) × (Nat → Int32) × Int32 × Int32 × (Nat → Int32) × Int32 × (Nat → Int32) × Int32 × Int32) => post r u.1 u.2.1 u.2.2.1 u.2.2.2.1 u.2.2.2.2.1 u.2.2.2.2.2.1 u.2.2.2.2.2.2.1 u.2.2.2.2.2.2.2.1 u.2.2.2.2.2.2.2.2.1 u.2.2.2.2.2.2.2.2.2.1 u.2.2.2.2.2.2.2.2.2.2) (rw_B (dC, dI) vwCl [(cA, .int)] A (fun u : (Nat → Int32) × Int32 × (Nat → Int32) × (Nat → Int32) × Int32 × Int32 × (Nat → Int32) × Int32 × (Nat → Int32) × Int32 × Int32 => TSw cA a0 aR aM aW aP aS aC aO nW nE R u.1 u.2.1 u.2.2.1 u.2.2.2.1 u.2.2.2.2.1 u.2.2.2.2.2.1 u.2.2.2.2.2.2.1 u.2.2.2.2.2.2.2.1 u.2.2.2.2.2.2.2.2.1 u.2.2.2.2.2.2.2.2.2.1 u.2.2.2.2.2.2.2.2.2.2)) A) ([.ref aM, .int a1, .int a2, .ref aR] : List Value).toArray s 0 0 A) (F0 m 22 ls []) := by
    intro y1_22 y2_22 y4_22 f_22 us_22 P_22 S_22 sc_22 li_22 rc_22 rn_22 ro_22 rd_22 st_22 H locs ls hP hD hS hl h
    unfold wqM_build_22 at h
    refine lv_aload_n hx hb d_M_build_22 rfl (lv_at hl 0 rfl) ?_
    refine lv_iload hx hb d_M_build_23 (lv_at hl 4 rfl) ?_
    refine rq_calli (W.runV (As := [.int y4_22]) (rest := []) ⟨hx, hb, hml, hown, hw⟩ (mM_fits l dC dI cA a0 aR aM aW aP aS aC aO nW nE R f_22 us_22 P_22 S_22 sc_22 li_22 rc_22 rn_22 ro_22 rd_22 st_22 y4_22 _ h) (cwV 1 hw g_M_66 rfl rfl rfl (by decide +kernel) ⟨Nat.le_of_ble_eq_true rfl, Nat.le_of_ble_eq_true rfl⟩) (ro_PV (ci := 1) (q0 := 2) hK hP rfl rfl) rfl rfl hl.1 rfl (lv_room (Nat.le_of_ble_eq_true rfl)) d_M_build_25 ⟨Nat.le_of_ble_eq_true rfl, Nat.le_of_ble_eq_true rfl⟩) (fun r25 h => ?_)
    refine lv_if_ne (tgt := 33) hx hb d_M_build_28 (by decide) (fun c_28 => ?_) (fun c_28 => ?_)
    · have h := h.2 c_28
      refine lv_aload_n hx hb d_M_build_33 rfl (lv_at hl 0 rfl) ?_
      refine lv_dup hx hb d_M_build_34 rfl ?_
      refine va_get (D := (dC, dI)) (ci := 1) (v := .int sc_22) (C := R_M) (T := T_M) (N := 11) hx hb hw in_M hown hK hP 2 rfl rfl 4 (by decide) (hw _ wd_67) (fun _ h9 => h9) rfl d_M_build_35 ?_
      refine lv_iconst (v := (1 : Int32)) hx hb d_M_build_38 (by decide) ?_
      refine lv_isub hx hb d_M_build_39 ?_
      refine va_put (D := (dC, dI)) (ci := 1) (v := .int (sc_22 - (1 : Int32))) (ty := .int) (C := R_M) (T := T_M) (N := 11) hx hb hw in_M ty_M ty_M_ok nm_M hown hK hP hD hS 2 rfl rfl 4 (by decide) (hw _ wd_67) (fun _ h9 => h9) rfl (by decide +kernel) rfl rfl (Nat.le_of_ble_eq_true rfl) d_M_build_40 (fun H locs hP hD hS => ?_)
      have hP : va_P (dC, dI) vwCl (TSw cA a0 aR aM aW aP aS aC aO nW nE R f_22 us_22 P_22 S_22 (sc_22 - (1 : Int32)) li_22 rc_22 rn_22 ro_22 rd_22 st_22) H := hP
      have hD : va_D A (TSw cA a0 aR aM aW aP aS aC aO nW nE R f_22 us_22 P_22 S_22 (sc_22 - (1 : Int32)) li_22 rc_22 rn_22 ro_22 rd_22 st_22) := hD
      refine lv_aload_n hx hb d_M_build_43 rfl (lv_at hl 0 rfl) ?_
      refine va_get (D := (dC, dI)) (ci := 1) (v := .ref aS) (C := R_M) (T := T_M) (N := 11) hx hb hw in_M hown hK hP 2 rfl rfl 3 (by decide) (hw _ wd_66) (fun _ h9 => h9) rfl d_M_build_44 ?_
      refine lv_aload_n hx hb d_M_build_47 rfl (lv_at hl 0 rfl) ?_
      refine va_get (D := (dC, dI)) (ci := 1) (v := .int (sc_22 - (1 : Int32))) (C := R_M) (T := T_M) (N := 11) hx hb hw in_M hown hK hP 2 rfl rfl 4 (by decide) (hw _ wd_67) (fun _ h9 => h9) rfl d_M_build_48 ?_
      refine va_iald hx hb hK hP 5 0 rfl rfl h.1 d_M_build_51 ?_
      have h := h.2
      refine lv_istore (lv' := [(5, .int (S_22 (sc_22 - (1 : Int32)).toNatClampNeg)), (0, .ref aM), (1, .int y1_22), (2, .int y2_22), (3, .ref aR), (4, .int y4_22)]) hx hb d_M_build_52 hl (by decide) rfl (fun ls hl => ?_)
      refine lv_aload_n hx hb d_M_build_54 rfl (lv_at hl 1 rfl) ?_
      refine va_get (D := (dC, dI)) (ci := 1) (v := .int us_22) (C := R_M) (T := T_M) (N := 11) hx hb hw in_M hown hK hP 2 rfl rfl 1 (by decide) (hw _ wd_64) (fun _ h9 => h9) rfl d_M_build_55 ?_
      refine lv_istore (lv' := [(6, .int us_22), (5, .int (S_22 (sc_22 - (1 : Int32)).toNatClampNeg)), (0, .ref aM), (1, .int y1_22), (2, .int y2_22), (3, .ref aR), (4, .int y4_22)]) hx hb d_M_build_58 hl (by decide) rfl (fun ls hl => ?_)
      refine lv_aload_n hx hb d_M_build_60 rfl (lv_at hl 2 rfl) ?_
      refine lv_dup hx hb d_M_build_61 rfl ?_
      refine va_get (D := (dC, dI)) (ci := 1) (v := .int us_22) (C := R_M) (T := T_M) (N := 11) hx hb hw in_M hown hK hP 2 rfl rfl 1 (by decide) (hw _ wd_64) (fun _ h9 => h9) rfl d_M_build_62 ?_
      refine lv_iload hx hb d_M_build_65 (lv_at hl 6 rfl) ?_
      refine lv_iadd hx hb d_M_build_67 ?_
      refine va_put (D := (dC, dI)) (ci := 1) (v := .int (us_22 + y4_22)) (ty := .int) (C := R_M) (T := T_M) (N := 11) hx hb hw in_M ty_M ty_M_ok nm_M hown hK hP hD hS 2 rfl rfl 1 (by decide) (hw _ wd_64) (fun _ h9 => h9) rfl (by decide +kernel) rfl rfl (Nat.le_of_ble_eq_true rfl) d_M_build_68 (fun H locs hP hD hS => ?_)
      have hP : va_P (dC, dI) vwCl (TSw cA a0 aR aM aW aP aS aC aO nW nE R f_22 (us_22 + y4_22) P_22 S_22 (sc_22 - (1 : Int32)) li_22 rc_22 rn_22 ro_22 rd_22 st_22) H := hP
      have hD : va_D A (TSw cA a0 aR aM aW aP aS aC aO nW nE R f_22 (us_22 + y4_22) P_22 S_22 (sc_22 - (1 : Int32)) li_22 rc_22 rn_22 ro_22 rd_22 st_22) := hD
      refine lv_aload_n hx hb d_M_build_71 rfl (lv_at hl 2 rfl) ?_
      refine lv_dup hx hb d_M_build_72 rfl ?_
      refine va_get (D := (dC, dI)) (ci := 1) (v := .int li_22) (C := R_M) (T := T_M) (N := 11) hx hb hw in_M hown hK hP 2 rfl rfl 5 (by decide) (hw _ wd_68) (fun _ h9 => h9) rfl d_M_build_73 ?_
      refine lv_iconst (v := (1 : Int32)) hx hb d_M_build_76 (by decide) ?_
      refine lv_iadd hx hb d_M_build_77 ?_
      refine va_put (D := (dC, dI)) (ci := 1) (v := .int (li_22 + (1 : Int32))) (ty := .int) (C := R_M) (T := T_M) (N := 11) hx hb hw in_M ty_M ty_M_ok nm_M hown hK hP hD hS 2 rfl rfl 5 (by decide) (hw _ wd_68) (fun _ h9 => h9) rfl (by decide +kernel) rfl rfl (Nat.le_of_ble_eq_true rfl) d_M_build_78 (fun H locs hP hD hS => ?_)
      have hP : va_P (dC, dI) vwCl (TSw cA a0 aR aM aW aP aS aC aO nW nE R f_22 (us_22 + y4_22) P_22 S_22 (sc_22 - (1 : Int32)) (li_22 + (1 : Int32)) rc_22 rn_22 ro_22 rd_22 st_22) H := hP
      have hD : va_D A (TSw cA a0 aR aM aW aP aS aC aO nW nE R f_22 (us_22 + y4_22) P_22 S_22 (sc_22 - (1 : Int32)) (li_22 + (1 : Int32)) rc_22 rn_22 ro_22 rd_22 st_22) := hD
      refine lv_aload_n hx hb d_M_build_81 rfl (lv_at hl 2 rfl) ?_
      refine va_get (D := (dC, dI)) (ci := 1) (v := .ref aP) (C := R_M) (T := T_M) (N := 11) hx hb hw in_M hown hK hP 2 rfl rfl 2 (by decide) (hw _ wd_65) (fun _ h9 => h9) rfl d_M_build_82 ?_
      refine lv_iload hx hb d_M_build_85 (lv_at hl 1 rfl) ?_
      refine lv_iload hx hb d_M_build_87 (lv_at hl 0 rfl) ?_
      refine va_iast hx hb hK hP hD hS 4 0 rfl rfl h.1 d_M_build_89 (fun H locs hP hD hS => ?_)
      have hP : va_P (dC, dI) vwCl (TSw cA a0 aR aM aW aP aS aC aO nW nE R f_22 (us_22 + y4_22) (upd P_22 (S_22 (sc_22 - (1 : Int32)).toNatClampNeg).toNatClampNeg us_22) S_22 (sc_22 - (1 : Int32)) (li_22 + (1 : Int32)) rc_22 rn_22 ro_22 rd_22 st_22) H := hP
      have hD : va_D A (TSw cA a0 aR aM aW aP aS aC aO nW nE R f_22 (us_22 + y4_22) (upd P_22 (S_22 (sc_22 - (1 : Int32)).toNatClampNeg).toNatClampNeg us_22) S_22 (sc_22 - (1 : Int32)) (li_22 + (1 : Int32)) rc_22 rn_22 ro_22 rd_22 st_22) := hD
      have h := h.2
      refine lv_aload_n hx hb d_M_build_90 rfl (lv_at hl 2 rfl) ?_
      refine va_get (D := (dC, dI)) (ci := 1) (v := .ref aW) (C := R_M) (T := T_M) (N := 11) hx hb hw in_M hown hK hP 2 rfl rfl 0 (by decide) (hw _ wd_63) (fun _ h9 => h9) rfl d_M_build_91 ?_
      refine lv_iload hx hb d_M_build_94 (lv_at hl 0 rfl) ?_
      refine lv_iconst (v := (0 : Int32)) hx hb d_M_build_96 (by decide) ?_
      refine lv_iadd hx hb d_M_build_97 ?_
      refine lv_iload hx hb d_M_build_98 (lv_at hl 1 rfl) ?_
      refine va_iast hx hb hK hP hD hS 3 0 rfl rfl h.1 d_M_build_100 (fun H locs hP hD hS => ?_)
      have hP : va_P (dC, dI) vwCl (TSw cA a0 aR aM aW aP aS aC aO nW nE R (upd f_22 (us_22 + (0 : Int32)).toNatClampNeg (S_22 (sc_22 - (1 : Int32)).toNatClampNeg)) (us_22 + y4_22) (upd P_22 (S_22 (sc_22 - (1 : Int32)).toNatClampNeg).toNatClampNeg us_22) S_22 (sc_22 - (1 : Int32)) (li_22 + (1 : Int32)) rc_22 rn_22 ro_22 rd_22 st_22) H := hP
      have hD : va_D A (TSw cA a0 aR aM aW aP aS aC aO nW nE R (upd f_22 (us_22 + (0 : Int32)).toNatClampNeg (S_22 (sc_22 - (1 : Int32)).toNatClampNeg)) (us_22 + y4_22) (upd P_22 (S_22 (sc_22 - (1 : Int32)).toNatClampNeg).toNatClampNeg us_22) S_22 (sc_22 - (1 : Int32)) (li_22 + (1 : Int32)) rc_22 rn_22 ro_22 rd_22 st_22) := hD
      have h := h.2
      refine lv_aload_n hx hb d_M_build_101 rfl (lv_at hl 2 rfl) ?_
      refine va_get (D := (dC, dI)) (ci := 1) (v := .ref aW) (C := R_M) (T := T_M) (N := 11) hx hb hw in_M hown hK hP 2 rfl rfl 0 (by decide) (hw _ wd_63) (fun _ h9 => h9) rfl d_M_build_102 ?_
      refine lv_iload hx hb d_M_build_105 (lv_at hl 0 rfl) ?_
      refine lv_iconst (v := (1 : Int32)) hx hb d_M_build_107 (by decide) ?_
      refine lv_iadd hx hb d_M_build_108 ?_
      refine lv_aload_n hx hb d_M_build_109 rfl (lv_at hl 2 rfl) ?_
      refine va_get (D := (dC, dI)) (ci := 1) (v := .int (li_22 + (1 : Int32))) (C := R_M) (T := T_M) (N := 11) hx hb hw in_M hown hK hP 2 rfl rfl 5 (by decide) (hw _ wd_68) (fun _ h9 => h9) rfl d_M_build_110 ?_
      refine va_iast hx hb hK hP hD hS 3 0 rfl rfl h.1 d_M_build_113 (fun H locs hP hD hS => ?_)
      have hP : va_P (dC, dI) vwCl (TSw cA a0 aR aM aW aP aS aC aO nW nE R (upd (upd f_22 (us_22 + (0 : Int32)).toNatClampNeg (S_22 (sc_22 - (1 : Int32)).toNatClampNeg)) (us_22 + (1 : Int32)).toNatClampNeg (li_22 + (1 : Int32))) (us_22 + y4_22) (upd P_22 (S_22 (sc_22 - (1 : Int32)).toNatClampNeg).toNatClampNeg us_22) S_22 (sc_22 - (1 : Int32)) (li_22 + (1 : Int32)) rc_22 rn_22 ro_22 rd_22 st_22) H := hP
      have hD : va_D A (TSw cA a0 aR aM aW aP aS aC aO nW nE R (upd (upd f_22 (us_22 + (0 : Int32)).toNatClampNeg (S_22 (sc_22 - (1 : Int32)).toNatClampNeg)) (us_22 + (1 : Int32)).toNatClampNeg (li_22 + (1 : Int32))) (us_22 + y4_22) (upd P_22 (S_22 (sc_22 - (1 : Int32)).toNatClampNeg).toNatClampNeg us_22) S_22 (sc_22 - (1 : Int32)) (li_22 + (1 : Int32)) rc_22 rn_22 ro_22 rd_22 st_22) := hD
      have h := h.2
      refine lv_aload_n hx hb d_M_build_114 rfl (lv_at hl 2 rfl) ?_
      refine va_get (D := (dC, dI)) (ci := 1) (v := .ref aW) (C := R_M) (T := T_M) (N := 11) hx hb hw in_M hown hK hP 2 rfl rfl 0 (by decide) (hw _ wd_63) (fun _ h9 => h9) rfl d_M_build_115 ?_
      refine lv_iload hx hb d_M_build_118 (lv_at hl 0 rfl) ?_
      refine lv_iconst (v := (2 : Int32)) hx hb d_M_build_120 (by decide) ?_
      refine lv_iadd hx hb d_M_build_121 ?_
      refine lv_iload_n hx hb d_M_build_122 rfl (lv_at hl 3 rfl) ?_
      refine va_iast hx hb hK hP hD hS 3 0 rfl rfl h.1 d_M_build_123 (fun H locs hP hD hS => ?_)
      have hP : va_P (dC, dI) vwCl (TSw cA a0 aR aM aW aP aS aC aO nW nE R (upd (upd (upd f_22 (us_22 + (0 : Int32)).toNatClampNeg (S_22 (sc_22 - (1 : Int32)).toNatClampNeg)) (us_22 + (1 : Int32)).toNatClampNeg (li_22 + (1 : Int32))) (us_22 + (2 : Int32)).toNatClampNeg y1_22) (us_22 + y4_22) (upd P_22 (S_22 (sc_22 - (1 : Int32)).toNatClampNeg).toNatClampNeg us_22) S_22 (sc_22 - (1 : Int32)) (li_22 + (1 : Int32)) rc_22 rn_22 ro_22 rd_22 st_22) H := hP
      have hD : va_D A (TSw cA a0 aR aM aW aP aS aC aO nW nE R (upd (upd (upd f_22 (us_22 + (0 : Int32)).toNatClampNeg (S_22 (sc_22 - (1 : Int32)).toNatClampNeg)) (us_22 + (1 : Int32)).toNatClampNeg (li_22 + (1 : Int32))) (us_22 + (2 : Int32)).toNatClampNeg y1_22) (us_22 + y4_22) (upd P_22 (S_22 (sc_22 - (1 : Int32)).toNatClampNeg).toNatClampNeg us_22) S_22 (sc_22 - (1 : Int32)) (li_22 + (1 : Int32)) rc_22 rn_22 ro_22 rd_22 st_22) := hD
      have h := h.2
      refine lv_aload_n hx hb d_M_build_124 rfl (lv_at hl 2 rfl) ?_
      refine va_get (D := (dC, dI)) (ci := 1) (v := .ref aW) (C := R_M) (T := T_M) (N := 11) hx hb hw in_M hown hK hP 2 rfl rfl 0 (by decide) (hw _ wd_63) (fun _ h9 => h9) rfl d_M_build_125 ?_
      refine lv_iload hx hb d_M_build_128 (lv_at hl 0 rfl) ?_
      refine lv_iconst (v := (3 : Int32)) hx hb d_M_build_130 (by decide) ?_
      refine lv_iadd hx hb d_M_build_131 ?_
      refine lv_iload_n hx hb d_M_build_132 rfl (lv_at hl 4 rfl) ?_
      refine va_iast hx hb hK hP hD hS 3 0 rfl rfl h.1 d_M_build_133 (fun H locs hP hD hS => ?_)
      have hP : va_P (dC, dI) vwCl (TSw cA a0 aR aM aW aP aS aC aO nW nE R (upd (upd (upd (upd f_22 (us_22 + (0 : Int32)).toNatClampNeg (S_22 (sc_22 - (1 : Int32)).toNatClampNeg)) (us_22 + (1 : Int32)).toNatClampNeg (li_22 + (1 : Int32))) (us_22 + (2 : Int32)).toNatClampNeg y1_22) (us_22 + (3 : Int32)).toNatClampNeg y2_22) (us_22 + y4_22) (upd P_22 (S_22 (sc_22 - (1 : Int32)).toNatClampNeg).toNatClampNeg us_22) S_22 (sc_22 - (1 : Int32)) (li_22 + (1 : Int32)) rc_22 rn_22 ro_22 rd_22 st_22) H := hP
      have hD : va_D A (TSw cA a0 aR aM aW aP aS aC aO nW nE R (upd (upd (upd (upd f_22 (us_22 + (0 : Int32)).toNatClampNeg (S_22 (sc_22 - (1 : Int32)).toNatClampNeg)) (us_22 + (1 : Int32)).toNatClampNeg (li_22 + (1 : Int32))) (us_22 + (2 : Int32)).toNatClampNeg y1_22) (us_22 + (3 : Int32)).toNatClampNeg y2_22) (us_22 + y4_22) (upd P_22 (S_22 (sc_22 - (1 : Int32)).toNatClampNeg).toNatClampNeg us_22) S_22 (sc_22 - (1 : Int32)) (li_22 + (1 : Int32)) rc_22 rn_22 ro_22 rd_22 st_22) := hD
      have h := h.2
      refine lv_iload hx hb d_M_build_134 (lv_at hl 0 rfl) ?_
      refine lv_iconst (v := (4 : Int32)) hx hb d_M_build_136 (by decide) ?_
      refine lv_iadd hx hb d_M_build_137 ?_
      refine lv_istore (lv' := [(7, .int (us_22 + (4 : Int32))), (6, .int us_22), (5, .int (S_22 (sc_22 - (1 : Int32)).toNatClampNeg)), (0, .ref aM), (1, .int y1_22), (2, .int y2_22), (3, .ref aR), (4, .int y4_22)]) hx hb d_M_build_138 hl (by decide) rfl (fun ls hl => ?_)
      obtain ⟨n_140, h⟩ := h
      refine lp_140 y1_22 y2_22 y4_22 (S_22 (sc_22 - (1 : Int32)).toNatClampNeg) us_22 (us_22 + y4_22) (upd P_22 (S_22 (sc_22 - (1 : Int32)).toNatClampNeg).toNatClampNeg us_22) S_22 (sc_22 - (1 : Int32)) (li_22 + (1 : Int32)) rc_22 rn_22 ro_22 rd_22 st_22 _ (fun z7_140 fe_140 H locs ls hP hD hS hl h => ?_) n_140 (us_22 + (4 : Int32)) (upd (upd (upd (upd f_22 (us_22 + (0 : Int32)).toNatClampNeg (S_22 (sc_22 - (1 : Int32)).toNatClampNeg)) (us_22 + (1 : Int32)).toNatClampNeg (li_22 + (1 : Int32))) (us_22 + (2 : Int32)).toNatClampNeg y1_22) (us_22 + (3 : Int32)).toNatClampNeg y2_22) H locs ls hP hD hS (lv_sub hl [3, 4, 5, 6, 7, 2, 1, 0] rfl) h
      refine lv_iload hx hb d_M_build_163 (lv_at hl 5 rfl) ?_
      refine rq_calli (W.runS (As := [.int (S_22 (sc_22 - (1 : Int32)).toNatClampNeg)]) (rest := []) ⟨hx, hb, hml, hown, hw⟩ (mV_ofEntry l (S_22 (sc_22 - (1 : Int32)).toNatClampNeg) _ h) (va_cwS 1 hw g_M_76 rfl rfl rfl (by decide +kernel) ⟨Nat.le_of_ble_eq_true rfl, Nat.le_of_ble_eq_true rfl⟩) preEq rfl rfl hl.1 rfl (lv_room (Nat.le_of_ble_eq_true rfl)) d_M_build_165 ⟨Nat.le_of_ble_eq_true rfl, Nat.le_of_ble_eq_true rfl⟩) (fun r165 h => ?_)
      exact W.iret (v := r165) hx hb hr9 (fun t ht hW => ⟨⟨_, (fe_140, us_22 + y4_22, upd P_22 (S_22 (sc_22 - (1 : Int32)).toNatClampNeg).toNatClampNeg us_22, S_22, sc_22 - (1 : Int32), li_22 + (1 : Int32), rc_22, rn_22, ro_22, rd_22, st_22), rfl, h, by rw [ht]; exact hP, va_K.moved hW.alike hK, hD⟩, hS.F ht⟩) hS.2.2 d_M_build_168
    · have h := h.1 c_28
      refine lv_iconst (v := (0 : Int32)) hx hb d_M_build_31 (by decide) ?_
      exact W.iret (v := (0 : Int32)) hx hb hr9 (fun t ht hW => ⟨⟨_, (f_22, us_22, P_22, S_22, sc_22, li_22, rc_22, rn_22, ro_22, rd_22, st_22), rfl, h, by rw [ht]; exact hP, va_K.moved hW.alike hK, hD⟩, hS.F ht⟩) hS.2.2 d_M_build_32
  unfold wqM_build at h
  refine lv_iconst (v := (4 : Int32)) hx hb d_M_build_0 (by decide) ?_
  refine lv_iload_n hx hb d_M_build_1 rfl (lv_at hl 2 rfl) ?_
  refine rq_calli (W.runS (As := [.int a2]) (rest := [.int (4 : Int32)]) ⟨hx, hb, hml, hown, hw⟩ (mM_bodyWords l a2 _ h) (va_cwS 1 hw g_M_63 rfl rfl rfl (by decide +kernel) ⟨Nat.le_of_ble_eq_true rfl, Nat.le_of_ble_eq_true rfl⟩) preEq rfl rfl hl.1 rfl (lv_room (Nat.le_of_ble_eq_true rfl)) d_M_build_2 ⟨Nat.le_of_ble_eq_true rfl, Nat.le_of_ble_eq_true rfl⟩) (fun r2 h => ?_)
  refine lv_iadd hx hb d_M_build_5 ?_
  refine lv_istore (lv' := [(4, .int ((4 : Int32) + r2)), (0, .ref aM), (1, .int a1), (2, .int a2), (3, .ref aR)]) hx hb d_M_build_6 hl (by decide) rfl (fun ls hl => ?_)
  refine lv_aload_n hx hb d_M_build_8 rfl (lv_at hl 1 rfl) ?_
  refine lv_iload hx hb d_M_build_9 (lv_at hl 0 rfl) ?_
  refine rq_calli (W.runV (As := [.int ((4 : Int32) + r2)]) (rest := []) ⟨hx, hb, hml, hown, hw⟩ (mM_fits l dC dI cA a0 aR aM aW aP aS aC aO nW nE R f us P S sc li rc rn ro rd st ((4 : Int32) + r2) _ h) (cwV 1 hw g_M_66 rfl rfl rfl (by decide +kernel) ⟨Nat.le_of_ble_eq_true rfl, Nat.le_of_ble_eq_true rfl⟩) (ro_PV (ci := 1) (q0 := 2) hK hP rfl rfl) rfl rfl hl.1 rfl (lv_room (Nat.le_of_ble_eq_true rfl)) d_M_build_11 ⟨Nat.le_of_ble_eq_true rfl, Nat.le_of_ble_eq_true rfl⟩) (fun r11 h => ?_)
  refine lv_if_ne (tgt := 22) hx hb d_M_build_14 (by decide) (fun c_14 => ?_) (fun c_14 => ?_)
  · have h := h.2 c_14
    exact lp_22 a1 a2 ((4 : Int32) + r2) f us P S sc li rc rn ro rd st s.heap [] ls hP hD hS (lv_sub hl [1, 2, 3, 4, 0] rfl) h
  · have h := h.1 c_14
    refine lv_aload_n hx hb d_M_build_17 rfl (lv_at hl 1 rfl) ?_
    refine lv_aload_n hx hb d_M_build_18 rfl (lv_at hl 4 rfl) ?_
    have hFc := va_free (wc := TSw cA a0 aR aM aW aP aS aC aO nW nE R f us P S sc li rc rn ro rd st) hD hS hA [0, 1, 2, 3, 4, 5, 6, 7] rfl
    refine va_callv (va_runV (As := [.ref aR]) (rest := []) ⟨hx, hb, hml, hown, hw⟩ (mM_settle l dC dI cA a0 aR aM aW aP aS aC aO nW nE s.heap.size R f us P S sc li rc rn ro rd st _ h) (cwV 1 hw g_M_69 rfl rfl rfl (by decide +kernel) ⟨Nat.le_of_ble_eq_true rfl, Nat.le_of_ble_eq_true rfl⟩) (rw_PV (ci := 1) (q0 := 2) hK hP hD rfl rfl) rfl rfl hl.1 rfl (lv_room (Nat.le_of_ble_eq_true rfl)) d_M_build_19 ⟨Nat.le_of_ble_eq_true rfl, Nat.le_of_ble_eq_true rfl⟩) hS (fun q _ h => hFc q h) hFc (fun u t H locs ht hvm h hB hz1 hk1 hS => ?_)
    obtain ⟨f_19, us_19, P_19, S_19, sc_19, rc_19, rn_19, ro_19, rd_19, st_19⟩ := u
    obtain ⟨hP, hK1, hD1⟩ := hB
    rw [ht] at hP
    have hD := hD1.weaken (fun _ _ _ q => hFc _ q)
    clear hFc hD1 hK1
    try dsimp only at h
    have hP : va_P (dC, dI) vwCl (TSw cA a0 aR aM aW aP aS aC aO nW nE R f_19 us_19 P_19 S_19 sc_19 li rc_19 rn_19 ro_19 rd_19 st_19) H := hP
    have hD : va_D A (TSw cA a0 aR aM aW aP aS aC aO nW nE R f_19 us_19 P_19 S_19 sc_19 li rc_19 rn_19 ro_19 rd_19 st_19) := hD
    exact lp_22 a1 a2 ((4 : Int32) + r2) f_19 us_19 P_19 S_19 sc_19 li rc_19 rn_19 ro_19 rd_19 st_19 H locs ls hP hD hS (lv_sub hl [1, 2, 3, 4, 0] rfl) h
def wqM_buildLike (nW : Nat) (nE : Nat) (R : Nat → Int32) (f : Nat → Int32) (us : Int32) (P : Nat → Int32) (S : Nat → Int32) (sc : Int32) (li : Int32) (rc : Nat → Int32) (rn : Int32) (ro : Nat → Int32) (rd : Int32) (st : Int32) (a1 : Int32) (post : Int32 → (Nat → Int32) → Int32 → (Nat → Int32) → (Nat → Int32) → Int32 → Int32 → (Nat → Int32) → Int32 → (Nat → Int32) → Int32 → Int32 → Prop) : Prop :=
  wqM_place nW nE P a1 (fun r6 => vp_in (r6 + (3 : Int32)) nW ∧ (wqM_itsClass nW nE f P a1 (fun r16 => wqM_build nW nE R f us P S sc li rc rn ro rd st r16 (f (r6 + (3 : Int32)).toNatClampNeg) (fun r21 f_21 us_21 P_21 S_21 sc_21 li_21 rc_21 rn_21 ro_21 rd_21 st_21 => (r21 = 0 → (post r21 f_21 us_21 P_21 S_21 sc_21 li_21 rc_21 rn_21 ro_21 rd_21 st_21)) ∧ (¬ (r21 = 0) → (wqM_place nW nE P_21 a1 (fun r37 => wqM_place nW nE P_21 r21 (fun r49 => wqM_bodyWords (f (r6 + (3 : Int32)).toNatClampNeg) (fun r55 => ¬ (r37 + (4 : Int32)) < 0 ∧ ¬ (r49 + (4 : Int32)) < 0 ∧ ¬ r55 < 0 ∧ (r37 + (4 : Int32)).toNatClampNeg + r55.toNatClampNeg ≤ nW ∧ (r49 + (4 : Int32)).toNatClampNeg + r55.toNatClampNeg ≤ nW ∧ (post r21 (va_cpy f_21 f_21 (r37 + (4 : Int32)).toNatClampNeg (r49 + (4 : Int32)).toNatClampNeg r55.toNatClampNeg) us_21 P_21 S_21 sc_21 li_21 rc_21 rn_21 ro_21 rd_21 st_21))))))))))
set_option maxHeartbeats 4000000 in
set_option maxRecDepth 100000 in
theorem mM_buildLike (l : Launch) (dC : Nat → ClassId) (dI : Nat → Nat → Nat) (cA : ClassId) (a0 : Nat) (aR : Nat) (aM : Nat) (aW : Nat) (aP : Nat) (aS : Nat) (aC : Nat) (aO : Nat) (nW : Nat) (nE : Nat) (sz : Nat) (R : Nat → Int32) (f : Nat → Int32) (us : Int32) (P : Nat → Int32) (S : Nat → Int32) (sc : Int32) (li : Int32) (rc : Nat → Int32) (rn : Int32) (ro : Nat → Int32) (rd : Int32) (st : Int32) (a1 : Int32) (post : Int32 → (Nat → Int32) → Int32 → (Nat → Int32) → (Nat → Int32) → Int32 → Int32 → (Nat → Int32) → Int32 → (Nat → Int32) → Int32 → Int32 → Prop) (h : wqM_buildLike nW nE R f us P S sc li rc rn ro rd st a1 post) : Met l y_M_buildLike ws_M_buildLike ({ frames := 6, cells := 0, slots := 0, locals := 139 }) (rw_P (dC, dI) vwCl (TSw cA a0 aR aM aW aP aS aC aO nW nE R f us P S sc li rc rn ro rd st) [(cA, .int)] sz [.ref aM, .int a1, .ref aR]) (va_Qi (fun (r : Int32) (u : (Nat → Int32) × Int32 × (Nat → Int32) × (Nat → Int32) × Int32 × Int32 × (Nat → Int32) × Int32 × (Nat → Int32) × Int32 × Int32) => post r u.1 u.2.1 u.2.2.1 u.2.2.2.1 u.2.2.2.2.1 u.2.2.2.2.2.1 u.2.2.2.2.2.2.1 u.2.2.2.2.2.2.2.1 u.2.2.2.2.2.2.2.2.1 u.2.2.2.2.2.2.2.2.2.1 u.2.2.2.2.2.2.2.2.2.2) (rw_B (dC, dI) vwCl [(cA, .int)] (va_A (TSw cA a0 aR aM aW aP aS aC aO nW nE R f us P S sc li rc rn ro rd st) sz) (fun u : (Nat → Int32) × Int32 × (Nat → Int32) × (Nat → Int32) × Int32 × Int32 × (Nat → Int32) × Int32 × (Nat → Int32) × Int32 × Int32 => TSw cA a0 aR aM aW aP aS aC aO nW nE R u.1 u.2.1 u.2.2.1 u.2.2.2.1 u.2.2.2.2.1 u.2.2.2.2.2.1 u.2.2.2.2.2.2.1 u.2.2.2.2.2.2.2.1 u.2.2.2.2.2.2.2.2.1 u.2.2.2.2.2.2.2.2.2.1 u.2.2.2.2.2.2.2.2.2.2)) (va_A (TSw cA a0 aR aM aW aP aS aC aO nW nE R f us P S sc li rc rn ro rd st) sz)) 0 0 (va_A (TSw cA a0 aR aM aW aP aS aC aO nW nE R f us P S sc li rc rn ro rd st) sz) := by
  refine Met.ofW (cc := c_M_buildLike) (maxL := 5) (ret := (some .int)) (by decide) rfl ?_
  intro p e s m args below meth c s₁ B hml hv
  obtain ⟨rfl, hsz, hP, hK, hD0⟩ := hv
  have hx := B.exec
  have hb := B.bytes
  have hr9 := B.returns
  have hts := atoms_spec (ws := ws_M_buildLike) B.pre
  have hw : ∀ w ∈ WB_, w.before _ s = true := fun w h => hts w (List.mem_cons_of_mem _ h)
  have hown : s.vm.findClass R_M = some m.cls := findClass_of_methodNamed B.named
  have hlocks := B.notSynchronized
  subst hsz
  have hD := hD0.self (sz := s.heap.size)
  generalize hAe : va_A (TSw cA a0 aR aM aW aP aS aC aO nW nE R f us P S sc li rc rn ro rd st) s.heap.size = A at hD ⊢
  have hA : ∀ q : Nat, s.heap.size ≤ q → A q := fun q h => by rw [← hAe]; exact Or.inr h
  have hS : va_S A s.heap s.heap [] := va_S.rf
  have hl := lv_entry ([.ref aM, .int a1, .ref aR]) (n := 5) (Nat.le_of_ble_eq_true rfl)
  rw [lg_entry_eq]
  generalize (lg_sl ([.ref aM, .int a1, .ref aR]) ++ List.replicate (5 - (lg_sl ([.ref aM, .int a1, .ref aR])).length) Slot.unset).toArray = ls at hl ⊢
  have hl : lv_has ls 5 [(0, .ref aM), (1, .int a1), (2, .ref aR)] := hl
  unfold wqM_buildLike at h
  refine lv_aload_n hx hb d_M_buildLike_0 rfl (lv_at hl 0 rfl) ?_
  refine va_get (D := (dC, dI)) (ci := 1) (v := .ref aW) (C := R_M) (T := T_M) (N := 11) hx hb hw in_M hown hK hP 2 rfl rfl 0 (by decide) (hw _ wd_63) (fun _ h9 => h9) rfl d_M_buildLike_1 ?_
  refine lv_aload_n hx hb d_M_buildLike_4 rfl (lv_at hl 0 rfl) ?_
  refine lv_iload_n hx hb d_M_buildLike_5 rfl (lv_at hl 1 rfl) ?_
  refine rq_calli (W.runV (As := [.int a1]) (rest := [.ref aW]) ⟨hx, hb, hml, hown, hw⟩ (mM_place l dC dI cA a0 aR aM aW aP aS aC aO nW nE R f us P S sc li rc rn ro rd st a1 _ h) (cwV 1 hw g_M_46 rfl rfl rfl (by decide +kernel) ⟨Nat.le_of_ble_eq_true rfl, Nat.le_of_ble_eq_true rfl⟩) (ro_PV (ci := 1) (q0 := 2) hK hP rfl rfl) rfl rfl hl.1 rfl (lv_room (Nat.le_of_ble_eq_true rfl)) d_M_buildLike_6 ⟨Nat.le_of_ble_eq_true rfl, Nat.le_of_ble_eq_true rfl⟩) (fun r6 h => ?_)
  refine lv_iconst (v := (3 : Int32)) hx hb d_M_buildLike_9 (by decide) ?_
  refine lv_iadd hx hb d_M_buildLike_10 ?_
  refine va_iald hx hb hK hP 3 0 rfl rfl h.1 d_M_buildLike_11 ?_
  have h := h.2
  refine lv_istore_n (lv' := [(3, .int (f (r6 + (3 : Int32)).toNatClampNeg)), (0, .ref aM), (1, .int a1), (2, .ref aR)]) hx hb d_M_buildLike_12 rfl hl (by decide) rfl (fun ls hl => ?_)
  refine lv_aload_n hx hb d_M_buildLike_13 rfl (lv_at hl 1 rfl) ?_
  refine lv_aload_n hx hb d_M_buildLike_14 rfl (lv_at hl 1 rfl) ?_
  refine lv_iload_n hx hb d_M_buildLike_15 rfl (lv_at hl 2 rfl) ?_
  refine rq_calli (W.runV (As := [.int a1]) (rest := [.ref aM]) ⟨hx, hb, hml, hown, hw⟩ (mM_itsClass l dC dI cA a0 aR aM aW aP aS aC aO nW nE R f us P S sc li rc rn ro rd st a1 _ h) (cwV 1 hw g_M_79 rfl rfl rfl (by decide +kernel) ⟨Nat.le_of_ble_eq_true rfl, Nat.le_of_ble_eq_true rfl⟩) (ro_PV (ci := 1) (q0 := 2) hK hP rfl rfl) rfl rfl hl.1 rfl (lv_room (Nat.le_of_ble_eq_true rfl)) d_M_buildLike_16 ⟨Nat.le_of_ble_eq_true rfl, Nat.le_of_ble_eq_true rfl⟩) (fun r16 h => ?_)
  refine lv_iload_n hx hb d_M_buildLike_19 rfl (lv_at hl 0 rfl) ?_
  refine lv_aload_n hx hb d_M_buildLike_20 rfl (lv_at hl 3 rfl) ?_
  have hFc := va_free (wc := TSw cA a0 aR aM aW aP aS aC aO nW nE R f us P S sc li rc rn ro rd st) hD hS hA [0, 1, 2, 3, 4, 5, 6, 7] rfl
  refine va_calli (va_runV (As := [.int r16, .int (f (r6 + (3 : Int32)).toNatClampNeg), .ref aR]) (rest := []) ⟨hx, hb, hml, hown, hw⟩ (mM_build l dC dI cA a0 aR aM aW aP aS aC aO nW nE s.heap.size R f us P S sc li rc rn ro rd st r16 (f (r6 + (3 : Int32)).toNatClampNeg) _ h) (cwV 3 hw g_M_82 rfl rfl rfl (by decide +kernel) ⟨Nat.le_of_ble_eq_true rfl, Nat.le_of_ble_eq_true rfl⟩) (rw_PV (ci := 1) (q0 := 2) hK hP hD rfl rfl) rfl rfl hl.1 rfl (lv_room (Nat.le_of_ble_eq_true rfl)) d_M_buildLike_21 ⟨Nat.le_of_ble_eq_true rfl, Nat.le_of_ble_eq_true rfl⟩) hS (fun q _ h => hFc q h) hFc (fun r21 u t H locs ht hvm h hB hz1 hk1 hS => ?_)
  obtain ⟨f_21, us_21, P_21, S_21, sc_21, li_21, rc_21, rn_21, ro_21, rd_21, st_21⟩ := u
  obtain ⟨hP, hK1, hD1⟩ := hB
  rw [ht] at hP
  have hD := hD1.weaken (fun _ _ _ q => hFc _ q)
  clear hFc hD1 hK1
  try dsimp only at h
  have hP : va_P (dC, dI) vwCl (TSw cA a0 aR aM aW aP aS aC aO nW nE R f_21 us_21 P_21 S_21 sc_21 li_21 rc_21 rn_21 ro_21 rd_21 st_21) H := hP
  have hD : va_D A (TSw cA a0 aR aM aW aP aS aC aO nW nE R f_21 us_21 P_21 S_21 sc_21 li_21 rc_21 rn_21 ro_21 rd_21 st_21) := hD
  refine lv_istore (lv' := [(4, .int r21), (3, .int (f (r6 + (3 : Int32)).toNatClampNeg)), (0, .ref aM), (1, .int a1), (2, .ref aR)]) hx hb d_M_buildLike_24 hl (by decide) rfl (fun ls hl => ?_)
  refine lv_iload hx hb d_M_buildLike_26 (lv_at hl 0 rfl) ?_
  refine lv_if_eq (tgt := 61) hx hb d_M_buildLike_28 (by decide) (fun c_28 => ?_) (fun c_28 => ?_)
  · have h := h.1 c_28
    refine lv_iload hx hb d_M_buildLike_61 (lv_at hl 0 rfl) ?_
    exact W.iret (v := r21) hx hb hr9 (fun t ht hW => ⟨⟨_, (f_21, us_21, P_21, S_21, sc_21, li_21, rc_21, rn_21, ro_21, rd_21, st_21), rfl, h, by rw [ht]; exact hP, va_K.moved hW.alike hK, hD⟩, hS.F ht⟩) hS.2.2 d_M_buildLike_63
  · have h := h.2 c_28
    refine lv_aload_n hx hb d_M_buildLike_31 rfl (lv_at hl 2 rfl) ?_
    refine va_get (D := (dC, dI)) (ci := 1) (v := .ref aW) (C := R_M) (T := T_M) (N := 11) hx hb hw in_M hown hK hP 2 rfl rfl 0 (by decide) (hw _ wd_63) (fun _ h9 => h9) rfl d_M_buildLike_32 ?_
    refine lv_aload_n hx hb d_M_buildLike_35 rfl (lv_at hl 2 rfl) ?_
    refine lv_iload_n hx hb d_M_buildLike_36 rfl (lv_at hl 3 rfl) ?_
    refine rq_calli (W.runV (As := [.int a1]) (rest := [.ref aW]) ⟨hx, hb, hml, hown, hw⟩ (mM_place l dC dI cA a0 aR aM aW aP aS aC aO nW nE R f_21 us_21 P_21 S_21 sc_21 li_21 rc_21 rn_21 ro_21 rd_21 st_21 a1 _ h) (cwV 1 hw g_M_46 rfl rfl rfl (by decide +kernel) ⟨Nat.le_of_ble_eq_true rfl, Nat.le_of_ble_eq_true rfl⟩) (ro_PV (ci := 1) (q0 := 2) hK hP rfl rfl) rfl rfl hl.1 rfl (lv_room (Nat.le_of_ble_eq_true rfl)) d_M_buildLike_37 ⟨Nat.le_of_ble_eq_true rfl, Nat.le_of_ble_eq_true rfl⟩) (fun r37 h => ?_)
    refine lv_iconst (v := (4 : Int32)) hx hb d_M_buildLike_40 (by decide) ?_
    refine lv_iadd hx hb d_M_buildLike_41 ?_
    refine lv_aload_n hx hb d_M_buildLike_42 rfl (lv_at hl 2 rfl) ?_
    refine va_get (D := (dC, dI)) (ci := 1) (v := .ref aW) (C := R_M) (T := T_M) (N := 11) hx hb hw in_M hown hK hP 2 rfl rfl 0 (by decide) (hw _ wd_63) (fun _ h9 => h9) rfl d_M_buildLike_43 ?_
    refine lv_aload_n hx hb d_M_buildLike_46 rfl (lv_at hl 2 rfl) ?_
    refine lv_iload hx hb d_M_buildLike_47 (lv_at hl 0 rfl) ?_
    refine rq_calli (W.runV (As := [.int r21]) (rest := [.ref aW, .int (r37 + (4 : Int32)), .ref aW]) ⟨hx, hb, hml, hown, hw⟩ (mM_place l dC dI cA a0 aR aM aW aP aS aC aO nW nE R f_21 us_21 P_21 S_21 sc_21 li_21 rc_21 rn_21 ro_21 rd_21 st_21 r21 _ h) (cwV 1 hw g_M_46 rfl rfl rfl (by decide +kernel) ⟨Nat.le_of_ble_eq_true rfl, Nat.le_of_ble_eq_true rfl⟩) (ro_PV (ci := 1) (q0 := 2) hK hP rfl rfl) rfl rfl hl.1 rfl (lv_room (Nat.le_of_ble_eq_true rfl)) d_M_buildLike_49 ⟨Nat.le_of_ble_eq_true rfl, Nat.le_of_ble_eq_true rfl⟩) (fun r49 h => ?_)
    refine lv_iconst (v := (4 : Int32)) hx hb d_M_buildLike_52 (by decide) ?_
    refine lv_iadd hx hb d_M_buildLike_53 ?_
    refine lv_iload_n hx hb d_M_buildLike_54 rfl (lv_at hl 1 rfl) ?_
    refine rq_calli (W.runS (As := [.int (f (r6 + (3 : Int32)).toNatClampNeg)]) (rest := [.int (r49 + (4 : Int32)), .ref aW, .int (r37 + (4 : Int32)), .ref aW]) ⟨hx, hb, hml, hown, hw⟩ (mM_bodyWords l (f (r6 + (3 : Int32)).toNatClampNeg) _ h) (va_cwS 1 hw g_M_63 rfl rfl rfl (by decide +kernel) ⟨Nat.le_of_ble_eq_true rfl, Nat.le_of_ble_eq_true rfl⟩) preEq rfl rfl hl.1 rfl (lv_room (Nat.le_of_ble_eq_true rfl)) d_M_buildLike_55 ⟨Nat.le_of_ble_eq_true rfl, Nat.le_of_ble_eq_true rfl⟩) (fun r55 h => ?_)
    obtain ⟨k1, k2, k3, k4, k5, h⟩ := h
    refine va_copyi hx hb (hml.trans hl.1.symm) hown (hw _ wd_156) (hw _ wd_158) (hw _ wd_157) (hw _ wd_41) hK hP hD hS 3 3 0 0 rfl rfl rfl rfl rfl k1 k2 k3 k4 k5 (fun _ _ => rfl) (Nat.le_of_ble_eq_true rfl) (Nat.le_of_ble_eq_true rfl) d_M_buildLike_58 (fun H locs hP hD hS => ?_)
    have hP : va_P (dC, dI) vwCl (TSw cA a0 aR aM aW aP aS aC aO nW nE R (va_cpy f_21 f_21 (r37 + (4 : Int32)).toNatClampNeg (r49 + (4 : Int32)).toNatClampNeg r55.toNatClampNeg) us_21 P_21 S_21 sc_21 li_21 rc_21 rn_21 ro_21 rd_21 st_21) H := hP
    have hD : va_D A (TSw cA a0 aR aM aW aP aS aC aO nW nE R (va_cpy f_21 f_21 (r37 + (4 : Int32)).toNatClampNeg (r49 + (4 : Int32)).toNatClampNeg r55.toNatClampNeg) us_21 P_21 S_21 sc_21 li_21 rc_21 rn_21 ro_21 rd_21 st_21) := hD
    refine lv_iload hx hb d_M_buildLike_61 (lv_at hl 0 rfl) ?_
    exact W.iret (v := r21) hx hb hr9 (fun t ht hW => ⟨⟨_, (va_cpy f_21 f_21 (r37 + (4 : Int32)).toNatClampNeg (r49 + (4 : Int32)).toNatClampNeg r55.toNatClampNeg, us_21, P_21, S_21, sc_21, li_21, rc_21, rn_21, ro_21, rd_21, st_21), rfl, h, by rw [ht]; exact hP, va_K.moved hW.alike hK, hD⟩, hS.F ht⟩) hS.2.2 d_M_buildLike_63
end
section
def wqT_isBetween (a1 : Int32) (a2 : Int32) (a3 : Int32) (post : Int32 → Prop) : Prop :=
  (a1 < a2 → (post (0 : Int32))) ∧ (¬ (a1 < a2) → ((a3 < a1 → (post (0 : Int32))) ∧ (¬ (a3 < a1) → (post (1 : Int32)))))
set_option maxHeartbeats 4000000 in
set_option maxRecDepth 100000 in
theorem mT_isBetween (l : Launch) (a1 : Int32) (a2 : Int32) (a3 : Int32) (post : Int32 → Prop) (h : wqT_isBetween a1 a2 a3 post) : Met l y_T_isBetween ws_T_isBetween ({ frames := 0, cells := 0, slots := 0, locals := 0 }) (fun v _ => v = ([.int a1, .int a2, .int a3] : List Value).toArray) (rq_i post) 0 0 (fun _ => False) := by
  refine Met.ofW (cc := c_T_isBetween) (maxL := 3) (ret := (some .boolean)) (by decide) rfl ?_
  intro p e s m args below meth c s₁ B hml hv
  subst hv
  have hx := B.exec
  have hb := B.bytes
  have hr9 := B.returns
  have hts := atoms_spec (ws := ws_T_isBetween) B.pre
  have hw : ∀ w ∈ WB_, w.before _ s = true := fun w h => hts w (List.mem_cons_of_mem _ h)
  have hown : s.vm.findClass R_T = some m.cls := findClass_of_methodNamed B.named
  have hlocks := B.notSynchronized
  have hl := lv_entry ([.int a1, .int a2, .int a3]) (n := 3) (Nat.le_of_ble_eq_true rfl)
  rw [lg_entry_eq]
  generalize (lg_sl ([.int a1, .int a2, .int a3]) ++ List.replicate (3 - (lg_sl ([.int a1, .int a2, .int a3])).length) Slot.unset).toArray = ls at hl ⊢
  have hl : lv_has ls 3 [(0, .int a1), (1, .int a2), (2, .int a3)] := hl
  unfold wqT_isBetween at h
  refine lv_iload_n hx hb d_T_isBetween_0 rfl (lv_at hl 0 rfl) ?_
  refine lv_iload_n hx hb d_T_isBetween_1 rfl (lv_at hl 1 rfl) ?_
  refine lv_icmp_lt (tgt := 14) hx hb d_T_isBetween_2 (by decide) (fun c_2 => ?_) (fun c_2 => ?_)
  · have h := h.1 c_2
    refine lv_iconst (v := (0 : Int32)) hx hb d_T_isBetween_14 (by decide) ?_
    exact W.zret (v := (0 : Int32)) (ty := .boolean) hx hb hr9 rfl (fun t ht hW => ⟨_, rfl, h, ht⟩) (fun _ h9 => nomatch h9) d_T_isBetween_15
  · have h := h.2 c_2
    refine lv_iload_n hx hb d_T_isBetween_5 rfl (lv_at hl 0 rfl) ?_
    refine lv_iload_n hx hb d_T_isBetween_6 rfl (lv_at hl 2 rfl) ?_
    refine lv_icmp_gt (tgt := 14) hx hb d_T_isBetween_7 (by decide) (fun c_7 => ?_) (fun c_7 => ?_)
    · have h := h.1 c_7
      refine lv_iconst (v := (0 : Int32)) hx hb d_T_isBetween_14 (by decide) ?_
      exact W.zret (v := (0 : Int32)) (ty := .boolean) hx hb hr9 rfl (fun t ht hW => ⟨_, rfl, h, ht⟩) (fun _ h9 => nomatch h9) d_T_isBetween_15
    · have h := h.2 c_7
      refine lv_iconst (v := (1 : Int32)) hx hb d_T_isBetween_10 (by decide) ?_
      refine lv_goto (tgt := 15) hx hb d_T_isBetween_11 (by decide) ?_
      exact W.zret (v := (1 : Int32)) (ty := .boolean) hx hb hr9 rfl (fun t ht hW => ⟨_, rfl, h, ht⟩) (fun _ h9 => nomatch h9) d_T_isBetween_15
def wqT_needBetween (a1 : Int32) (a2 : Int32) (a3 : Int32) (post : Prop) (px : String → Prop) : Prop :=
  wqT_isBetween a1 a2 a3 (fun r3 => (r3 = 0 → (px "java/lang/IllegalArgumentException")) ∧ (¬ (r3 = 0) → post))
set_option maxHeartbeats 4000000 in
set_option maxRecDepth 100000 in
theorem mT_needBetween (l : Launch) (hlT : l.stackTraces = false) (sa : Nat → Nat) (a1 : Int32) (a2 : Int32) (a3 : Int32) (post : Prop) (px : String → Prop) (h : wqT_needBetween a1 a2 a3 post px) : vx_Met l y_T_needBetween ws_T_needBetween ({ frames := 6, cells := 1, slots := 6, locals := 100 }) (xs_P sa [.int a1, .int a2, .int a3]) (rq_v post) (rq_X px) 1 6 (fun _ => False) := by
  refine vx_ofW (cc := c_T_needBetween) (maxL := 3) (ret := none) (by decide) rfl ?_
  intro p e s m args below meth c s₁ B hml hEx hv
  obtain ⟨rfl, hXT⟩ := hv
  have hx := B.exec
  have hb := B.bytes
  have hr9 := B.returns
  have hts := atoms_spec (ws := ws_T_needBetween) B.pre
  have hw : ∀ w ∈ WB_, w.before _ s = true := fun w h => hts w (List.mem_cons_of_mem _ h)
  have hown : s.vm.findClass R_T = some m.cls := findClass_of_methodNamed B.named
  have hlocks := B.notSynchronized
  have hl := lv_entry ([.int a1, .int a2, .int a3]) (n := 3) (Nat.le_of_ble_eq_true rfl)
  rw [lg_entry_eq]
  generalize (lg_sl ([.int a1, .int a2, .int a3]) ++ List.replicate (3 - (lg_sl ([.int a1, .int a2, .int a3])).length) Slot.unset).toArray = ls at hl ⊢
  have hl : lv_has ls 3 [(0, .int a1), (1, .int a2), (2, .int a3)] := hl
  unfold wqT_needBetween at h
  refine lv_iload_n hx hb d_T_needBetween_0 rfl (lv_at hl 0 rfl) ?_
  refine lv_iload_n hx hb d_T_needBetween_1 rfl (lv_at hl 1 rfl) ?_
  refine lv_iload_n hx hb d_T_needBetween_2 rfl (lv_at hl 2 rfl) ?_
  refine rq_calli (W.runS (As := [.int a1, .int a2, .int a3]) (rest := []) ⟨hx, hb, hml, hown, hw⟩ (mT_isBetween l a1 a2 a3 _ h) (va_cwS 3 hw g_T_16 rfl rfl rfl (by decide +kernel) ⟨Nat.le_of_ble_eq_true rfl, Nat.le_of_ble_eq_true rfl⟩) preEq rfl rfl hl.1 rfl (lv_room (Nat.le_of_ble_eq_true rfl)) d_T_needBetween_3 ⟨Nat.le_of_ble_eq_true rfl, Nat.le_of_ble_eq_true rfl⟩) (fun r3 h => ?_)
  refine lv_if_ne (tgt := 19) hx hb d_T_needBetween_6 (by decide) (fun c_6 => ?_) (fun c_6 => ?_)
  · have h := h.2 c_6
    refine W.widen (k := 1) (n := 6) (Nat.le_of_ble_eq_true rfl) (Nat.le_of_ble_eq_true rfl) ?_
    exact vx_ret (W.vret hx hb hr9 (fun t ht hW => ⟨rfl, h, ht⟩) (fun _ h9 => nomatch h9) d_T_needBetween_19)
  · have h := h.1 c_6
    exact vx_throwS (own := R_T) (cls := "java/lang/IllegalArgumentException") (text := "a number is out of its range") (names := ["java/lang/RuntimeException", "java/lang/Exception"]) (A := fun _ => False) (sa := sa 0) hx hb hlT hown (by decide +kernel) (by decide +kernel) (hw _ wd_185) (hw _ wd_39) hXT.2.2.1 (vx_hat (fun w h9 => hw w (xa_T_153 w h9)) xa_T_153_n (vx_c (hXT.2.2.2.2.2.2.2.2.2.1 _) (vx_c (hXT.2.2.2.2.2.2.2.2.2.2.2.2.1 _) (vx_c (hXT.2.2.2.2.2.2.2.2.2.2.2.2.2.1 _) (vx_c (hXT.2.2.2.2.2.2.2.2.2.2.2.2.2.2 _) vx_n))))) (by decide +kernel) hXT.1 hXT.2.1 va_S.rf (hl.1.trans hml.symm) d_T_needBetween_9 d_T_needBetween_12 d_T_needBetween_13 d_T_needBetween_15 d_T_needBetween_18 (fun x hx => (hEx x hx).elim) (Nat.le_of_ble_eq_true rfl) (Nat.le_of_ble_eq_true rfl) (Nat.le_of_ble_eq_true rfl) (Nat.le_of_ble_eq_true rfl) hlocks (fun t hvm hz hk => ⟨h, hz, hk⟩) (fun _ h9 => nomatch h9) (Nat.le_of_ble_eq_true rfl) (Nat.le_of_ble_eq_true rfl)
def wqT_needRegister (a1 : Int32) (post : Prop) (px : String → Prop) : Prop :=
  wqT_isBetween a1 (0 : Int32) (31 : Int32) (fun r4 => (r4 = 0 → (px "java/lang/IllegalArgumentException")) ∧ (¬ (r4 = 0) → post))
set_option maxHeartbeats 4000000 in
set_option maxRecDepth 100000 in
theorem mT_needRegister (l : Launch) (hlT : l.stackTraces = false) (sa : Nat → Nat) (a1 : Int32) (post : Prop) (px : String → Prop) (h : wqT_needRegister a1 post px) : vx_Met l y_T_needRegister ws_T_needRegister ({ frames := 6, cells := 1, slots := 6, locals := 100 }) (xs_P sa [.int a1]) (rq_v post) (rq_X px) 1 6 (fun _ => False) := by
  refine vx_ofW (cc := c_T_needRegister) (maxL := 1) (ret := none) (by decide) rfl ?_
  intro p e s m args below meth c s₁ B hml hEx hv
  obtain ⟨rfl, hXT⟩ := hv
  have hx := B.exec
  have hb := B.bytes
  have hr9 := B.returns
  have hts := atoms_spec (ws := ws_T_needRegister) B.pre
  have hw : ∀ w ∈ WB_, w.before _ s = true := fun w h => hts w (List.mem_cons_of_mem _ h)
  have hown : s.vm.findClass R_T = some m.cls := findClass_of_methodNamed B.named
  have hlocks := B.notSynchronized
  have hl := lv_entry ([.int a1]) (n := 1) (Nat.le_of_ble_eq_true rfl)
  rw [lg_entry_eq]
  generalize (lg_sl ([.int a1]) ++ List.replicate (1 - (lg_sl ([.int a1])).length) Slot.unset).toArray = ls at hl ⊢
  have hl : lv_has ls 1 [(0, .int a1)] := hl
  unfold wqT_needRegister at h
  refine lv_iload_n hx hb d_T_needRegister_0 rfl (lv_at hl 0 rfl) ?_
  refine lv_iconst (v := (0 : Int32)) hx hb d_T_needRegister_1 (by decide) ?_
  refine lv_bipush (v := (31 : Int32)) hx hb d_T_needRegister_2 (by decide) ?_
  refine rq_calli (W.runS (As := [.int a1, .int (0 : Int32), .int (31 : Int32)]) (rest := []) ⟨hx, hb, hml, hown, hw⟩ (mT_isBetween l a1 (0 : Int32) (31 : Int32) _ h) (va_cwS 3 hw g_T_16 rfl rfl rfl (by decide +kernel) ⟨Nat.le_of_ble_eq_true rfl, Nat.le_of_ble_eq_true rfl⟩) preEq rfl rfl hl.1 rfl (lv_room (Nat.le_of_ble_eq_true rfl)) d_T_needRegister_4 ⟨Nat.le_of_ble_eq_true rfl, Nat.le_of_ble_eq_true rfl⟩) (fun r4 h => ?_)
  refine lv_if_ne (tgt := 20) hx hb d_T_needRegister_7 (by decide) (fun c_7 => ?_) (fun c_7 => ?_)
  · have h := h.2 c_7
    refine W.widen (k := 1) (n := 6) (Nat.le_of_ble_eq_true rfl) (Nat.le_of_ble_eq_true rfl) ?_
    exact vx_ret (W.vret hx hb hr9 (fun t ht hW => ⟨rfl, h, ht⟩) (fun _ h9 => nomatch h9) d_T_needRegister_20)
  · have h := h.1 c_7
    exact vx_throwS (own := R_T) (cls := "java/lang/IllegalArgumentException") (text := "there is no such register") (names := ["java/lang/RuntimeException", "java/lang/Exception"]) (A := fun _ => False) (sa := sa 1) hx hb hlT hown (by decide +kernel) (by decide +kernel) (hw _ wd_185) (hw _ wd_39) hXT.2.2.2.1 (vx_hat (fun w h9 => hw w (xa_T_153 w h9)) xa_T_153_n (vx_c (hXT.2.2.2.2.2.2.2.2.2.1 _) (vx_c (hXT.2.2.2.2.2.2.2.2.2.2.2.2.1 _) (vx_c (hXT.2.2.2.2.2.2.2.2.2.2.2.2.2.1 _) (vx_c (hXT.2.2.2.2.2.2.2.2.2.2.2.2.2.2 _) vx_n))))) (by decide +kernel) hXT.1 hXT.2.1 va_S.rf (hl.1.trans hml.symm) d_T_needRegister_10 d_T_needRegister_13 d_T_needRegister_14 d_T_needRegister_16 d_T_needRegister_19 (fun x hx => (hEx x hx).elim) (Nat.le_of_ble_eq_true rfl) (Nat.le_of_ble_eq_true rfl) (Nat.le_of_ble_eq_true rfl) (Nat.le_of_ble_eq_true rfl) hlocks (fun t hvm hz hk => ⟨h, hz, hk⟩) (fun _ h9 => nomatch h9) (Nat.le_of_ble_eq_true rfl) (Nat.le_of_ble_eq_true rfl)
def wqT_needMade (a1 : Int32) (post : Prop) (px : String → Prop) : Prop :=
  (a1 = 0 → (px "java/lang/UnsupportedOperationException")) ∧ (¬ (a1 = 0) → post)
set_option maxHeartbeats 4000000 in
set_option maxRecDepth 100000 in
theorem mT_needMade (l : Launch) (hlT : l.stackTraces = false) (sa : Nat → Nat) (a1 : Int32) (post : Prop) (px : String → Prop) (h : wqT_needMade a1 post px) : vx_Met l y_T_needMade ws_T_needMade ({ frames := 6, cells := 1, slots := 6, locals := 100 }) (xs_P sa [.int a1]) (rq_v post) (rq_X px) 1 6 (fun _ => False) := by
  refine vx_ofW (cc := c_T_needMade) (maxL := 1) (ret := none) (by decide) rfl ?_
  intro p e s m args below meth c s₁ B hml hEx hv
  obtain ⟨rfl, hXT⟩ := hv
  have hx := B.exec
  have hb := B.bytes
  have hr9 := B.returns
  have hts := atoms_spec (ws := ws_T_needMade) B.pre
  have hw : ∀ w ∈ WB_, w.before _ s = true := fun w h => hts w (List.mem_cons_of_mem _ h)
  have hown : s.vm.findClass R_T = some m.cls := findClass_of_methodNamed B.named
  have hlocks := B.notSynchronized
  have hl := lv_entry ([.int a1]) (n := 1) (Nat.le_of_ble_eq_true rfl)
  rw [lg_entry_eq]
  generalize (lg_sl ([.int a1]) ++ List.replicate (1 - (lg_sl ([.int a1])).length) Slot.unset).toArray = ls at hl ⊢
  have hl : lv_has ls 1 [(0, .int a1)] := hl
  unfold wqT_needMade at h
  refine lv_iload_n hx hb d_T_needMade_0 rfl (lv_at hl 0 rfl) ?_
  refine lv_if_ne (tgt := 14) hx hb d_T_needMade_1 (by decide) (fun c_1 => ?_) (fun c_1 => ?_)
  · have h := h.2 c_1
    refine W.widen (k := 1) (n := 6) (Nat.le_of_ble_eq_true rfl) (Nat.le_of_ble_eq_true rfl) ?_
    exact vx_ret (W.vret hx hb hr9 (fun t ht hW => ⟨rfl, h, ht⟩) (fun _ h9 => nomatch h9) d_T_needMade_14)
  · have h := h.1 c_1
    exact vx_throwS (own := R_T) (cls := "java/lang/UnsupportedOperationException") (text := "there is no room for the object") (names := ["java/lang/RuntimeException", "java/lang/Exception"]) (A := fun _ => False) (sa := sa 6) hx hb hlT hown (by decide +kernel) (by decide +kernel) (hw _ wd_311) (hw _ wd_42) hXT.2.2.2.2.2.2.2.2.1 (vx_hat (fun w h9 => hw w (xa_T_173 w h9)) xa_T_173_n (vx_c (hXT.2.2.2.2.2.2.2.2.2.2.2.1 _) (vx_c (hXT.2.2.2.2.2.2.2.2.2.2.2.2.1 _) (vx_c (hXT.2.2.2.2.2.2.2.2.2.2.2.2.2.1 _) (vx_c (hXT.2.2.2.2.2.2.2.2.2.2.2.2.2.2 _) vx_n))))) (by decide +kernel) hXT.1 hXT.2.1 va_S.rf (hl.1.trans hml.symm) d_T_needMade_4 d_T_needMade_7 d_T_needMade_8 d_T_needMade_10 d_T_needMade_13 (fun x hx => (hEx x hx).elim) (Nat.le_of_ble_eq_true rfl) (Nat.le_of_ble_eq_true rfl) (Nat.le_of_ble_eq_true rfl) (Nat.le_of_ble_eq_true rfl) hlocks (fun t hvm hz hk => ⟨h, hz, hk⟩) (fun _ h9 => nomatch h9) (Nat.le_of_ble_eq_true rfl) (Nat.le_of_ble_eq_true rfl)
def wqT_needObject (nW : Nat) (nE : Nat) (R : Nat → Int32) (a1 : Int32) (post : Prop) (px : String → Prop) : Prop :=
  wqT_needRegister a1 (vp_in a1 32 ∧ (wqV_isObject (R a1.toNatClampNeg) (fun r10 => (r10 = 0 → (px "java/lang/IllegalArgumentException")) ∧ (¬ (r10 = 0) → post)))) (fun E => px E)
set_option maxHeartbeats 4000000 in
set_option maxRecDepth 100000 in
theorem mT_needObject (l : Launch) (hlT : l.stackTraces = false) (sa : Nat → Nat) (dC : Nat → ClassId) (dI : Nat → Nat → Nat) (cA : ClassId) (a0 : Nat) (aR : Nat) (aM : Nat) (aW : Nat) (aP : Nat) (aS : Nat) (aC : Nat) (aO : Nat) (nW : Nat) (nE : Nat) (R : Nat → Int32) (f : Nat → Int32) (us : Int32) (P : Nat → Int32) (S : Nat → Int32) (sc : Int32) (li : Int32) (rc : Nat → Int32) (rn : Int32) (ro : Nat → Int32) (rd : Int32) (st : Int32) (a1 : Int32) (post : Prop) (px : String → Prop) (h : wqT_needObject nW nE R a1 post px) : vx_Met l y_T_needObject ws_T_needObject ({ frames := 7, cells := 2, slots := 12, locals := 120 }) (xo_P (dC, dI) vwCl (TSw cA a0 aR aM aW aP aS aC aO nW nE R f us P S sc li rc rn ro rd st) [(cA, .int)] sa [.ref a0, .int a1]) (rq_v post) (rq_X px) 2 12 (fun _ => False) := by
  refine vx_ofW (cc := c_T_needObject) (maxL := 2) (ret := none) (by decide) rfl ?_
  intro p e s m args below meth c s₁ B hml hEx hv
  obtain ⟨rfl, hP, hK, hXT⟩ := hv
  have hx := B.exec
  have hb := B.bytes
  have hr9 := B.returns
  have hts := atoms_spec (ws := ws_T_needObject) B.pre
  have hw : ∀ w ∈ WB_, w.before _ s = true := fun w h => hts w (List.mem_cons_of_mem _ h)
  have hown : s.vm.findClass R_T = some m.cls := findClass_of_methodNamed B.named
  have hlocks := B.notSynchronized
  have hl := lv_entry ([.ref a0, .int a1]) (n := 2) (Nat.le_of_ble_eq_true rfl)
  rw [lg_entry_eq]
  generalize (lg_sl ([.ref a0, .int a1]) ++ List.replicate (2 - (lg_sl ([.ref a0, .int a1])).length) Slot.unset).toArray = ls at hl ⊢
  have hl : lv_has ls 2 [(0, .ref a0), (1, .int a1)] := hl
  unfold wqT_needObject at h
  refine lv_iload_n hx hb d_T_needObject_0 rfl (lv_at hl 1 rfl) ?_
  refine rx_callv (vx_runS (As := [.int a1]) (rest := []) ⟨hx, hb, hml, hown, hw⟩ (mT_needRegister l hlT sa a1 _ _ h) (va_cwS 1 hw g_T_27 rfl rfl rfl (by decide +kernel) ⟨Nat.le_of_ble_eq_true rfl, Nat.le_of_ble_eq_true rfl⟩) (xs_PS hXT) rfl rfl hl.1 rfl (lv_room (Nat.le_of_ble_eq_true rfl)) d_T_needObject_1 ⟨Nat.le_of_ble_eq_true rfl, Nat.le_of_ble_eq_true rfl⟩) (fun E9 ce q9 H1 h hz hk hce hcv hcl => ?_) (fun h => ?_)
  · exact rq_out hEx hlocks h hz hk hce hcv hcl (Nat.le_of_ble_eq_true rfl) (Nat.le_of_ble_eq_true rfl)
  · refine lv_aload_n hx hb d_T_needObject_4 rfl (lv_at hl 0 rfl) ?_
    refine va_get (D := (dC, dI)) (ci := 0) (v := .ref aR) (C := R_T) (T := T_T) (N := 2) hx hb hw in_T hown hK hP 0 rfl rfl 0 (by decide) (hw _ wd_98) (fun _ h9 => h9) rfl d_T_needObject_5 ?_
    refine lv_iload_n hx hb d_T_needObject_8 rfl (lv_at hl 1 rfl) ?_
    refine va_iald hx hb hK hP 1 0 rfl rfl h.1 d_T_needObject_9 ?_
    have h := h.2
    refine rq_calli (W.runS (As := [.int (R a1.toNatClampNeg)]) (rest := []) ⟨hx, hb, hml, hown, hw⟩ (mV_isObject l (R a1.toNatClampNeg) _ h) (va_cwS 1 hw g_T_113 rfl rfl rfl (by decide +kernel) ⟨Nat.le_of_ble_eq_true rfl, Nat.le_of_ble_eq_true rfl⟩) preEq rfl rfl hl.1 rfl (lv_room (Nat.le_of_ble_eq_true rfl)) d_T_needObject_10 ⟨Nat.le_of_ble_eq_true rfl, Nat.le_of_ble_eq_true rfl⟩) (fun r10 h => ?_)
    refine lv_if_ne (tgt := 26) hx hb d_T_needObject_13 (by decide) (fun c_13 => ?_) (fun c_13 => ?_)
    · have h := h.2 c_13
      refine W.widen (k := 2) (n := 12) (Nat.le_of_ble_eq_true rfl) (Nat.le_of_ble_eq_true rfl) ?_
      exact vx_ret (W.vret hx hb hr9 (fun t ht hW => ⟨rfl, h, ht⟩) (fun _ h9 => nomatch h9) d_T_needObject_26)
    · have h := h.1 c_13
      exact vx_throwS (own := R_T) (cls := "java/lang/IllegalArgumentException") (text := "the register has no object") (names := ["java/lang/RuntimeException", "java/lang/Exception"]) (A := fun _ => False) (sa := sa 2) hx hb hlT hown (by decide +kernel) (by decide +kernel) (hw _ wd_185) (hw _ wd_39) hXT.2.2.2.2.1 (vx_hat (fun w h9 => hw w (xa_T_153 w h9)) xa_T_153_n (vx_c (hXT.2.2.2.2.2.2.2.2.2.1 _) (vx_c (hXT.2.2.2.2.2.2.2.2.2.2.2.2.1 _) (vx_c (hXT.2.2.2.2.2.2.2.2.2.2.2.2.2.1 _) (vx_c (hXT.2.2.2.2.2.2.2.2.2.2.2.2.2.2 _) vx_n))))) (by decide +kernel) hXT.1 hXT.2.1 va_S.rf (hl.1.trans hml.symm) d_T_needObject_16 d_T_needObject_19 d_T_needObject_20 d_T_needObject_22 d_T_needObject_25 (fun x hx => (hEx x hx).elim) (Nat.le_of_ble_eq_true rfl) (Nat.le_of_ble_eq_true rfl) (Nat.le_of_ble_eq_true rfl) (Nat.le_of_ble_eq_true rfl) hlocks (fun t hvm hz hk => ⟨h, hz, hk⟩) (fun _ h9 => nomatch h9) (Nat.le_of_ble_eq_true rfl) (Nat.le_of_ble_eq_true rfl)
def wqT_needSlots (nW : Nat) (nE : Nat) (R : Nat → Int32) (f : Nat → Int32) (P : Nat → Int32) (a1 : Int32) (post : Prop) (px : String → Prop) : Prop :=
  wqT_needRegister a1 (vp_in a1 32 ∧ (wqM_holdsSlots nW nE f P (R a1.toNatClampNeg) (fun r14 => (r14 = 0 → (px "java/lang/IllegalArgumentException")) ∧ (¬ (r14 = 0) → post)))) (fun E => px E)
set_option maxHeartbeats 4000000 in
set_option maxRecDepth 100000 in
theorem mT_needSlots (l : Launch) (hlT : l.stackTraces = false) (sa : Nat → Nat) (dC : Nat → ClassId) (dI : Nat → Nat → Nat) (cA : ClassId) (a0 : Nat) (aR : Nat) (aM : Nat) (aW : Nat) (aP : Nat) (aS : Nat) (aC : Nat) (aO : Nat) (nW : Nat) (nE : Nat) (R : Nat → Int32) (f : Nat → Int32) (us : Int32) (P : Nat → Int32) (S : Nat → Int32) (sc : Int32) (li : Int32) (rc : Nat → Int32) (rn : Int32) (ro : Nat → Int32) (rd : Int32) (st : Int32) (a1 : Int32) (post : Prop) (px : String → Prop) (h : wqT_needSlots nW nE R f P a1 post px) : vx_Met l y_T_needSlots ws_T_needSlots ({ frames := 7, cells := 2, slots := 12, locals := 120 }) (xo_P (dC, dI) vwCl (TSw cA a0 aR aM aW aP aS aC aO nW nE R f us P S sc li rc rn ro rd st) [(cA, .int)] sa [.ref a0, .int a1]) (rq_v post) (rq_X px) 2 12 (fun _ => False) := by
  refine vx_ofW (cc := c_T_needSlots) (maxL := 2) (ret := none) (by decide) rfl ?_
  intro p e s m args below meth c s₁ B hml hEx hv
  obtain ⟨rfl, hP, hK, hXT⟩ := hv
  have hx := B.exec
  have hb := B.bytes
  have hr9 := B.returns
  have hts := atoms_spec (ws := ws_T_needSlots) B.pre
  have hw : ∀ w ∈ WB_, w.before _ s = true := fun w h => hts w (List.mem_cons_of_mem _ h)
  have hown : s.vm.findClass R_T = some m.cls := findClass_of_methodNamed B.named
  have hlocks := B.notSynchronized
  have hl := lv_entry ([.ref a0, .int a1]) (n := 2) (Nat.le_of_ble_eq_true rfl)
  rw [lg_entry_eq]
  generalize (lg_sl ([.ref a0, .int a1]) ++ List.replicate (2 - (lg_sl ([.ref a0, .int a1])).length) Slot.unset).toArray = ls at hl ⊢
  have hl : lv_has ls 2 [(0, .ref a0), (1, .int a1)] := hl
  unfold wqT_needSlots at h
  refine lv_iload_n hx hb d_T_needSlots_0 rfl (lv_at hl 1 rfl) ?_
  refine rx_callv (vx_runS (As := [.int a1]) (rest := []) ⟨hx, hb, hml, hown, hw⟩ (mT_needRegister l hlT sa a1 _ _ h) (va_cwS 1 hw g_T_27 rfl rfl rfl (by decide +kernel) ⟨Nat.le_of_ble_eq_true rfl, Nat.le_of_ble_eq_true rfl⟩) (xs_PS hXT) rfl rfl hl.1 rfl (lv_room (Nat.le_of_ble_eq_true rfl)) d_T_needSlots_1 ⟨Nat.le_of_ble_eq_true rfl, Nat.le_of_ble_eq_true rfl⟩) (fun E9 ce q9 H1 h hz hk hce hcv hcl => ?_) (fun h => ?_)
  · exact rq_out hEx hlocks h hz hk hce hcv hcl (Nat.le_of_ble_eq_true rfl) (Nat.le_of_ble_eq_true rfl)
  · refine lv_aload_n hx hb d_T_needSlots_4 rfl (lv_at hl 0 rfl) ?_
    refine va_get (D := (dC, dI)) (ci := 0) (v := .ref aM) (C := R_T) (T := T_T) (N := 2) hx hb hw in_T hown hK hP 0 rfl rfl 1 (by decide) (hw _ wd_99) (fun _ h9 => h9) rfl d_T_needSlots_5 ?_
    refine lv_aload_n hx hb d_T_needSlots_8 rfl (lv_at hl 0 rfl) ?_
    refine va_get (D := (dC, dI)) (ci := 0) (v := .ref aR) (C := R_T) (T := T_T) (N := 2) hx hb hw in_T hown hK hP 0 rfl rfl 0 (by decide) (hw _ wd_98) (fun _ h9 => h9) rfl d_T_needSlots_9 ?_
    refine lv_iload_n hx hb d_T_needSlots_12 rfl (lv_at hl 1 rfl) ?_
    refine va_iald hx hb hK hP 1 0 rfl rfl h.1 d_T_needSlots_13 ?_
    have h := h.2
    refine rq_calli (W.runV (As := [.int (R a1.toNatClampNeg)]) (rest := []) ⟨hx, hb, hml, hown, hw⟩ (mM_holdsSlots l dC dI cA a0 aR aM aW aP aS aC aO nW nE R f us P S sc li rc rn ro rd st (R a1.toNatClampNeg) _ h) (cwV 1 hw g_T_80 rfl rfl rfl (by decide +kernel) ⟨Nat.le_of_ble_eq_true rfl, Nat.le_of_ble_eq_true rfl⟩) (ro_PV (ci := 1) (q0 := 2) hK hP rfl rfl) rfl rfl hl.1 rfl (lv_room (Nat.le_of_ble_eq_true rfl)) d_T_needSlots_14 ⟨Nat.le_of_ble_eq_true rfl, Nat.le_of_ble_eq_true rfl⟩) (fun r14 h => ?_)
    refine lv_if_ne (tgt := 30) hx hb d_T_needSlots_17 (by decide) (fun c_17 => ?_) (fun c_17 => ?_)
    · have h := h.2 c_17
      refine W.widen (k := 2) (n := 12) (Nat.le_of_ble_eq_true rfl) (Nat.le_of_ble_eq_true rfl) ?_
      exact vx_ret (W.vret hx hb hr9 (fun t ht hW => ⟨rfl, h, ht⟩) (fun _ h9 => nomatch h9) d_T_needSlots_30)
    · have h := h.1 c_17
      exact vx_throwS (own := R_T) (cls := "java/lang/IllegalArgumentException") (text := "the register has no object of slots") (names := ["java/lang/RuntimeException", "java/lang/Exception"]) (A := fun _ => False) (sa := sa 3) hx hb hlT hown (by decide +kernel) (by decide +kernel) (hw _ wd_185) (hw _ wd_39) hXT.2.2.2.2.2.1 (vx_hat (fun w h9 => hw w (xa_T_153 w h9)) xa_T_153_n (vx_c (hXT.2.2.2.2.2.2.2.2.2.1 _) (vx_c (hXT.2.2.2.2.2.2.2.2.2.2.2.2.1 _) (vx_c (hXT.2.2.2.2.2.2.2.2.2.2.2.2.2.1 _) (vx_c (hXT.2.2.2.2.2.2.2.2.2.2.2.2.2.2 _) vx_n))))) (by decide +kernel) hXT.1 hXT.2.1 va_S.rf (hl.1.trans hml.symm) d_T_needSlots_20 d_T_needSlots_23 d_T_needSlots_24 d_T_needSlots_26 d_T_needSlots_29 (fun x hx => (hEx x hx).elim) (Nat.le_of_ble_eq_true rfl) (Nat.le_of_ble_eq_true rfl) (Nat.le_of_ble_eq_true rfl) (Nat.le_of_ble_eq_true rfl) hlocks (fun t hvm hz hk => ⟨h, hz, hk⟩) (fun _ h9 => nomatch h9) (Nat.le_of_ble_eq_true rfl) (Nat.le_of_ble_eq_true rfl)
def wqT_needBytes (nW : Nat) (nE : Nat) (R : Nat → Int32) (f : Nat → Int32) (P : Nat → Int32) (a1 : Int32) (post : Prop) (px : String → Prop) : Prop :=
  wqT_needRegister a1 (vp_in a1 32 ∧ (wqM_holdsBytes nW nE f P (R a1.toNatClampNeg) (fun r14 => (r14 = 0 → (px "java/lang/IllegalArgumentException")) ∧ (¬ (r14 = 0) → post)))) (fun E => px E)
set_option maxHeartbeats 4000000 in
set_option maxRecDepth 100000 in
theorem mT_needBytes (l : Launch) (hlT : l.stackTraces = false) (sa : Nat → Nat) (dC : Nat → ClassId) (dI : Nat → Nat → Nat) (cA : ClassId) (a0 : Nat) (aR : Nat) (aM : Nat) (aW : Nat) (aP : Nat) (aS : Nat) (aC : Nat) (aO : Nat) (nW : Nat) (nE : Nat) (R : Nat → Int32) (f : Nat → Int32) (us : Int32) (P : Nat → Int32) (S : Nat → Int32) (sc : Int32) (li : Int32) (rc : Nat → Int32) (rn : Int32) (ro : Nat → Int32) (rd : Int32) (st : Int32) (a1 : Int32) (post : Prop) (px : String → Prop) (h : wqT_needBytes nW nE R f P a1 post px) : vx_Met l y_T_needBytes ws_T_needBytes ({ frames := 7, cells := 2, slots := 12, locals := 120 }) (xo_P (dC, dI) vwCl (TSw cA a0 aR aM aW aP aS aC aO nW nE R f us P S sc li rc rn ro rd st) [(cA, .int)] sa [.ref a0, .int a1]) (rq_v post) (rq_X px) 2 12 (fun _ => False) := by
  refine vx_ofW (cc := c_T_needBytes) (maxL := 2) (ret := none) (by decide) rfl ?_
  intro p e s m args below meth c s₁ B hml hEx hv
  obtain ⟨rfl, hP, hK, hXT⟩ := hv
  have hx := B.exec
  have hb := B.bytes
  have hr9 := B.returns
  have hts := atoms_spec (ws := ws_T_needBytes) B.pre
  have hw : ∀ w ∈ WB_, w.before _ s = true := fun w h => hts w (List.mem_cons_of_mem _ h)
  have hown : s.vm.findClass R_T = some m.cls := findClass_of_methodNamed B.named
  have hlocks := B.notSynchronized
  have hl := lv_entry ([.ref a0, .int a1]) (n := 2) (Nat.le_of_ble_eq_true rfl)
  rw [lg_entry_eq]
  generalize (lg_sl ([.ref a0, .int a1]) ++ List.replicate (2 - (lg_sl ([.ref a0, .int a1])).length) Slot.unset).toArray = ls at hl ⊢
  have hl : lv_has ls 2 [(0, .ref a0), (1, .int a1)] := hl
  unfold wqT_needBytes at h
  refine lv_iload_n hx hb d_T_needBytes_0 rfl (lv_at hl 1 rfl) ?_
  refine rx_callv (vx_runS (As := [.int a1]) (rest := []) ⟨hx, hb, hml, hown, hw⟩ (mT_needRegister l hlT sa a1 _ _ h) (va_cwS 1 hw g_T_27 rfl rfl rfl (by decide +kernel) ⟨Nat.le_of_ble_eq_true rfl, Nat.le_of_ble_eq_true rfl⟩) (xs_PS hXT) rfl rfl hl.1 rfl (lv_room (Nat.le_of_ble_eq_true rfl)) d_T_needBytes_1 ⟨Nat.le_of_ble_eq_true rfl, Nat.le_of_ble_eq_true rfl⟩) (fun E9 ce q9 H1 h hz hk hce hcv hcl => ?_) (fun h => ?_)
  · exact rq_out hEx hlocks h hz hk hce hcv hcl (Nat.le_of_ble_eq_true rfl) (Nat.le_of_ble_eq_true rfl)
  · refine lv_aload_n hx hb d_T_needBytes_4 rfl (lv_at hl 0 rfl) ?_
    refine va_get (D := (dC, dI)) (ci := 0) (v := .ref aM) (C := R_T) (T := T_T) (N := 2) hx hb hw in_T hown hK hP 0 rfl rfl 1 (by decide) (hw _ wd_99) (fun _ h9 => h9) rfl d_T_needBytes_5 ?_
    refine lv_aload_n hx hb d_T_needBytes_8 rfl (lv_at hl 0 rfl) ?_
    refine va_get (D := (dC, dI)) (ci := 0) (v := .ref aR) (C := R_T) (T := T_T) (N := 2) hx hb hw in_T hown hK hP 0 rfl rfl 0 (by decide) (hw _ wd_98) (fun _ h9 => h9) rfl d_T_needBytes_9 ?_
    refine lv_iload_n hx hb d_T_needBytes_12 rfl (lv_at hl 1 rfl) ?_
    refine va_iald hx hb hK hP 1 0 rfl rfl h.1 d_T_needBytes_13 ?_
    have h := h.2
    refine rq_calli (W.runV (As := [.int (R a1.toNatClampNeg)]) (rest := []) ⟨hx, hb, hml, hown, hw⟩ (mM_holdsBytes l dC dI cA a0 aR aM aW aP aS aC aO nW nE R f us P S sc li rc rn ro rd st (R a1.toNatClampNeg) _ h) (cwV 1 hw g_T_143 rfl rfl rfl (by decide +kernel) ⟨Nat.le_of_ble_eq_true rfl, Nat.le_of_ble_eq_true rfl⟩) (ro_PV (ci := 1) (q0 := 2) hK hP rfl rfl) rfl rfl hl.1 rfl (lv_room (Nat.le_of_ble_eq_true rfl)) d_T_needBytes_14 ⟨Nat.le_of_ble_eq_true rfl, Nat.le_of_ble_eq_true rfl⟩) (fun r14 h => ?_)
    refine lv_if_ne (tgt := 30) hx hb d_T_needBytes_17 (by decide) (fun c_17 => ?_) (fun c_17 => ?_)
    · have h := h.2 c_17
      refine W.widen (k := 2) (n := 12) (Nat.le_of_ble_eq_true rfl) (Nat.le_of_ble_eq_true rfl) ?_
      exact vx_ret (W.vret hx hb hr9 (fun t ht hW => ⟨rfl, h, ht⟩) (fun _ h9 => nomatch h9) d_T_needBytes_30)
    · have h := h.1 c_17
      exact vx_throwS (own := R_T) (cls := "java/lang/IllegalArgumentException") (text := "the register has no object of bytes") (names := ["java/lang/RuntimeException", "java/lang/Exception"]) (A := fun _ => False) (sa := sa 4) hx hb hlT hown (by decide +kernel) (by decide +kernel) (hw _ wd_185) (hw _ wd_39) hXT.2.2.2.2.2.2.1 (vx_hat (fun w h9 => hw w (xa_T_153 w h9)) xa_T_153_n (vx_c (hXT.2.2.2.2.2.2.2.2.2.1 _) (vx_c (hXT.2.2.2.2.2.2.2.2.2.2.2.2.1 _) (vx_c (hXT.2.2.2.2.2.2.2.2.2.2.2.2.2.1 _) (vx_c (hXT.2.2.2.2.2.2.2.2.2.2.2.2.2.2 _) vx_n))))) (by decide +kernel) hXT.1 hXT.2.1 va_S.rf (hl.1.trans hml.symm) d_T_needBytes_20 d_T_needBytes_23 d_T_needBytes_24 d_T_needBytes_26 d_T_needBytes_29 (fun x hx => (hEx x hx).elim) (Nat.le_of_ble_eq_true rfl) (Nat.le_of_ble_eq_true rfl) (Nat.le_of_ble_eq_true rfl) (Nat.le_of_ble_eq_true rfl) hlocks (fun t hvm hz hk => ⟨h, hz, hk⟩) (fun _ h9 => nomatch h9) (Nat.le_of_ble_eq_true rfl) (Nat.le_of_ble_eq_true rfl)
def wqT_needIndex (nW : Nat) (nE : Nat) (R : Nat → Int32) (f : Nat → Int32) (P : Nat → Int32) (a1 : Int32) (a2 : Int32) (post : Prop) (px : String → Prop) : Prop :=
  vp_in a1 32 ∧ (wqM_count nW nE f P (R a1.toNatClampNeg) (fun r12 => wqT_isBetween a2 (0 : Int32) (r12 - (1 : Int32)) (fun r17 => (r17 = 0 → (px "java/lang/IndexOutOfBoundsException")) ∧ (¬ (r17 = 0) → post))))
set_option maxHeartbeats 4000000 in
set_option maxRecDepth 100000 in
theorem mT_needIndex (l : Launch) (hlT : l.stackTraces = false) (sa : Nat → Nat) (dC : Nat → ClassId) (dI : Nat → Nat → Nat) (cA : ClassId) (a0 : Nat) (aR : Nat) (aM : Nat) (aW : Nat) (aP : Nat) (aS : Nat) (aC : Nat) (aO : Nat) (nW : Nat) (nE : Nat) (R : Nat → Int32) (f : Nat → Int32) (us : Int32) (P : Nat → Int32) (S : Nat → Int32) (sc : Int32) (li : Int32) (rc : Nat → Int32) (rn : Int32) (ro : Nat → Int32) (rd : Int32) (st : Int32) (a1 : Int32) (a2 : Int32) (post : Prop) (px : String → Prop) (h : wqT_needIndex nW nE R f P a1 a2 post px) : vx_Met l y_T_needIndex ws_T_needIndex ({ frames := 6, cells := 1, slots := 6, locals := 100 }) (xo_P (dC, dI) vwCl (TSw cA a0 aR aM aW aP aS aC aO nW nE R f us P S sc li rc rn ro rd st) [(cA, .int)] sa [.ref a0, .int a1, .int a2]) (rq_v post) (rq_X px) 1 6 (fun _ => False) := by
  refine vx_ofW (cc := c_T_needIndex) (maxL := 3) (ret := none) (by decide) rfl ?_
  intro p e s m args below meth c s₁ B hml hEx hv
  obtain ⟨rfl, hP, hK, hXT⟩ := hv
  have hx := B.exec
  have hb := B.bytes
  have hr9 := B.returns
  have hts := atoms_spec (ws := ws_T_needIndex) B.pre
  have hw : ∀ w ∈ WB_, w.before _ s = true := fun w h => hts w (List.mem_cons_of_mem _ h)
  have hown : s.vm.findClass R_T = some m.cls := findClass_of_methodNamed B.named
  have hlocks := B.notSynchronized
  have hl := lv_entry ([.ref a0, .int a1, .int a2]) (n := 3) (Nat.le_of_ble_eq_true rfl)
  rw [lg_entry_eq]
  generalize (lg_sl ([.ref a0, .int a1, .int a2]) ++ List.replicate (3 - (lg_sl ([.ref a0, .int a1, .int a2])).length) Slot.unset).toArray = ls at hl ⊢
  have hl : lv_has ls 3 [(0, .ref a0), (1, .int a1), (2, .int a2)] := hl
  unfold wqT_needIndex at h
  refine lv_iload_n hx hb d_T_needIndex_0 rfl (lv_at hl 2 rfl) ?_
  refine lv_iconst (v := (0 : Int32)) hx hb d_T_needIndex_1 (by decide) ?_
  refine lv_aload_n hx hb d_T_needIndex_2 rfl (lv_at hl 0 rfl) ?_
  refine va_get (D := (dC, dI)) (ci := 0) (v := .ref aM) (C := R_T) (T := T_T) (N := 2) hx hb hw in_T hown hK hP 0 rfl rfl 1 (by decide) (hw _ wd_99) (fun _ h9 => h9) rfl d_T_needIndex_3 ?_
  refine lv_aload_n hx hb d_T_needIndex_6 rfl (lv_at hl 0 rfl) ?_
  refine va_get (D := (dC, dI)) (ci := 0) (v := .ref aR) (C := R_T) (T := T_T) (N := 2) hx hb hw in_T hown hK hP 0 rfl rfl 0 (by decide) (hw _ wd_98) (fun _ h9 => h9) rfl d_T_needIndex_7 ?_
  refine lv_iload_n hx hb d_T_needIndex_10 rfl (lv_at hl 1 rfl) ?_
  refine va_iald hx hb hK hP 1 0 rfl rfl h.1 d_T_needIndex_11 ?_
  have h := h.2
  refine rq_calli (W.runV (As := [.int (R a1.toNatClampNeg)]) (rest := [.int (0 : Int32), .int a2]) ⟨hx, hb, hml, hown, hw⟩ (mM_count l dC dI cA a0 aR aM aW aP aS aC aO nW nE R f us P S sc li rc rn ro rd st (R a1.toNatClampNeg) _ h) (cwV 1 hw g_T_84 rfl rfl rfl (by decide +kernel) ⟨Nat.le_of_ble_eq_true rfl, Nat.le_of_ble_eq_true rfl⟩) (ro_PV (ci := 1) (q0 := 2) hK hP rfl rfl) rfl rfl hl.1 rfl (lv_room (Nat.le_of_ble_eq_true rfl)) d_T_needIndex_12 ⟨Nat.le_of_ble_eq_true rfl, Nat.le_of_ble_eq_true rfl⟩) (fun r12 h => ?_)
  refine lv_iconst (v := (1 : Int32)) hx hb d_T_needIndex_15 (by decide) ?_
  refine lv_isub hx hb d_T_needIndex_16 ?_
  refine rq_calli (W.runS (As := [.int a2, .int (0 : Int32), .int (r12 - (1 : Int32))]) (rest := []) ⟨hx, hb, hml, hown, hw⟩ (mT_isBetween l a2 (0 : Int32) (r12 - (1 : Int32)) _ h) (va_cwS 3 hw g_T_16 rfl rfl rfl (by decide +kernel) ⟨Nat.le_of_ble_eq_true rfl, Nat.le_of_ble_eq_true rfl⟩) preEq rfl rfl hl.1 rfl (lv_room (Nat.le_of_ble_eq_true rfl)) d_T_needIndex_17 ⟨Nat.le_of_ble_eq_true rfl, Nat.le_of_ble_eq_true rfl⟩) (fun r17 h => ?_)
  refine lv_if_ne (tgt := 33) hx hb d_T_needIndex_20 (by decide) (fun c_20 => ?_) (fun c_20 => ?_)
  · have h := h.2 c_20
    refine W.widen (k := 1) (n := 6) (Nat.le_of_ble_eq_true rfl) (Nat.le_of_ble_eq_true rfl) ?_
    exact vx_ret (W.vret hx hb hr9 (fun t ht hW => ⟨rfl, h, ht⟩) (fun _ h9 => nomatch h9) d_T_needIndex_33)
  · have h := h.1 c_20
    exact vx_throwS (own := R_T) (cls := "java/lang/IndexOutOfBoundsException") (text := "the object has no such slot or byte") (names := ["java/lang/RuntimeException", "java/lang/Exception"]) (A := fun _ => False) (sa := sa 5) hx hb hlT hown (by decide +kernel) (by decide +kernel) (hw _ wd_398) (hw _ wd_43) hXT.2.2.2.2.2.2.2.1 (vx_hat (fun w h9 => hw w (xa_T_168 w h9)) xa_T_168_n (vx_c (hXT.2.2.2.2.2.2.2.2.2.2.1 _) (vx_c (hXT.2.2.2.2.2.2.2.2.2.2.2.2.1 _) (vx_c (hXT.2.2.2.2.2.2.2.2.2.2.2.2.2.1 _) (vx_c (hXT.2.2.2.2.2.2.2.2.2.2.2.2.2.2 _) vx_n))))) (by decide +kernel) hXT.1 hXT.2.1 va_S.rf (hl.1.trans hml.symm) d_T_needIndex_23 d_T_needIndex_26 d_T_needIndex_27 d_T_needIndex_29 d_T_needIndex_32 (fun x hx => (hEx x hx).elim) (Nat.le_of_ble_eq_true rfl) (Nat.le_of_ble_eq_true rfl) (Nat.le_of_ble_eq_true rfl) (Nat.le_of_ble_eq_true rfl) hlocks (fun t hvm hz hk => ⟨h, hz, hk⟩) (fun _ h9 => nomatch h9) (Nat.le_of_ble_eq_true rfl) (Nat.le_of_ble_eq_true rfl)
def wqT_setRegister (nW : Nat) (nE : Nat) (R : Nat → Int32) (st : Int32) (a1 : Int32) (a2 : Int32) (post : (Nat → Int32) → Int32 → Prop) : Prop :=
  vp_in a1 32 ∧ (wqM_letGo nW nE st (R a1.toNatClampNeg) (fun st_10 => vp_in a1 32 ∧ (post (upd R a1.toNatClampNeg a2) st_10)))
set_option maxHeartbeats 4000000 in
set_option maxRecDepth 100000 in
theorem mT_setRegister (l : Launch) (dC : Nat → ClassId) (dI : Nat → Nat → Nat) (cA : ClassId) (a0 : Nat) (aR : Nat) (aM : Nat) (aW : Nat) (aP : Nat) (aS : Nat) (aC : Nat) (aO : Nat) (nW : Nat) (nE : Nat) (sz : Nat) (R : Nat → Int32) (f : Nat → Int32) (us : Int32) (P : Nat → Int32) (S : Nat → Int32) (sc : Int32) (li : Int32) (rc : Nat → Int32) (rn : Int32) (ro : Nat → Int32) (rd : Int32) (st : Int32) (a1 : Int32) (a2 : Int32) (post : (Nat → Int32) → Int32 → Prop) (h : wqT_setRegister nW nE R st a1 a2 post) : Met l y_T_setRegister ws_T_setRegister ({ frames := 3, cells := 0, slots := 0, locals := 61 }) (rw_P (dC, dI) vwCl (TSw cA a0 aR aM aW aP aS aC aO nW nE R f us P S sc li rc rn ro rd st) [(cA, .int)] sz [.ref a0, .int a1, .int a2]) (va_Qv (fun u : (Nat → Int32) × Int32 => post u.1 u.2) (rw_B (dC, dI) vwCl [(cA, .int)] (va_A (TSw cA a0 aR aM aW aP aS aC aO nW nE R f us P S sc li rc rn ro rd st) sz) (fun u : (Nat → Int32) × Int32 => TSw cA a0 aR aM aW aP aS aC aO nW nE u.1 f us P S sc li rc rn ro rd u.2)) (va_A (TSw cA a0 aR aM aW aP aS aC aO nW nE R f us P S sc li rc rn ro rd st) sz)) 0 0 (va_A (TSw cA a0 aR aM aW aP aS aC aO nW nE R f us P S sc li rc rn ro rd st) sz) := by
  refine Met.ofW (cc := c_T_setRegister) (maxL := 3) (ret := none) (by decide) rfl ?_
  intro p e s m args below meth c s₁ B hml hv
  obtain ⟨rfl, hsz, hP, hK, hD0⟩ := hv
  have hx := B.exec
  have hb := B.bytes
  have hr9 := B.returns
  have hts := atoms_spec (ws := ws_T_setRegister) B.pre
  have hw : ∀ w ∈ WB_, w.before _ s = true := fun w h => hts w (List.mem_cons_of_mem _ h)
  have hown : s.vm.findClass R_T = some m.cls := findClass_of_methodNamed B.named
  have hlocks := B.notSynchronized
  subst hsz
  have hD := hD0.self (sz := s.heap.size)
  generalize hAe : va_A (TSw cA a0 aR aM aW aP aS aC aO nW nE R f us P S sc li rc rn ro rd st) s.heap.size = A at hD ⊢
  have hA : ∀ q : Nat, s.heap.size ≤ q → A q := fun q h => by rw [← hAe]; exact Or.inr h
  have hS : va_S A s.heap s.heap [] := va_S.rf
  have hl := lv_entry ([.ref a0, .int a1, .int a2]) (n := 3) (Nat.le_of_ble_eq_true rfl)
  rw [lg_entry_eq]
  generalize (lg_sl ([.ref a0, .int a1, .int a2]) ++ List.replicate (3 - (lg_sl ([.ref a0, .int a1, .int a2])).length) Slot.unset).toArray = ls at hl ⊢
  have hl : lv_has ls 3 [(0, .ref a0), (1, .int a1), (2, .int a2)] := hl
  unfold wqT_setRegister at h
  refine lv_aload_n hx hb d_T_setRegister_0 rfl (lv_at hl 0 rfl) ?_
  refine va_get (D := (dC, dI)) (ci := 0) (v := .ref aM) (C := R_T) (T := T_T) (N := 2) hx hb hw in_T hown hK hP 0 rfl rfl 1 (by decide) (hw _ wd_99) (fun _ h9 => h9) rfl d_T_setRegister_1 ?_
  refine lv_aload_n hx hb d_T_setRegister_4 rfl (lv_at hl 0 rfl) ?_
  refine va_get (D := (dC, dI)) (ci := 0) (v := .ref aR) (C := R_T) (T := T_T) (N := 2) hx hb hw in_T hown hK hP 0 rfl rfl 0 (by decide) (hw _ wd_98) (fun _ h9 => h9) rfl d_T_setRegister_5 ?_
  refine lv_iload_n hx hb d_T_setRegister_8 rfl (lv_at hl 1 rfl) ?_
  refine va_iald hx hb hK hP 1 0 rfl rfl h.1 d_T_setRegister_9 ?_
  have h := h.2
  have hFc := va_free (wc := TSw cA a0 aR aM aW aP aS aC aO nW nE R f us P S sc li rc rn ro rd st) hD hS hA [0, 1, 2, 3, 4, 5, 6, 7] rfl
  refine va_callv (va_runV (As := [.int (R a1.toNatClampNeg)]) (rest := []) ⟨hx, hb, hml, hown, hw⟩ (mM_letGo l dC dI cA a0 aR aM aW aP aS aC aO nW nE s.heap.size R f us P S sc li rc rn ro rd st (R a1.toNatClampNeg) _ h) (cwV 1 hw g_T_146 rfl rfl rfl (by decide +kernel) ⟨Nat.le_of_ble_eq_true rfl, Nat.le_of_ble_eq_true rfl⟩) (rw_PV (ci := 1) (q0 := 2) hK hP hD rfl rfl) rfl rfl hl.1 rfl (lv_room (Nat.le_of_ble_eq_true rfl)) d_T_setRegister_10 ⟨Nat.le_of_ble_eq_true rfl, Nat.le_of_ble_eq_true rfl⟩) hS (fun q _ h => hFc q h) hFc (fun u t H locs ht hvm h hB hz1 hk1 hS => ?_)
  obtain ⟨st_10, rfl⟩ : ∃ z, z = u := ⟨_, rfl⟩
  obtain ⟨hP, hK1, hD1⟩ := hB
  rw [ht] at hP
  have hD := hD1.weaken (fun _ _ _ q => hFc _ q)
  clear hFc hD1 hK1
  try dsimp only at h
  have hP : va_P (dC, dI) vwCl (TSw cA a0 aR aM aW aP aS aC aO nW nE R f us P S sc li rc rn ro rd st_10) H := hP
  have hD : va_D A (TSw cA a0 aR aM aW aP aS aC aO nW nE R f us P S sc li rc rn ro rd st_10) := hD
  refine lv_aload_n hx hb d_T_setRegister_13 rfl (lv_at hl 0 rfl) ?_
  refine va_get (D := (dC, dI)) (ci := 0) (v := .ref aR) (C := R_T) (T := T_T) (N := 2) hx hb hw in_T hown hK hP 0 rfl rfl 0 (by decide) (hw _ wd_98) (fun _ h9 => h9) rfl d_T_setRegister_14 ?_
  refine lv_iload_n hx hb d_T_setRegister_17 rfl (lv_at hl 1 rfl) ?_
  refine lv_iload_n hx hb d_T_setRegister_18 rfl (lv_at hl 2 rfl) ?_
  refine va_iast hx hb hK hP hD hS 1 0 rfl rfl h.1 d_T_setRegister_19 (fun H locs hP hD hS => ?_)
  have hP : va_P (dC, dI) vwCl (TSw cA a0 aR aM aW aP aS aC aO nW nE (upd R a1.toNatClampNeg a2) f us P S sc li rc rn ro rd st_10) H := hP
  have hD : va_D A (TSw cA a0 aR aM aW aP aS aC aO nW nE (upd R a1.toNatClampNeg a2) f us P S sc li rc rn ro rd st_10) := hD
  have h := h.2
  exact W.vret hx hb hr9 (fun t ht hW => ⟨⟨(upd R a1.toNatClampNeg a2, st_10), rfl, h, by rw [ht]; exact hP, va_K.moved hW.alike hK, hD⟩, hS.F ht⟩) hS.2.2 d_T_setRegister_20
def wqT_number (nW : Nat) (nE : Nat) (R : Nat → Int32) (st : Int32) (a1 : Int32) (a2 : Int32) (post : (Nat → Int32) → Int32 → Prop) (px : String → (Nat → Int32) → Int32 → Prop) : Prop :=
  wqT_needRegister a1 (wqT_needBetween a2 (-1073741824 : Int32) (1073741823 : Int32) (wqV_ofNumber a2 (fun r15 => wqT_setRegister nW nE R st a1 r15 (fun R_18 st_18 => post R_18 st_18))) (fun E => px E R st)) (fun E => px E R st)
set_option maxHeartbeats 4000000 in
set_option maxRecDepth 100000 in
theorem mT_number (l : Launch) (hlT : l.stackTraces = false) (sa : Nat → Nat) (dC : Nat → ClassId) (dI : Nat → Nat → Nat) (cA : ClassId) (a0 : Nat) (aR : Nat) (aM : Nat) (aW : Nat) (aP : Nat) (aS : Nat) (aC : Nat) (aO : Nat) (nW : Nat) (nE : Nat) (sz : Nat) (R : Nat → Int32) (f : Nat → Int32) (us : Int32) (P : Nat → Int32) (S : Nat → Int32) (sc : Int32) (li : Int32) (rc : Nat → Int32) (rn : Int32) (ro : Nat → Int32) (rd : Int32) (st : Int32) (a1 : Int32) (a2 : Int32) (post : (Nat → Int32) → Int32 → Prop) (px : String → (Nat → Int32) → Int32 → Prop) (h : wqT_number nW nE R st a1 a2 post px) : vx_Met l y_T_number ws_T_number ({ frames := 7, cells := 2, slots := 12, locals := 122 }) (xw_P (dC, dI) vwCl (TSw cA a0 aR aM aW aP aS aC aO nW nE R f us P S sc li rc rn ro rd st) [(cA, .int)] sz sa [.ref a0, .int a1, .int a2]) (va_Qv (fun u : (Nat → Int32) × Int32 => post u.1 u.2) (rw_B (dC, dI) vwCl [(cA, .int)] (va_A (TSw cA a0 aR aM aW aP aS aC aO nW nE R f us P S sc li rc rn ro rd st) sz) (fun u : (Nat → Int32) × Int32 => TSw cA a0 aR aM aW aP aS aC aO nW nE u.1 f us P S sc li rc rn ro rd u.2)) (va_A (TSw cA a0 aR aM aW aP aS aC aO nW nE R f us P S sc li rc rn ro rd st) sz)) (rw_X (dC, dI) vwCl [(cA, .int)] (va_A (TSw cA a0 aR aM aW aP aS aC aO nW nE R f us P S sc li rc rn ro rd st) sz) (fun u : (Nat → Int32) × Int32 => TSw cA a0 aR aM aW aP aS aC aO nW nE u.1 f us P S sc li rc rn ro rd u.2) (fun (E : String) (u : (Nat → Int32) × Int32) => px E u.1 u.2)) 2 12 (va_A (TSw cA a0 aR aM aW aP aS aC aO nW nE R f us P S sc li rc rn ro rd st) sz) := by
  refine vx_ofW (cc := c_T_number) (maxL := 3) (ret := none) (by decide) rfl ?_
  intro p e s m args below meth c s₁ B hml hEx hv
  obtain ⟨rfl, hsz, hP, hK, hD0, hXT⟩ := hv
  have hx := B.exec
  have hb := B.bytes
  have hr9 := B.returns
  have hts := atoms_spec (ws := ws_T_number) B.pre
  have hw : ∀ w ∈ WB_, w.before _ s = true := fun w h => hts w (List.mem_cons_of_mem _ h)
  have hown : s.vm.findClass R_T = some m.cls := findClass_of_methodNamed B.named
  have hlocks := B.notSynchronized
  subst hsz
  have hD := hD0.self (sz := s.heap.size)
  generalize hAe : va_A (TSw cA a0 aR aM aW aP aS aC aO nW nE R f us P S sc li rc rn ro rd st) s.heap.size = A at hD hXT ⊢
  have hA : ∀ q : Nat, s.heap.size ≤ q → A q := fun q h => by rw [← hAe]; exact Or.inr h
  have hS : va_S A s.heap s.heap [] := va_S.rf
  have hl := lv_entry ([.ref a0, .int a1, .int a2]) (n := 3) (Nat.le_of_ble_eq_true rfl)
  rw [lg_entry_eq]
  generalize (lg_sl ([.ref a0, .int a1, .int a2]) ++ List.replicate (3 - (lg_sl ([.ref a0, .int a1, .int a2])).length) Slot.unset).toArray = ls at hl ⊢
  have hl : lv_has ls 3 [(0, .ref a0), (1, .int a1), (2, .int a2)] := hl
  unfold wqT_number at h
  refine lv_iload_n hx hb d_T_number_0 rfl (lv_at hl 1 rfl) ?_
  refine rx_callv (vx_runS (As := [.int a1]) (rest := []) ⟨hx, hb, hml, hown, hw⟩ (mT_needRegister l hlT sa a1 _ _ h) (va_cwS 1 hw g_T_27 rfl rfl rfl (by decide +kernel) ⟨Nat.le_of_ble_eq_true rfl, Nat.le_of_ble_eq_true rfl⟩) (xs_PS (xt_at hXT hS)) rfl rfl hl.1 rfl (lv_room (Nat.le_of_ble_eq_true rfl)) d_T_number_1 ⟨Nat.le_of_ble_eq_true rfl, Nat.le_of_ble_eq_true rfl⟩) (fun E9 ce q9 H1 h hz hk hce hcv hcl => ?_) (fun h => ?_)
  · exact rx_out (R, st) rfl hEx hlocks hK hP hD hS h hz hk hce hcv hcl (Nat.le_of_ble_eq_true rfl) (Nat.le_of_ble_eq_true rfl)
  · refine lv_iload_n hx hb d_T_number_4 rfl (lv_at hl 2 rfl) ?_
    refine lv_ldc (v := (-1073741824 : Int32)) hx hb hown (hw _ wd_253) d_T_number_5 ?_
    refine lv_ldc (v := (1073741823 : Int32)) hx hb hown (hw _ wd_254) d_T_number_7 ?_
    refine rx_callv (vx_runS (As := [.int a2, .int (-1073741824 : Int32), .int (1073741823 : Int32)]) (rest := []) ⟨hx, hb, hml, hown, hw⟩ (mT_needBetween l hlT sa a2 (-1073741824 : Int32) (1073741823 : Int32) _ _ h) (va_cwS 3 hw g_T_33 rfl rfl rfl (by decide +kernel) ⟨Nat.le_of_ble_eq_true rfl, Nat.le_of_ble_eq_true rfl⟩) (xs_PS (xt_at hXT hS)) rfl rfl hl.1 rfl (lv_room (Nat.le_of_ble_eq_true rfl)) d_T_number_9 ⟨Nat.le_of_ble_eq_true rfl, Nat.le_of_ble_eq_true rfl⟩) (fun E9 ce q9 H1 h hz hk hce hcv hcl => ?_) (fun h => ?_)
    · exact rx_out (R, st) rfl hEx hlocks hK hP hD hS h hz hk hce hcv hcl (Nat.le_of_ble_eq_true rfl) (Nat.le_of_ble_eq_true rfl)
    · refine lv_aload_n hx hb d_T_number_12 rfl (lv_at hl 0 rfl) ?_
      refine lv_iload_n hx hb d_T_number_13 rfl (lv_at hl 1 rfl) ?_
      refine lv_iload_n hx hb d_T_number_14 rfl (lv_at hl 2 rfl) ?_
      refine rq_calli (W.runS (As := [.int a2]) (rest := [.int a1, .ref a0]) ⟨hx, hb, hml, hown, hw⟩ (mV_ofNumber l a2 _ h) (va_cwS 1 hw g_T_37 rfl rfl rfl (by decide +kernel) ⟨Nat.le_of_ble_eq_true rfl, Nat.le_of_ble_eq_true rfl⟩) preEq rfl rfl hl.1 rfl (lv_room (Nat.le_of_ble_eq_true rfl)) d_T_number_15 ⟨Nat.le_of_ble_eq_true rfl, Nat.le_of_ble_eq_true rfl⟩) (fun r15 h => ?_)
      have hFc := va_free (wc := TSw cA a0 aR aM aW aP aS aC aO nW nE R f us P S sc li rc rn ro rd st) hD hS hA [0, 1, 2, 3, 4, 5, 6, 7] rfl
      refine va_callv (va_runV (As := [.int a1, .int r15]) (rest := []) ⟨hx, hb, hml, hown, hw⟩ (mT_setRegister l dC dI cA a0 aR aM aW aP aS aC aO nW nE s.heap.size R f us P S sc li rc rn ro rd st a1 r15 _ h) (cwV 2 hw g_T_43 rfl rfl rfl (by decide +kernel) ⟨Nat.le_of_ble_eq_true rfl, Nat.le_of_ble_eq_true rfl⟩) (rw_PV (ci := 0) (q0 := 0) hK hP hD rfl rfl) rfl rfl hl.1 rfl (lv_room (Nat.le_of_ble_eq_true rfl)) d_T_number_18 ⟨Nat.le_of_ble_eq_true rfl, Nat.le_of_ble_eq_true rfl⟩) hS (fun q _ h => hFc q h) hFc (fun u t H locs ht hvm h hB hz1 hk1 hS => ?_)
      obtain ⟨R_18, st_18⟩ := u
      obtain ⟨hP, hK1, hD1⟩ := hB
      rw [ht] at hP
      have hD := hD1.weaken (fun _ _ _ q => hFc _ q)
      clear hFc hD1 hK1
      try dsimp only at h
      have hP : va_P (dC, dI) vwCl (TSw cA a0 aR aM aW aP aS aC aO nW nE R_18 f us P S sc li rc rn ro rd st_18) H := hP
      have hD : va_D A (TSw cA a0 aR aM aW aP aS aC aO nW nE R_18 f us P S sc li rc rn ro rd st_18) := hD
      refine W.widen (k := 2) (n := 12) (Nat.le_of_ble_eq_true rfl) (Nat.le_of_ble_eq_true rfl) ?_
      exact vx_ret (W.vret hx hb hr9 (fun t ht hW => ⟨⟨(R_18, st_18), rfl, h, by rw [ht]; exact hP, va_K.moved hW.alike hK, hD⟩, hS.F ht⟩) hS.2.2 d_T_number_21)
def wqT_move (nW : Nat) (nE : Nat) (R : Nat → Int32) (st : Int32) (a1 : Int32) (a2 : Int32) (post : (Nat → Int32) → Int32 → Prop) (px : String → (Nat → Int32) → Int32 → Prop) : Prop :=
  wqT_needRegister a1 (wqT_needRegister a2 (vp_in a2 32 ∧ (wqT_setRegister nW nE R st a1 (R a2.toNatClampNeg) (fun R_16 st_16 => post R_16 st_16))) (fun E => px E R st)) (fun E => px E R st)
set_option maxHeartbeats 4000000 in
set_option maxRecDepth 100000 in
theorem mT_move (l : Launch) (hlT : l.stackTraces = false) (sa : Nat → Nat) (dC : Nat → ClassId) (dI : Nat → Nat → Nat) (cA : ClassId) (a0 : Nat) (aR : Nat) (aM : Nat) (aW : Nat) (aP : Nat) (aS : Nat) (aC : Nat) (aO : Nat) (nW : Nat) (nE : Nat) (sz : Nat) (R : Nat → Int32) (f : Nat → Int32) (us : Int32) (P : Nat → Int32) (S : Nat → Int32) (sc : Int32) (li : Int32) (rc : Nat → Int32) (rn : Int32) (ro : Nat → Int32) (rd : Int32) (st : Int32) (a1 : Int32) (a2 : Int32) (post : (Nat → Int32) → Int32 → Prop) (px : String → (Nat → Int32) → Int32 → Prop) (h : wqT_move nW nE R st a1 a2 post px) : vx_Met l y_T_move ws_T_move ({ frames := 7, cells := 2, slots := 12, locals := 120 }) (xw_P (dC, dI) vwCl (TSw cA a0 aR aM aW aP aS aC aO nW nE R f us P S sc li rc rn ro rd st) [(cA, .int)] sz sa [.ref a0, .int a1, .int a2]) (va_Qv (fun u : (Nat → Int32) × Int32 => post u.1 u.2) (rw_B (dC, dI) vwCl [(cA, .int)] (va_A (TSw cA a0 aR aM aW aP aS aC aO nW nE R f us P S sc li rc rn ro rd st) sz) (fun u : (Nat → Int32) × Int32 => TSw cA a0 aR aM aW aP aS aC aO nW nE u.1 f us P S sc li rc rn ro rd u.2)) (va_A (TSw cA a0 aR aM aW aP aS aC aO nW nE R f us P S sc li rc rn ro rd st) sz)) (rw_X (dC, dI) vwCl [(cA, .int)] (va_A (TSw cA a0 aR aM aW aP aS aC aO nW nE R f us P S sc li rc rn ro rd st) sz) (fun u : (Nat → Int32) × Int32 => TSw cA a0 aR aM aW aP aS aC aO nW nE u.1 f us P S sc li rc rn ro rd u.2) (fun (E : String) (u : (Nat → Int32) × Int32) => px E u.1 u.2)) 2 12 (va_A (TSw cA a0 aR aM aW aP aS aC aO nW nE R f us P S sc li rc rn ro rd st) sz) := by
  refine vx_ofW (cc := c_T_move) (maxL := 3) (ret := none) (by decide) rfl ?_
  intro p e s m args below meth c s₁ B hml hEx hv
  obtain ⟨rfl, hsz, hP, hK, hD0, hXT⟩ := hv
  have hx := B.exec
  have hb := B.bytes
  have hr9 := B.returns
  have hts := atoms_spec (ws := ws_T_move) B.pre
  have hw : ∀ w ∈ WB_, w.before _ s = true := fun w h => hts w (List.mem_cons_of_mem _ h)
  have hown : s.vm.findClass R_T = some m.cls := findClass_of_methodNamed B.named
  have hlocks := B.notSynchronized
  subst hsz
  have hD := hD0.self (sz := s.heap.size)
  generalize hAe : va_A (TSw cA a0 aR aM aW aP aS aC aO nW nE R f us P S sc li rc rn ro rd st) s.heap.size = A at hD hXT ⊢
  have hA : ∀ q : Nat, s.heap.size ≤ q → A q := fun q h => by rw [← hAe]; exact Or.inr h
  have hS : va_S A s.heap s.heap [] := va_S.rf
  have hl := lv_entry ([.ref a0, .int a1, .int a2]) (n := 3) (Nat.le_of_ble_eq_true rfl)
  rw [lg_entry_eq]
  generalize (lg_sl ([.ref a0, .int a1, .int a2]) ++ List.replicate (3 - (lg_sl ([.ref a0, .int a1, .int a2])).length) Slot.unset).toArray = ls at hl ⊢
  have hl : lv_has ls 3 [(0, .ref a0), (1, .int a1), (2, .int a2)] := hl
  unfold wqT_move at h
  refine lv_iload_n hx hb d_T_move_0 rfl (lv_at hl 1 rfl) ?_
  refine rx_callv (vx_runS (As := [.int a1]) (rest := []) ⟨hx, hb, hml, hown, hw⟩ (mT_needRegister l hlT sa a1 _ _ h) (va_cwS 1 hw g_T_27 rfl rfl rfl (by decide +kernel) ⟨Nat.le_of_ble_eq_true rfl, Nat.le_of_ble_eq_true rfl⟩) (xs_PS (xt_at hXT hS)) rfl rfl hl.1 rfl (lv_room (Nat.le_of_ble_eq_true rfl)) d_T_move_1 ⟨Nat.le_of_ble_eq_true rfl, Nat.le_of_ble_eq_true rfl⟩) (fun E9 ce q9 H1 h hz hk hce hcv hcl => ?_) (fun h => ?_)
  · exact rx_out (R, st) rfl hEx hlocks hK hP hD hS h hz hk hce hcv hcl (Nat.le_of_ble_eq_true rfl) (Nat.le_of_ble_eq_true rfl)
  · refine lv_iload_n hx hb d_T_move_4 rfl (lv_at hl 2 rfl) ?_
    refine rx_callv (vx_runS (As := [.int a2]) (rest := []) ⟨hx, hb, hml, hown, hw⟩ (mT_needRegister l hlT sa a2 _ _ h) (va_cwS 1 hw g_T_27 rfl rfl rfl (by decide +kernel) ⟨Nat.le_of_ble_eq_true rfl, Nat.le_of_ble_eq_true rfl⟩) (xs_PS (xt_at hXT hS)) rfl rfl hl.1 rfl (lv_room (Nat.le_of_ble_eq_true rfl)) d_T_move_5 ⟨Nat.le_of_ble_eq_true rfl, Nat.le_of_ble_eq_true rfl⟩) (fun E9 ce q9 H1 h hz hk hce hcv hcl => ?_) (fun h => ?_)
    · exact rx_out (R, st) rfl hEx hlocks hK hP hD hS h hz hk hce hcv hcl (Nat.le_of_ble_eq_true rfl) (Nat.le_of_ble_eq_true rfl)
    · refine lv_aload_n hx hb d_T_move_8 rfl (lv_at hl 0 rfl) ?_
      refine lv_iload_n hx hb d_T_move_9 rfl (lv_at hl 1 rfl) ?_
      refine lv_aload_n hx hb d_T_move_10 rfl (lv_at hl 0 rfl) ?_
      refine va_get (D := (dC, dI)) (ci := 0) (v := .ref aR) (C := R_T) (T := T_T) (N := 2) hx hb hw in_T hown hK hP 0 rfl rfl 0 (by decide) (hw _ wd_98) (fun _ h9 => h9) rfl d_T_move_11 ?_
      refine lv_iload_n hx hb d_T_move_14 rfl (lv_at hl 2 rfl) ?_
      refine va_iald hx hb hK hP 1 0 rfl rfl h.1 d_T_move_15 ?_
      have h := h.2
      have hFc := va_free (wc := TSw cA a0 aR aM aW aP aS aC aO nW nE R f us P S sc li rc rn ro rd st) hD hS hA [0, 1, 2, 3, 4, 5, 6, 7] rfl
      refine va_callv (va_runV (As := [.int a1, .int (R a2.toNatClampNeg)]) (rest := []) ⟨hx, hb, hml, hown, hw⟩ (mT_setRegister l dC dI cA a0 aR aM aW aP aS aC aO nW nE s.heap.size R f us P S sc li rc rn ro rd st a1 (R a2.toNatClampNeg) _ h) (cwV 2 hw g_T_43 rfl rfl rfl (by decide +kernel) ⟨Nat.le_of_ble_eq_true rfl, Nat.le_of_ble_eq_true rfl⟩) (rw_PV (ci := 0) (q0 := 0) hK hP hD rfl rfl) rfl rfl hl.1 rfl (lv_room (Nat.le_of_ble_eq_true rfl)) d_T_move_16 ⟨Nat.le_of_ble_eq_true rfl, Nat.le_of_ble_eq_true rfl⟩) hS (fun q _ h => hFc q h) hFc (fun u t H locs ht hvm h hB hz1 hk1 hS => ?_)
      obtain ⟨R_16, st_16⟩ := u
      obtain ⟨hP, hK1, hD1⟩ := hB
      rw [ht] at hP
      have hD := hD1.weaken (fun _ _ _ q => hFc _ q)
      clear hFc hD1 hK1
      try dsimp only at h
      have hP : va_P (dC, dI) vwCl (TSw cA a0 aR aM aW aP aS aC aO nW nE R_16 f us P S sc li rc rn ro rd st_16) H := hP
      have hD : va_D A (TSw cA a0 aR aM aW aP aS aC aO nW nE R_16 f us P S sc li rc rn ro rd st_16) := hD
      refine W.widen (k := 2) (n := 12) (Nat.le_of_ble_eq_true rfl) (Nat.le_of_ble_eq_true rfl) ?_
      exact vx_ret (W.vret hx hb hr9 (fun t ht hW => ⟨⟨(R_16, st_16), rfl, h, by rw [ht]; exact hP, va_K.moved hW.alike hK, hD⟩, hS.F ht⟩) hS.2.2 d_T_move_19)
def wqT_clear (nW : Nat) (nE : Nat) (R : Nat → Int32) (st : Int32) (a1 : Int32) (post : (Nat → Int32) → Int32 → Prop) (px : String → (Nat → Int32) → Int32 → Prop) : Prop :=
  wqT_needRegister a1 (wqT_setRegister nW nE R st a1 (0 : Int32) (fun R_7 st_7 => post R_7 st_7)) (fun E => px E R st)
set_option maxHeartbeats 4000000 in
set_option maxRecDepth 100000 in
theorem mT_clear (l : Launch) (hlT : l.stackTraces = false) (sa : Nat → Nat) (dC : Nat → ClassId) (dI : Nat → Nat → Nat) (cA : ClassId) (a0 : Nat) (aR : Nat) (aM : Nat) (aW : Nat) (aP : Nat) (aS : Nat) (aC : Nat) (aO : Nat) (nW : Nat) (nE : Nat) (sz : Nat) (R : Nat → Int32) (f : Nat → Int32) (us : Int32) (P : Nat → Int32) (S : Nat → Int32) (sc : Int32) (li : Int32) (rc : Nat → Int32) (rn : Int32) (ro : Nat → Int32) (rd : Int32) (st : Int32) (a1 : Int32) (post : (Nat → Int32) → Int32 → Prop) (px : String → (Nat → Int32) → Int32 → Prop) (h : wqT_clear nW nE R st a1 post px) : vx_Met l y_T_clear ws_T_clear ({ frames := 7, cells := 1, slots := 6, locals := 120 }) (xw_P (dC, dI) vwCl (TSw cA a0 aR aM aW aP aS aC aO nW nE R f us P S sc li rc rn ro rd st) [(cA, .int)] sz sa [.ref a0, .int a1]) (va_Qv (fun u : (Nat → Int32) × Int32 => post u.1 u.2) (rw_B (dC, dI) vwCl [(cA, .int)] (va_A (TSw cA a0 aR aM aW aP aS aC aO nW nE R f us P S sc li rc rn ro rd st) sz) (fun u : (Nat → Int32) × Int32 => TSw cA a0 aR aM aW aP aS aC aO nW nE u.1 f us P S sc li rc rn ro rd u.2)) (va_A (TSw cA a0 aR aM aW aP aS aC aO nW nE R f us P S sc li rc rn ro rd st) sz)) (rw_X (dC, dI) vwCl [(cA, .int)] (va_A (TSw cA a0 aR aM aW aP aS aC aO nW nE R f us P S sc li rc rn ro rd st) sz) (fun u : (Nat → Int32) × Int32 => TSw cA a0 aR aM aW aP aS aC aO nW nE u.1 f us P S sc li rc rn ro rd u.2) (fun (E : String) (u : (Nat → Int32) × Int32) => px E u.1 u.2)) 1 6 (va_A (TSw cA a0 aR aM aW aP aS aC aO nW nE R f us P S sc li rc rn ro rd st) sz) := by
  refine vx_ofW (cc := c_T_clear) (maxL := 2) (ret := none) (by decide) rfl ?_
  intro p e s m args below meth c s₁ B hml hEx hv
  obtain ⟨rfl, hsz, hP, hK, hD0, hXT⟩ := hv
  have hx := B.exec
  have hb := B.bytes
  have hr9 := B.returns
  have hts := atoms_spec (ws := ws_T_clear) B.pre
  have hw : ∀ w ∈ WB_, w.before _ s = true := fun w h => hts w (List.mem_cons_of_mem _ h)
  have hown : s.vm.findClass R_T = some m.cls := findClass_of_methodNamed B.named
  have hlocks := B.notSynchronized
  subst hsz
  have hD := hD0.self (sz := s.heap.size)
  generalize hAe : va_A (TSw cA a0 aR aM aW aP aS aC aO nW nE R f us P S sc li rc rn ro rd st) s.heap.size = A at hD hXT ⊢
  have hA : ∀ q : Nat, s.heap.size ≤ q → A q := fun q h => by rw [← hAe]; exact Or.inr h
  have hS : va_S A s.heap s.heap [] := va_S.rf
  have hl := lv_entry ([.ref a0, .int a1]) (n := 2) (Nat.le_of_ble_eq_true rfl)
  rw [lg_entry_eq]
  generalize (lg_sl ([.ref a0, .int a1]) ++ List.replicate (2 - (lg_sl ([.ref a0, .int a1])).length) Slot.unset).toArray = ls at hl ⊢
  have hl : lv_has ls 2 [(0, .ref a0), (1, .int a1)] := hl
  unfold wqT_clear at h
  refine lv_iload_n hx hb d_T_clear_0 rfl (lv_at hl 1 rfl) ?_
  refine rx_callv (vx_runS (As := [.int a1]) (rest := []) ⟨hx, hb, hml, hown, hw⟩ (mT_needRegister l hlT sa a1 _ _ h) (va_cwS 1 hw g_T_27 rfl rfl rfl (by decide +kernel) ⟨Nat.le_of_ble_eq_true rfl, Nat.le_of_ble_eq_true rfl⟩) (xs_PS (xt_at hXT hS)) rfl rfl hl.1 rfl (lv_room (Nat.le_of_ble_eq_true rfl)) d_T_clear_1 ⟨Nat.le_of_ble_eq_true rfl, Nat.le_of_ble_eq_true rfl⟩) (fun E9 ce q9 H1 h hz hk hce hcv hcl => ?_) (fun h => ?_)
  · exact rx_out (R, st) rfl hEx hlocks hK hP hD hS h hz hk hce hcv hcl (Nat.le_of_ble_eq_true rfl) (Nat.le_of_ble_eq_true rfl)
  · refine lv_aload_n hx hb d_T_clear_4 rfl (lv_at hl 0 rfl) ?_
    refine lv_iload_n hx hb d_T_clear_5 rfl (lv_at hl 1 rfl) ?_
    refine lv_iconst (v := (0 : Int32)) hx hb d_T_clear_6 (by decide) ?_
    have hFc := va_free (wc := TSw cA a0 aR aM aW aP aS aC aO nW nE R f us P S sc li rc rn ro rd st) hD hS hA [0, 1, 2, 3, 4, 5, 6, 7] rfl
    refine va_callv (va_runV (As := [.int a1, .int (0 : Int32)]) (rest := []) ⟨hx, hb, hml, hown, hw⟩ (mT_setRegister l dC dI cA a0 aR aM aW aP aS aC aO nW nE s.heap.size R f us P S sc li rc rn ro rd st a1 (0 : Int32) _ h) (cwV 2 hw g_T_43 rfl rfl rfl (by decide +kernel) ⟨Nat.le_of_ble_eq_true rfl, Nat.le_of_ble_eq_true rfl⟩) (rw_PV (ci := 0) (q0 := 0) hK hP hD rfl rfl) rfl rfl hl.1 rfl (lv_room (Nat.le_of_ble_eq_true rfl)) d_T_clear_7 ⟨Nat.le_of_ble_eq_true rfl, Nat.le_of_ble_eq_true rfl⟩) hS (fun q _ h => hFc q h) hFc (fun u t H locs ht hvm h hB hz1 hk1 hS => ?_)
    obtain ⟨R_7, st_7⟩ := u
    obtain ⟨hP, hK1, hD1⟩ := hB
    rw [ht] at hP
    have hD := hD1.weaken (fun _ _ _ q => hFc _ q)
    clear hFc hD1 hK1
    try dsimp only at h
    have hP : va_P (dC, dI) vwCl (TSw cA a0 aR aM aW aP aS aC aO nW nE R_7 f us P S sc li rc rn ro rd st_7) H := hP
    have hD : va_D A (TSw cA a0 aR aM aW aP aS aC aO nW nE R_7 f us P S sc li rc rn ro rd st_7) := hD
    refine W.widen (k := 1) (n := 6) (Nat.le_of_ble_eq_true rfl) (Nat.le_of_ble_eq_true rfl) ?_
    exact vx_ret (W.vret hx hb hr9 (fun t ht hW => ⟨⟨(R_7, st_7), rfl, h, by rw [ht]; exact hP, va_K.moved hW.alike hK, hD⟩, hS.F ht⟩) hS.2.2 d_T_clear_10)
def wqT_make_27 (nW : Nat) (nE : Nat) (y1_27 : Int32) (y2_27 : Int32) (y3_27 : Int32) (y4_27 : Int32) (R_27 : Nat → Int32) (f_27 : Nat → Int32) (us_27 : Int32) (P_27 : Nat → Int32) (S_27 : Nat → Int32) (sc_27 : Int32) (li_27 : Int32) (rc_27 : Nat → Int32) (rn_27 : Int32) (ro_27 : Nat → Int32) (rd_27 : Int32) (st_27 : Int32) (post : Int32 → (Nat → Int32) → (Nat → Int32) → Int32 → (Nat → Int32) → (Nat → Int32) → Int32 → Int32 → (Nat → Int32) → Int32 → (Nat → Int32) → Int32 → Int32 → Prop) (px : String → (Nat → Int32) → (Nat → Int32) → Int32 → (Nat → Int32) → (Nat → Int32) → Int32 → Int32 → (Nat → Int32) → Int32 → (Nat → Int32) → Int32 → Int32 → Prop) : Prop :=
  vp_in y2_27 32 ∧ (wqM_shape y3_27 y4_27 (fun r40 => wqM_build nW nE R_27 f_27 us_27 P_27 S_27 sc_27 li_27 rc_27 rn_27 ro_27 rd_27 st_27 (R_27 y2_27.toNatClampNeg) r40 (fun r47 f_47 us_47 P_47 S_47 sc_47 li_47 rc_47 rn_47 ro_47 rd_47 st_47 => wqT_needMade r47 (wqT_setRegister nW nE R_27 st_47 y1_27 r47 (fun R_61 st_61 => wqM_identity nW nE f_47 P_47 r47 (fun r70 => post r70 R_61 f_47 us_47 P_47 S_47 sc_47 li_47 rc_47 rn_47 ro_47 rd_47 st_61))) (fun E => px E R_27 f_47 us_47 P_47 S_47 sc_47 li_47 rc_47 rn_47 ro_47 rd_47 st_47))))
def wqT_make (nW : Nat) (nE : Nat) (R : Nat → Int32) (f : Nat → Int32) (us : Int32) (P : Nat → Int32) (S : Nat → Int32) (sc : Int32) (li : Int32) (rc : Nat → Int32) (rn : Int32) (ro : Nat → Int32) (rd : Int32) (st : Int32) (a1 : Int32) (a2 : Int32) (a3 : Int32) (a4 : Int32) (post : Int32 → (Nat → Int32) → (Nat → Int32) → Int32 → (Nat → Int32) → (Nat → Int32) → Int32 → Int32 → (Nat → Int32) → Int32 → (Nat → Int32) → Int32 → Int32 → Prop) (px : String → (Nat → Int32) → (Nat → Int32) → Int32 → (Nat → Int32) → (Nat → Int32) → Int32 → Int32 → (Nat → Int32) → Int32 → (Nat → Int32) → Int32 → Int32 → Prop) : Prop :=
  wqT_needRegister a1 (wqT_needRegister a2 ((a4 = 0 → (wqT_needBetween a3 (0 : Int32) (16000 : Int32) (wqT_make_27 nW nE a1 a2 a3 a4 R f us P S sc li rc rn ro rd st post px) (fun E => px E R f us P S sc li rc rn ro rd st))) ∧ (¬ (a4 = 0) → (wqT_needBetween a3 (0 : Int32) (4000 : Int32) (wqT_make_27 nW nE a1 a2 a3 a4 R f us P S sc li rc rn ro rd st post px) (fun E => px E R f us P S sc li rc rn ro rd st)))) (fun E => px E R f us P S sc li rc rn ro rd st)) (fun E => px E R f us P S sc li rc rn ro rd st)
set_option maxHeartbeats 4000000 in
set_option maxRecDepth 100000 in
theorem mT_make (l : Launch) (hlT : l.stackTraces = false) (sa : Nat → Nat) (dC : Nat → ClassId) (dI : Nat → Nat → Nat) (cA : ClassId) (a0 : Nat) (aR : Nat) (aM : Nat) (aW : Nat) (aP : Nat) (aS : Nat) (aC : Nat) (aO : Nat) (nW : Nat) (nE : Nat) (sz : Nat) (R : Nat → Int32) (f : Nat → Int32) (us : Int32) (P : Nat → Int32) (S : Nat → Int32) (sc : Int32) (li : Int32) (rc : Nat → Int32) (rn : Int32) (ro : Nat → Int32) (rd : Int32) (st : Int32) (a1 : Int32) (a2 : Int32) (a3 : Int32) (a4 : Int32) (post : Int32 → (Nat → Int32) → (Nat → Int32) → Int32 → (Nat → Int32) → (Nat → Int32) → Int32 → Int32 → (Nat → Int32) → Int32 → (Nat → Int32) → Int32 → Int32 → Prop) (px : String → (Nat → Int32) → (Nat → Int32) → Int32 → (Nat → Int32) → (Nat → Int32) → Int32 → Int32 → (Nat → Int32) → Int32 → (Nat → Int32) → Int32 → Int32 → Prop) (h : wqT_make nW nE R f us P S sc li rc rn ro rd st a1 a2 a3 a4 post px) : vx_Met l y_T_make ws_T_make ({ frames := 7, cells := 4, slots := 24, locals := 139 }) (xw_P (dC, dI) vwCl (TSw cA a0 aR aM aW aP aS aC aO nW nE R f us P S sc li rc rn ro rd st) [(cA, .int)] sz sa [.ref a0, .int a1, .int a2, .int a3, .int a4]) (va_Qi (fun (r : Int32) (u : (Nat → Int32) × (Nat → Int32) × Int32 × (Nat → Int32) × (Nat → Int32) × Int32 × Int32 × (Nat → Int32) × Int32 × (Nat → Int32) × Int32 × Int32) => post r u.1 u.2.1 u.2.2.1 u.2.2.2.1 u.2.2.2.2.1 u.2.2.2.2.2.1 u.2.2.2.2.2.2.1 u.2.2.2.2.2.2.2.1 u.2.2.2.2.2.2.2.2.1 u.2.2.2.2.2.2.2.2.2.1 u.2.2.2.2.2.2.2.2.2.2.1 u.2.2.2.2.2.2.2.2.2.2.2) (rw_B (dC, dI) vwCl [(cA, .int)] (va_A (TSw cA a0 aR aM aW aP aS aC aO nW nE R f us P S sc li rc rn ro rd st) sz) (fun u : (Nat → Int32) × (Nat → Int32) × Int32 × (Nat → Int32) × (Nat → Int32) × Int32 × Int32 × (Nat → Int32) × Int32 × (Nat → Int32) × Int32 × Int32 => TSw cA a0 aR aM aW aP aS aC aO nW nE u.1 u.2.1 u.2.2.1 u.2.2.2.1 u.2.2.2.2.1 u.2.2.2.2.2.1 u.2.2.2.2.2.2.1 u.2.2.2.2.2.2.2.1 u.2.2.2.2.2.2.2.2.1 u.2.2.2.2.2.2.2.2.2.1 u.2.2.2.2.2.2.2.2.2.2.1 u.2.2.2.2.2.2.2.2.2.2.2)) (va_A (TSw cA a0 aR aM aW aP aS aC aO nW nE R f us P S sc li rc rn ro rd st) sz)) (rw_X (dC, dI) vwCl [(cA, .int)] (va_A (TSw cA a0 aR aM aW aP aS aC aO nW nE R f us P S sc li rc rn ro rd st) sz) (fun u : (Nat → Int32) × (Nat → Int32) × Int32 × (Nat → Int32) × (Nat → Int32) × Int32 × Int32 × (Nat → Int32) × Int32 × (Nat → Int32) × Int32 × Int32 => TSw cA a0 aR aM aW aP aS aC aO nW nE u.1 u.2.1 u.2.2.1 u.2.2.2.1 u.2.2.2.2.1 u.2.2.2.2.2.1 u.2.2.2.2.2.2.1 u.2.2.2.2.2.2.2.1 u.2.2.2.2.2.2.2.2.1 u.2.2.2.2.2.2.2.2.2.1 u.2.2.2.2.2.2.2.2.2.2.1 u.2.2.2.2.2.2.2.2.2.2.2) (fun (E : String) (u : (Nat → Int32) × (Nat → Int32) × Int32 × (Nat → Int32) × (Nat → Int32) × Int32 × Int32 × (Nat → Int32) × Int32 × (Nat → Int32) × Int32 × Int32) => px E u.1 u.2.1 u.2.2.1 u.2.2.2.1 u.2.2.2.2.1 u.2.2.2.2.2.1 u.2.2.2.2.2.2.1 u.2.2.2.2.2.2.2.1 u.2.2.2.2.2.2.2.2.1 u.2.2.2.2.2.2.2.2.2.1 u.2.2.2.2.2.2.2.2.2.2.1 u.2.2.2.2.2.2.2.2.2.2.2)) 4 24 (va_A (TSw cA a0 aR aM aW aP aS aC aO nW nE R f us P S sc li rc rn ro rd st) sz) := by
  refine vx_ofW (cc := c_T_make) (maxL := 6) (ret := (some .int)) (by decide) rfl ?_
  intro p e s m args below meth c s₁ B hml hEx hv
  obtain ⟨rfl, hsz, hP, hK, hD0, hXT⟩ := hv
  have hx := B.exec
  have hb := B.bytes
  have hr9 := B.returns
  have hts := atoms_spec (ws := ws_T_make) B.pre
  have hw : ∀ w ∈ WB_, w.before _ s = true := fun w h => hts w (List.mem_cons_of_mem _ h)
  have hown : s.vm.findClass R_T = some m.cls := findClass_of_methodNamed B.named
  have hlocks := B.notSynchronized
  subst hsz
  have hD := hD0.self (sz := s.heap.size)
  generalize hAe : va_A (TSw cA a0 aR aM aW aP aS aC aO nW nE R f us P S sc li rc rn ro rd st) s.heap.size = A at hD hXT ⊢
  have hA : ∀ q : Nat, s.heap.size ≤ q → A q := fun q h => by rw [← hAe]; exact Or.inr h
  have hS : va_S A s.heap s.heap [] := va_S.rf
  have hl := lv_entry ([.ref a0, .int a1, .int a2, .int a3, .int a4]) (n := 6) (Nat.le_of_ble_eq_true rfl)
  rw [lg_entry_eq]
  generalize (lg_sl ([.ref a0, .int a1, .int a2, .int a3, .int a4]) ++ List.replicate (6 - (lg_sl ([.ref a0, .int a1, .int a2, .int a3, .int a4])).length) Slot.unset).toArray = ls at hl ⊢
  have hl : lv_has ls 6 [(0, .ref a0), (1, .int a1), (2, .int a2), (3, .int a3), (4, .int a4)] := hl
  have lp_27 : ∀ (y1_27 : Int32) (y2_27 : Int32) (y3_27 : Int32) (y4_27 : Int32) (R_27 : Nat → Int32) (f_27 : Nat → Int32) (us_27 : Int32) (P_27 : Nat → Int32) (S_27 : Nat → Int32) (sc_27 : Int32) (li_27 : Int32) (rc_27 : Nat → Int32) (rn_27 : Int32) (ro_27 : Nat → Int32) (rd_27 : Int32) (st_27 : Int32) (H : Heap) (locs : List Loc) (ls : Array Slot), va_P (dC, dI) vwCl (TSw cA a0 aR aM aW aP aS aC aO nW nE R_27 f_27 us_27 P_27 S_27 sc_27 li_27 rc_27 rn_27 ro_27 rd_27 st_27) H → va_D A (TSw cA a0 aR aM aW aP aS aC aO nW nE R_27 f_27 us_27 P_27 S_27 sc_27 li_27 rc_27 rn_27 ro_27 rd_27 st_27) → va_S A s.heap H locs → lv_has ls 6 [(0, .ref a0), (1, .int y1_27), (2, .int y2_27), (3, .int y3_27), (4, .int y4_27)] → wqT_make_27 nW nE y1_27 y2_27 y3_27 y4_27 R_27 f_27 us_27 P_27 S_27 sc_27 li_27 rc_27 rn_27 ro_27 rd_27 st_27 post px → W p l e (headSpec ws_T_make ({ frames := 7, cells := 4, slots := 24, locals := 139 })).room s m ([.ref a0, .int a1, .int a2, .int a3, .int a4] : List Value).toArray below meth c H locs 3 18 (vx_MQ below (va_Qi (fun (r : Int32) (u : (Nat → Int32) × (Nat → Int32) × Int32 × (Nat → Int32) × (Nat → Int32) × Int32 × Int32 × (Nat → Int32) × Int32 × (Nat → Int32) × Int32 × Int32) => post r u.1 u.2.1 u.2.2.1 u.2.2.2.1 u.2.2.2.2.1 u.2.2.2.2.2.1 u.2.2.2.2.2.2.1 u.2.2.2.2.2.2.2.1 u.2.2.2.2.2.2.2.2.1 u.2.2.2.2.2.2.2.2.2.1 u.2.2.2.2.2.2.2.2.2.2.1 u.2.2.2.2.2.2.2.2.2.2.2) (rw_B (dC, dI) vwCl [(cA, .int)] A (fun u : (Nat → Int32) × (Nat → Int32) × Int32 × (Nat → Int32) × (Nat → Int32) × Int32 × Int32 × (Nat → Int32) × Int32 × (Nat → Int32) × Int32 × Int32 => TSw cA a0 aR aM aW aP aS aC aO nW nE u.1 u.2.1 u.2.2.1 u.2.2.2.1 u.2.2.2.2.1 u.2.2.2.2.2.1 u.2.2.2.2.2.2.1 u.2.2.2.2.2.2.2.1 u.2.2.2.2.2.2.2.2.1 u.2.2.2.2.2.2.2.2.2.1 u.2.2.2.2.2.2.2.2.2.2.1 u.2.2.2.2.2.2.2.2.2.2.2)) A) (rw_X (dC, dI) vwCl [(cA, .int)] A (fun u : (Nat → Int32) × (Nat → Int32) × Int32 × (Nat → Int32) × (Nat → Int32) × Int32 × Int32 × (Nat → Int32) × Int32 × (Nat → Int32) × Int32 × Int32 => TSw cA a0 aR aM aW aP aS aC aO nW nE u.1 u.2.1 u.2.2.1 u.2.2.2.1 u.2.2.2.2.1 u.2.2.2.2.2.1 u.2.2.2.2.2.2.1 u.2.2.2.2.2.2.2.1 u.2.2.2.2.2.2.2.2.1 u.2.2.2.2.2.2.2.2.2.1 u.2.2.2.2.2.2.2.2.2.2.1 u.2.2.2.2.2.2.2.2.2.2.2) (fun (E : String) (u : (Nat → Int32) × (Nat → Int32) × Int32 × (Nat → Int32) × (Nat → Int32) × Int32 × Int32 × (Nat → Int32) × Int32 × (Nat → Int32) × Int32 × Int32) => px E u.1 u.2.1 u.2.2.1 u.2.2.2.1 u.2.2.2.2.1 u.2.2.2.2.2.1 u.2.2.2.2.2.2.1 u.2.2.2.2.2.2.2.1 u.2.2.2.2.2.2.2.2.1 u.2.2.2.2.2.2.2.2.2.1 u.2.2.2.2.2.2.2.2.2.2.1 u.2.2.2.2.2.2.2.2.2.2.2)) ([.ref a0, .int a1, .int a2, .int a3, .int a4] : List Value).toArray s 4 24 A) (F0 m 27 ls []) := by
    intro y1_27 y2_27 y3_27 y4_27 R_27 f_27 us_27 P_27 S_27 sc_27 li_27 rc_27 rn_27 ro_27 rd_27 st_27 H locs ls hP hD hS hl h
    unfold wqT_make_27 at h
    refine lv_aload_n hx hb d_T_make_27 rfl (lv_at hl 0 rfl) ?_
    refine va_get (D := (dC, dI)) (ci := 0) (v := .ref aM) (C := R_T) (T := T_T) (N := 2) hx hb hw in_T hown hK hP 0 rfl rfl 1 (by decide) (hw _ wd_99) (fun _ h9 => h9) rfl d_T_make_28 ?_
    refine lv_aload_n hx hb d_T_make_31 rfl (lv_at hl 0 rfl) ?_
    refine va_get (D := (dC, dI)) (ci := 0) (v := .ref aR) (C := R_T) (T := T_T) (N := 2) hx hb hw in_T hown hK hP 0 rfl rfl 0 (by decide) (hw _ wd_98) (fun _ h9 => h9) rfl d_T_make_32 ?_
    refine lv_iload_n hx hb d_T_make_35 rfl (lv_at hl 2 rfl) ?_
    refine va_iald hx hb hK hP 1 0 rfl rfl h.1 d_T_make_36 ?_
    have h := h.2
    refine lv_iload_n hx hb d_T_make_37 rfl (lv_at hl 3 rfl) ?_
    refine lv_iload hx hb d_T_make_38 (lv_at hl 4 rfl) ?_
    refine rq_calli (W.runS (As := [.int y3_27, .int y4_27]) (rest := [.int (R_27 y2_27.toNatClampNeg), .ref aM]) ⟨hx, hb, hml, hown, hw⟩ (mM_shape l y3_27 y4_27 _ h) (va_cwS 2 hw g_T_46 rfl rfl rfl (by decide +kernel) ⟨Nat.le_of_ble_eq_true rfl, Nat.le_of_ble_eq_true rfl⟩) preEq rfl rfl hl.1 rfl (lv_room (Nat.le_of_ble_eq_true rfl)) d_T_make_40 ⟨Nat.le_of_ble_eq_true rfl, Nat.le_of_ble_eq_true rfl⟩) (fun r40 h => ?_)
    refine lv_aload_n hx hb d_T_make_43 rfl (lv_at hl 0 rfl) ?_
    refine va_get (D := (dC, dI)) (ci := 0) (v := .ref aR) (C := R_T) (T := T_T) (N := 2) hx hb hw in_T hown hK hP 0 rfl rfl 0 (by decide) (hw _ wd_98) (fun _ h9 => h9) rfl d_T_make_44 ?_
    have hFc := va_free (wc := TSw cA a0 aR aM aW aP aS aC aO nW nE R_27 f_27 us_27 P_27 S_27 sc_27 li_27 rc_27 rn_27 ro_27 rd_27 st_27) hD hS hA [0, 1, 2, 3, 4, 5, 6, 7] rfl
    refine va_calli (va_runV (As := [.int (R_27 y2_27.toNatClampNeg), .int r40, .ref aR]) (rest := []) ⟨hx, hb, hml, hown, hw⟩ (mM_build l dC dI cA a0 aR aM aW aP aS aC aO nW nE H.size R_27 f_27 us_27 P_27 S_27 sc_27 li_27 rc_27 rn_27 ro_27 rd_27 st_27 (R_27 y2_27.toNatClampNeg) r40 _ h) (cwV 3 hw g_T_50 rfl rfl rfl (by decide +kernel) ⟨Nat.le_of_ble_eq_true rfl, Nat.le_of_ble_eq_true rfl⟩) (rw_PV (ci := 1) (q0 := 2) hK hP hD rfl rfl) rfl rfl hl.1 rfl (lv_room (Nat.le_of_ble_eq_true rfl)) d_T_make_47 ⟨Nat.le_of_ble_eq_true rfl, Nat.le_of_ble_eq_true rfl⟩) hS (fun q _ h => hFc q h) hFc (fun r47 u t H locs ht hvm h hB hz1 hk1 hS => ?_)
    obtain ⟨f_47, us_47, P_47, S_47, sc_47, li_47, rc_47, rn_47, ro_47, rd_47, st_47⟩ := u
    obtain ⟨hP, hK1, hD1⟩ := hB
    rw [ht] at hP
    have hD := hD1.weaken (fun _ _ _ q => hFc _ q)
    clear hFc hD1 hK1
    try dsimp only at h
    have hP : va_P (dC, dI) vwCl (TSw cA a0 aR aM aW aP aS aC aO nW nE R_27 f_47 us_47 P_47 S_47 sc_47 li_47 rc_47 rn_47 ro_47 rd_47 st_47) H := hP
    have hD : va_D A (TSw cA a0 aR aM aW aP aS aC aO nW nE R_27 f_47 us_47 P_47 S_47 sc_47 li_47 rc_47 rn_47 ro_47 rd_47 st_47) := hD
    refine lv_istore (lv' := [(5, .int r47), (0, .ref a0), (1, .int y1_27), (2, .int y2_27), (3, .int y3_27), (4, .int y4_27)]) hx hb d_T_make_50 hl (by decide) rfl (fun ls hl => ?_)
    refine lv_iload hx hb d_T_make_52 (lv_at hl 0 rfl) ?_
    refine rx_callv (vx_runS (As := [.int r47]) (rest := []) ⟨hx, hb, hml, hown, hw⟩ (mT_needMade l hlT sa r47 _ _ h) (va_cwS 1 hw g_T_54 rfl rfl rfl (by decide +kernel) ⟨Nat.le_of_ble_eq_true rfl, Nat.le_of_ble_eq_true rfl⟩) (xs_PS (xt_at hXT hS)) rfl rfl hl.1 rfl (lv_room (Nat.le_of_ble_eq_true rfl)) d_T_make_54 ⟨Nat.le_of_ble_eq_true rfl, Nat.le_of_ble_eq_true rfl⟩) (fun E9 ce q9 H1 h hz hk hce hcv hcl => ?_) (fun h => ?_)
    · exact rx_out (R_27, f_47, us_47, P_47, S_47, sc_47, li_47, rc_47, rn_47, ro_47, rd_47, st_47) rfl hEx hlocks hK hP hD hS h hz hk hce hcv hcl (Nat.le_of_ble_eq_true rfl) (Nat.le_of_ble_eq_true rfl)
    · refine lv_aload_n hx hb d_T_make_57 rfl (lv_at hl 1 rfl) ?_
      refine lv_iload_n hx hb d_T_make_58 rfl (lv_at hl 2 rfl) ?_
      refine lv_iload hx hb d_T_make_59 (lv_at hl 0 rfl) ?_
      have hFc := va_free (wc := TSw cA a0 aR aM aW aP aS aC aO nW nE R_27 f_47 us_47 P_47 S_47 sc_47 li_47 rc_47 rn_47 ro_47 rd_47 st_47) hD hS hA [0, 1, 2, 3, 4, 5, 6, 7] rfl
      refine va_callv (va_runV (As := [.int y1_27, .int r47]) (rest := []) ⟨hx, hb, hml, hown, hw⟩ (mT_setRegister l dC dI cA a0 aR aM aW aP aS aC aO nW nE H.size R_27 f_47 us_47 P_47 S_47 sc_47 li_47 rc_47 rn_47 ro_47 rd_47 st_47 y1_27 r47 _ h) (cwV 2 hw g_T_43 rfl rfl rfl (by decide +kernel) ⟨Nat.le_of_ble_eq_true rfl, Nat.le_of_ble_eq_true rfl⟩) (rw_PV (ci := 0) (q0 := 0) hK hP hD rfl rfl) rfl rfl hl.1 rfl (lv_room (Nat.le_of_ble_eq_true rfl)) d_T_make_61 ⟨Nat.le_of_ble_eq_true rfl, Nat.le_of_ble_eq_true rfl⟩) hS (fun q _ h => hFc q h) hFc (fun u t H locs ht hvm h hB hz1 hk1 hS => ?_)
      obtain ⟨R_61, st_61⟩ := u
      obtain ⟨hP, hK1, hD1⟩ := hB
      rw [ht] at hP
      have hD := hD1.weaken (fun _ _ _ q => hFc _ q)
      clear hFc hD1 hK1
      try dsimp only at h
      have hP : va_P (dC, dI) vwCl (TSw cA a0 aR aM aW aP aS aC aO nW nE R_61 f_47 us_47 P_47 S_47 sc_47 li_47 rc_47 rn_47 ro_47 rd_47 st_61) H := hP
      have hD : va_D A (TSw cA a0 aR aM aW aP aS aC aO nW nE R_61 f_47 us_47 P_47 S_47 sc_47 li_47 rc_47 rn_47 ro_47 rd_47 st_61) := hD
      refine lv_aload_n hx hb d_T_make_64 rfl (lv_at hl 1 rfl) ?_
      refine va_get (D := (dC, dI)) (ci := 0) (v := .ref aM) (C := R_T) (T := T_T) (N := 2) hx hb hw in_T hown hK hP 0 rfl rfl 1 (by decide) (hw _ wd_99) (fun _ h9 => h9) rfl d_T_make_65 ?_
      refine lv_iload hx hb d_T_make_68 (lv_at hl 0 rfl) ?_
      refine rq_calli (W.runV (As := [.int r47]) (rest := []) ⟨hx, hb, hml, hown, hw⟩ (mM_identity l dC dI cA a0 aR aM aW aP aS aC aO nW nE R_61 f_47 us_47 P_47 S_47 sc_47 li_47 rc_47 rn_47 ro_47 rd_47 st_61 r47 _ h) (cwV 1 hw g_T_57 rfl rfl rfl (by decide +kernel) ⟨Nat.le_of_ble_eq_true rfl, Nat.le_of_ble_eq_true rfl⟩) (ro_PV (ci := 1) (q0 := 2) hK hP rfl rfl) rfl rfl hl.1 rfl (lv_room (Nat.le_of_ble_eq_true rfl)) d_T_make_70 ⟨Nat.le_of_ble_eq_true rfl, Nat.le_of_ble_eq_true rfl⟩) (fun r70 h => ?_)
      refine W.widen (k := 4) (n := 24) (Nat.le_of_ble_eq_true rfl) (Nat.le_of_ble_eq_true rfl) ?_
      exact vx_ret (W.iret (v := r70) hx hb hr9 (fun t ht hW => ⟨⟨_, (R_61, f_47, us_47, P_47, S_47, sc_47, li_47, rc_47, rn_47, ro_47, rd_47, st_61), rfl, h, by rw [ht]; exact hP, va_K.moved hW.alike hK, hD⟩, hS.F ht⟩) hS.2.2 d_T_make_73)
  unfold wqT_make at h
  refine lv_iload_n hx hb d_T_make_0 rfl (lv_at hl 1 rfl) ?_
  refine rx_callv (vx_runS (As := [.int a1]) (rest := []) ⟨hx, hb, hml, hown, hw⟩ (mT_needRegister l hlT sa a1 _ _ h) (va_cwS 1 hw g_T_27 rfl rfl rfl (by decide +kernel) ⟨Nat.le_of_ble_eq_true rfl, Nat.le_of_ble_eq_true rfl⟩) (xs_PS (xt_at hXT hS)) rfl rfl hl.1 rfl (lv_room (Nat.le_of_ble_eq_true rfl)) d_T_make_1 ⟨Nat.le_of_ble_eq_true rfl, Nat.le_of_ble_eq_true rfl⟩) (fun E9 ce q9 H1 h hz hk hce hcv hcl => ?_) (fun h => ?_)
  · exact rx_out (R, f, us, P, S, sc, li, rc, rn, ro, rd, st) rfl hEx hlocks hK hP hD hS h hz hk hce hcv hcl (Nat.le_of_ble_eq_true rfl) (Nat.le_of_ble_eq_true rfl)
  · refine lv_iload_n hx hb d_T_make_4 rfl (lv_at hl 2 rfl) ?_
    refine rx_callv (vx_runS (As := [.int a2]) (rest := []) ⟨hx, hb, hml, hown, hw⟩ (mT_needRegister l hlT sa a2 _ _ h) (va_cwS 1 hw g_T_27 rfl rfl rfl (by decide +kernel) ⟨Nat.le_of_ble_eq_true rfl, Nat.le_of_ble_eq_true rfl⟩) (xs_PS (xt_at hXT hS)) rfl rfl hl.1 rfl (lv_room (Nat.le_of_ble_eq_true rfl)) d_T_make_5 ⟨Nat.le_of_ble_eq_true rfl, Nat.le_of_ble_eq_true rfl⟩) (fun E9 ce q9 H1 h hz hk hce hcv hcl => ?_) (fun h => ?_)
    · exact rx_out (R, f, us, P, S, sc, li, rc, rn, ro, rd, st) rfl hEx hlocks hK hP hD hS h hz hk hce hcv hcl (Nat.le_of_ble_eq_true rfl) (Nat.le_of_ble_eq_true rfl)
    · refine lv_iload_n hx hb d_T_make_8 rfl (lv_at hl 3 rfl) ?_
      refine lv_iconst (v := (0 : Int32)) hx hb d_T_make_9 (by decide) ?_
      refine lv_iload hx hb d_T_make_10 (lv_at hl 4 rfl) ?_
      refine lv_if_eq (tgt := 21) hx hb d_T_make_12 (by decide) (fun c_12 => ?_) (fun c_12 => ?_)
      · have h := h.1 c_12
        refine lv_sipush (v := (16000 : Int32)) hx hb d_T_make_21 (by decide) ?_
        refine rx_callv (vx_runS (As := [.int a3, .int (0 : Int32), .int (16000 : Int32)]) (rest := []) ⟨hx, hb, hml, hown, hw⟩ (mT_needBetween l hlT sa a3 (0 : Int32) (16000 : Int32) _ _ h) (va_cwS 3 hw g_T_33 rfl rfl rfl (by decide +kernel) ⟨Nat.le_of_ble_eq_true rfl, Nat.le_of_ble_eq_true rfl⟩) (xs_PS (xt_at hXT hS)) rfl rfl hl.1 rfl (lv_room (Nat.le_of_ble_eq_true rfl)) d_T_make_24 ⟨Nat.le_of_ble_eq_true rfl, Nat.le_of_ble_eq_true rfl⟩) (fun E9 ce q9 H1 h hz hk hce hcv hcl => ?_) (fun h => ?_)
        · exact rx_out (R, f, us, P, S, sc, li, rc, rn, ro, rd, st) rfl hEx hlocks hK hP hD hS h hz hk hce hcv hcl (Nat.le_of_ble_eq_true rfl) (Nat.le_of_ble_eq_true rfl)
        · exact lp_27 a1 a2 a3 a4 R f us P S sc li rc rn ro rd st s.heap [] ls hP hD hS (lv_sub hl [0, 1, 2, 3, 4] rfl) h
      · have h := h.2 c_12
        refine lv_sipush (v := (4000 : Int32)) hx hb d_T_make_15 (by decide) ?_
        refine lv_goto (tgt := 24) hx hb d_T_make_18 (by decide) ?_
        refine rx_callv (vx_runS (As := [.int a3, .int (0 : Int32), .int (4000 : Int32)]) (rest := []) ⟨hx, hb, hml, hown, hw⟩ (mT_needBetween l hlT sa a3 (0 : Int32) (4000 : Int32) _ _ h) (va_cwS 3 hw g_T_33 rfl rfl rfl (by decide +kernel) ⟨Nat.le_of_ble_eq_true rfl, Nat.le_of_ble_eq_true rfl⟩) (xs_PS (xt_at hXT hS)) rfl rfl hl.1 rfl (lv_room (Nat.le_of_ble_eq_true rfl)) d_T_make_24 ⟨Nat.le_of_ble_eq_true rfl, Nat.le_of_ble_eq_true rfl⟩) (fun E9 ce q9 H1 h hz hk hce hcv hcl => ?_) (fun h => ?_)
        · exact rx_out (R, f, us, P, S, sc, li, rc, rn, ro, rd, st) rfl hEx hlocks hK hP hD hS h hz hk hce hcv hcl (Nat.le_of_ble_eq_true rfl) (Nat.le_of_ble_eq_true rfl)
        · exact lp_27 a1 a2 a3 a4 R f us P S sc li rc rn ro rd st s.heap [] ls hP hD hS (lv_sub hl [0, 1, 2, 3, 4] rfl) h
def wqT_copy (nW : Nat) (nE : Nat) (R : Nat → Int32) (f : Nat → Int32) (us : Int32) (P : Nat → Int32) (S : Nat → Int32) (sc : Int32) (li : Int32) (rc : Nat → Int32) (rn : Int32) (ro : Nat → Int32) (rd : Int32) (st : Int32) (a1 : Int32) (a2 : Int32) (post : Int32 → (Nat → Int32) → (Nat → Int32) → Int32 → (Nat → Int32) → (Nat → Int32) → Int32 → Int32 → (Nat → Int32) → Int32 → (Nat → Int32) → Int32 → Int32 → Prop) (px : String → (Nat → Int32) → (Nat → Int32) → Int32 → (Nat → Int32) → (Nat → Int32) → Int32 → Int32 → (Nat → Int32) → Int32 → (Nat → Int32) → Int32 → Int32 → Prop) : Prop :=
  wqT_needRegister a1 (wqT_needObject nW nE R a2 (vp_in a2 32 ∧ (wqM_buildLike nW nE R f us P S sc li rc rn ro rd st (R a2.toNatClampNeg) (fun r23 f_23 us_23 P_23 S_23 sc_23 li_23 rc_23 rn_23 ro_23 rd_23 st_23 => wqT_needMade r23 (wqT_setRegister nW nE R st_23 a1 r23 (fun R_34 st_34 => wqM_identity nW nE f_23 P_23 r23 (fun r42 => post r42 R_34 f_23 us_23 P_23 S_23 sc_23 li_23 rc_23 rn_23 ro_23 rd_23 st_34))) (fun E => px E R f_23 us_23 P_23 S_23 sc_23 li_23 rc_23 rn_23 ro_23 rd_23 st_23)))) (fun E => px E R f us P S sc li rc rn ro rd st)) (fun E => px E R f us P S sc li rc rn ro rd st)
set_option maxHeartbeats 4000000 in
set_option maxRecDepth 100000 in
theorem mT_copy (l : Launch) (hlT : l.stackTraces = false) (sa : Nat → Nat) (dC : Nat → ClassId) (dI : Nat → Nat → Nat) (cA : ClassId) (a0 : Nat) (aR : Nat) (aM : Nat) (aW : Nat) (aP : Nat) (aS : Nat) (aC : Nat) (aO : Nat) (nW : Nat) (nE : Nat) (sz : Nat) (R : Nat → Int32) (f : Nat → Int32) (us : Int32) (P : Nat → Int32) (S : Nat → Int32) (sc : Int32) (li : Int32) (rc : Nat → Int32) (rn : Int32) (ro : Nat → Int32) (rd : Int32) (st : Int32) (a1 : Int32) (a2 : Int32) (post : Int32 → (Nat → Int32) → (Nat → Int32) → Int32 → (Nat → Int32) → (Nat → Int32) → Int32 → Int32 → (Nat → Int32) → Int32 → (Nat → Int32) → Int32 → Int32 → Prop) (px : String → (Nat → Int32) → (Nat → Int32) → Int32 → (Nat → Int32) → (Nat → Int32) → Int32 → Int32 → (Nat → Int32) → Int32 → (Nat → Int32) → Int32 → Int32 → Prop) (h : wqT_copy nW nE R f us P S sc li rc rn ro rd st a1 a2 post px) : vx_Met l y_T_copy ws_T_copy ({ frames := 8, cells := 4, slots := 24, locals := 163 }) (xw_P (dC, dI) vwCl (TSw cA a0 aR aM aW aP aS aC aO nW nE R f us P S sc li rc rn ro rd st) [(cA, .int)] sz sa [.ref a0, .int a1, .int a2]) (va_Qi (fun (r : Int32) (u : (Nat → Int32) × (Nat → Int32) × Int32 × (Nat → Int32) × (Nat → Int32) × Int32 × Int32 × (Nat → Int32) × Int32 × (Nat → Int32) × Int32 × Int32) => post r u.1 u.2.1 u.2.2.1 u.2.2.2.1 u.2.2.2.2.1 u.2.2.2.2.2.1 u.2.2.2.2.2.2.1 u.2.2.2.2.2.2.2.1 u.2.2.2.2.2.2.2.2.1 u.2.2.2.2.2.2.2.2.2.1 u.2.2.2.2.2.2.2.2.2.2.1 u.2.2.2.2.2.2.2.2.2.2.2) (rw_B (dC, dI) vwCl [(cA, .int)] (va_A (TSw cA a0 aR aM aW aP aS aC aO nW nE R f us P S sc li rc rn ro rd st) sz) (fun u : (Nat → Int32) × (Nat → Int32) × Int32 × (Nat → Int32) × (Nat → Int32) × Int32 × Int32 × (Nat → Int32) × Int32 × (Nat → Int32) × Int32 × Int32 => TSw cA a0 aR aM aW aP aS aC aO nW nE u.1 u.2.1 u.2.2.1 u.2.2.2.1 u.2.2.2.2.1 u.2.2.2.2.2.1 u.2.2.2.2.2.2.1 u.2.2.2.2.2.2.2.1 u.2.2.2.2.2.2.2.2.1 u.2.2.2.2.2.2.2.2.2.1 u.2.2.2.2.2.2.2.2.2.2.1 u.2.2.2.2.2.2.2.2.2.2.2)) (va_A (TSw cA a0 aR aM aW aP aS aC aO nW nE R f us P S sc li rc rn ro rd st) sz)) (rw_X (dC, dI) vwCl [(cA, .int)] (va_A (TSw cA a0 aR aM aW aP aS aC aO nW nE R f us P S sc li rc rn ro rd st) sz) (fun u : (Nat → Int32) × (Nat → Int32) × Int32 × (Nat → Int32) × (Nat → Int32) × Int32 × Int32 × (Nat → Int32) × Int32 × (Nat → Int32) × Int32 × Int32 => TSw cA a0 aR aM aW aP aS aC aO nW nE u.1 u.2.1 u.2.2.1 u.2.2.2.1 u.2.2.2.2.1 u.2.2.2.2.2.1 u.2.2.2.2.2.2.1 u.2.2.2.2.2.2.2.1 u.2.2.2.2.2.2.2.2.1 u.2.2.2.2.2.2.2.2.2.1 u.2.2.2.2.2.2.2.2.2.2.1 u.2.2.2.2.2.2.2.2.2.2.2) (fun (E : String) (u : (Nat → Int32) × (Nat → Int32) × Int32 × (Nat → Int32) × (Nat → Int32) × Int32 × Int32 × (Nat → Int32) × Int32 × (Nat → Int32) × Int32 × Int32) => px E u.1 u.2.1 u.2.2.1 u.2.2.2.1 u.2.2.2.2.1 u.2.2.2.2.2.1 u.2.2.2.2.2.2.1 u.2.2.2.2.2.2.2.1 u.2.2.2.2.2.2.2.2.1 u.2.2.2.2.2.2.2.2.2.1 u.2.2.2.2.2.2.2.2.2.2.1 u.2.2.2.2.2.2.2.2.2.2.2)) 4 24 (va_A (TSw cA a0 aR aM aW aP aS aC aO nW nE R f us P S sc li rc rn ro rd st) sz) := by
  refine vx_ofW (cc := c_T_copy) (maxL := 4) (ret := (some .int)) (by decide) rfl ?_
  intro p e s m args below meth c s₁ B hml hEx hv
  obtain ⟨rfl, hsz, hP, hK, hD0, hXT⟩ := hv
  have hx := B.exec
  have hb := B.bytes
  have hr9 := B.returns
  have hts := atoms_spec (ws := ws_T_copy) B.pre
  have hw : ∀ w ∈ WB_, w.before _ s = true := fun w h => hts w (List.mem_cons_of_mem _ h)
  have hown : s.vm.findClass R_T = some m.cls := findClass_of_methodNamed B.named
  have hlocks := B.notSynchronized
  subst hsz
  have hD := hD0.self (sz := s.heap.size)
  generalize hAe : va_A (TSw cA a0 aR aM aW aP aS aC aO nW nE R f us P S sc li rc rn ro rd st) s.heap.size = A at hD hXT ⊢
  have hA : ∀ q : Nat, s.heap.size ≤ q → A q := fun q h => by rw [← hAe]; exact Or.inr h
  have hS : va_S A s.heap s.heap [] := va_S.rf
  have hl := lv_entry ([.ref a0, .int a1, .int a2]) (n := 4) (Nat.le_of_ble_eq_true rfl)
  rw [lg_entry_eq]
  generalize (lg_sl ([.ref a0, .int a1, .int a2]) ++ List.replicate (4 - (lg_sl ([.ref a0, .int a1, .int a2])).length) Slot.unset).toArray = ls at hl ⊢
  have hl : lv_has ls 4 [(0, .ref a0), (1, .int a1), (2, .int a2)] := hl
  unfold wqT_copy at h
  refine lv_iload_n hx hb d_T_copy_0 rfl (lv_at hl 1 rfl) ?_
  refine rx_callv (vx_runS (As := [.int a1]) (rest := []) ⟨hx, hb, hml, hown, hw⟩ (mT_needRegister l hlT sa a1 _ _ h) (va_cwS 1 hw g_T_27 rfl rfl rfl (by decide +kernel) ⟨Nat.le_of_ble_eq_true rfl, Nat.le_of_ble_eq_true rfl⟩) (xs_PS (xt_at hXT hS)) rfl rfl hl.1 rfl (lv_room (Nat.le_of_ble_eq_true rfl)) d_T_copy_1 ⟨Nat.le_of_ble_eq_true rfl, Nat.le_of_ble_eq_true rfl⟩) (fun E9 ce q9 H1 h hz hk hce hcv hcl => ?_) (fun h => ?_)
  · exact rx_out (R, f, us, P, S, sc, li, rc, rn, ro, rd, st) rfl hEx hlocks hK hP hD hS h hz hk hce hcv hcl (Nat.le_of_ble_eq_true rfl) (Nat.le_of_ble_eq_true rfl)
  · refine lv_aload_n hx hb d_T_copy_4 rfl (lv_at hl 0 rfl) ?_
    refine lv_iload_n hx hb d_T_copy_5 rfl (lv_at hl 2 rfl) ?_
    refine rx_callv (vx_runV (As := [.int a2]) (rest := []) ⟨hx, hb, hml, hown, hw⟩ (mT_needObject l hlT sa dC dI cA a0 aR aM aW aP aS aC aO nW nE R f us P S sc li rc rn ro rd st a2 _ _ h) (cwV 1 hw g_T_60 rfl rfl rfl (by decide +kernel) ⟨Nat.le_of_ble_eq_true rfl, Nat.le_of_ble_eq_true rfl⟩) (xo_PV (ci := 0) (q0 := 0) hK hP (xt_at hXT hS) rfl rfl) rfl rfl hl.1 rfl (lv_room (Nat.le_of_ble_eq_true rfl)) d_T_copy_6 ⟨Nat.le_of_ble_eq_true rfl, Nat.le_of_ble_eq_true rfl⟩) (fun E9 ce q9 H1 h hz hk hce hcv hcl => ?_) (fun h => ?_)
    · exact rx_out (R, f, us, P, S, sc, li, rc, rn, ro, rd, st) rfl hEx hlocks hK hP hD hS h hz hk hce hcv hcl (Nat.le_of_ble_eq_true rfl) (Nat.le_of_ble_eq_true rfl)
    · refine lv_aload_n hx hb d_T_copy_9 rfl (lv_at hl 0 rfl) ?_
      refine va_get (D := (dC, dI)) (ci := 0) (v := .ref aM) (C := R_T) (T := T_T) (N := 2) hx hb hw in_T hown hK hP 0 rfl rfl 1 (by decide) (hw _ wd_99) (fun _ h9 => h9) rfl d_T_copy_10 ?_
      refine lv_aload_n hx hb d_T_copy_13 rfl (lv_at hl 0 rfl) ?_
      refine va_get (D := (dC, dI)) (ci := 0) (v := .ref aR) (C := R_T) (T := T_T) (N := 2) hx hb hw in_T hown hK hP 0 rfl rfl 0 (by decide) (hw _ wd_98) (fun _ h9 => h9) rfl d_T_copy_14 ?_
      refine lv_iload_n hx hb d_T_copy_17 rfl (lv_at hl 2 rfl) ?_
      refine va_iald hx hb hK hP 1 0 rfl rfl h.1 d_T_copy_18 ?_
      have h := h.2
      refine lv_aload_n hx hb d_T_copy_19 rfl (lv_at hl 0 rfl) ?_
      refine va_get (D := (dC, dI)) (ci := 0) (v := .ref aR) (C := R_T) (T := T_T) (N := 2) hx hb hw in_T hown hK hP 0 rfl rfl 0 (by decide) (hw _ wd_98) (fun _ h9 => h9) rfl d_T_copy_20 ?_
      have hFc := va_free (wc := TSw cA a0 aR aM aW aP aS aC aO nW nE R f us P S sc li rc rn ro rd st) hD hS hA [0, 1, 2, 3, 4, 5, 6, 7] rfl
      refine va_calli (va_runV (As := [.int (R a2.toNatClampNeg), .ref aR]) (rest := []) ⟨hx, hb, hml, hown, hw⟩ (mM_buildLike l dC dI cA a0 aR aM aW aP aS aC aO nW nE s.heap.size R f us P S sc li rc rn ro rd st (R a2.toNatClampNeg) _ h) (cwV 2 hw g_T_63 rfl rfl rfl (by decide +kernel) ⟨Nat.le_of_ble_eq_true rfl, Nat.le_of_ble_eq_true rfl⟩) (rw_PV (ci := 1) (q0 := 2) hK hP hD rfl rfl) rfl rfl hl.1 rfl (lv_room (Nat.le_of_ble_eq_true rfl)) d_T_copy_23 ⟨Nat.le_of_ble_eq_true rfl, Nat.le_of_ble_eq_true rfl⟩) hS (fun q _ h => hFc q h) hFc (fun r23 u t H locs ht hvm h hB hz1 hk1 hS => ?_)
      obtain ⟨f_23, us_23, P_23, S_23, sc_23, li_23, rc_23, rn_23, ro_23, rd_23, st_23⟩ := u
      obtain ⟨hP, hK1, hD1⟩ := hB
      rw [ht] at hP
      have hD := hD1.weaken (fun _ _ _ q => hFc _ q)
      clear hFc hD1 hK1
      try dsimp only at h
      have hP : va_P (dC, dI) vwCl (TSw cA a0 aR aM aW aP aS aC aO nW nE R f_23 us_23 P_23 S_23 sc_23 li_23 rc_23 rn_23 ro_23 rd_23 st_23) H := hP
      have hD : va_D A (TSw cA a0 aR aM aW aP aS aC aO nW nE R f_23 us_23 P_23 S_23 sc_23 li_23 rc_23 rn_23 ro_23 rd_23 st_23) := hD
      refine lv_istore_n (lv' := [(3, .int r23), (0, .ref a0), (1, .int a1), (2, .int a2)]) hx hb d_T_copy_26 rfl hl (by decide) rfl (fun ls hl => ?_)
      refine lv_iload_n hx hb d_T_copy_27 rfl (lv_at hl 0 rfl) ?_
      refine rx_callv (vx_runS (As := [.int r23]) (rest := []) ⟨hx, hb, hml, hown, hw⟩ (mT_needMade l hlT sa r23 _ _ h) (va_cwS 1 hw g_T_54 rfl rfl rfl (by decide +kernel) ⟨Nat.le_of_ble_eq_true rfl, Nat.le_of_ble_eq_true rfl⟩) (xs_PS (xt_at hXT hS)) rfl rfl hl.1 rfl (lv_room (Nat.le_of_ble_eq_true rfl)) d_T_copy_28 ⟨Nat.le_of_ble_eq_true rfl, Nat.le_of_ble_eq_true rfl⟩) (fun E9 ce q9 H1 h hz hk hce hcv hcl => ?_) (fun h => ?_)
      · exact rx_out (R, f_23, us_23, P_23, S_23, sc_23, li_23, rc_23, rn_23, ro_23, rd_23, st_23) rfl hEx hlocks hK hP hD hS h hz hk hce hcv hcl (Nat.le_of_ble_eq_true rfl) (Nat.le_of_ble_eq_true rfl)
      · refine lv_aload_n hx hb d_T_copy_31 rfl (lv_at hl 1 rfl) ?_
        refine lv_iload_n hx hb d_T_copy_32 rfl (lv_at hl 2 rfl) ?_
        refine lv_iload_n hx hb d_T_copy_33 rfl (lv_at hl 0 rfl) ?_
        have hFc := va_free (wc := TSw cA a0 aR aM aW aP aS aC aO nW nE R f_23 us_23 P_23 S_23 sc_23 li_23 rc_23 rn_23 ro_23 rd_23 st_23) hD hS hA [0, 1, 2, 3, 4, 5, 6, 7] rfl
        refine va_callv (va_runV (As := [.int a1, .int r23]) (rest := []) ⟨hx, hb, hml, hown, hw⟩ (mT_setRegister l dC dI cA a0 aR aM aW aP aS aC aO nW nE H.size R f_23 us_23 P_23 S_23 sc_23 li_23 rc_23 rn_23 ro_23 rd_23 st_23 a1 r23 _ h) (cwV 2 hw g_T_43 rfl rfl rfl (by decide +kernel) ⟨Nat.le_of_ble_eq_true rfl, Nat.le_of_ble_eq_true rfl⟩) (rw_PV (ci := 0) (q0 := 0) hK hP hD rfl rfl) rfl rfl hl.1 rfl (lv_room (Nat.le_of_ble_eq_true rfl)) d_T_copy_34 ⟨Nat.le_of_ble_eq_true rfl, Nat.le_of_ble_eq_true rfl⟩) hS (fun q _ h => hFc q h) hFc (fun u t H locs ht hvm h hB hz1 hk1 hS => ?_)
        obtain ⟨R_34, st_34⟩ := u
        obtain ⟨hP, hK1, hD1⟩ := hB
        rw [ht] at hP
        have hD := hD1.weaken (fun _ _ _ q => hFc _ q)
        clear hFc hD1 hK1
        try dsimp only at h
        have hP : va_P (dC, dI) vwCl (TSw cA a0 aR aM aW aP aS aC aO nW nE R_34 f_23 us_23 P_23 S_23 sc_23 li_23 rc_23 rn_23 ro_23 rd_23 st_34) H := hP
        have hD : va_D A (TSw cA a0 aR aM aW aP aS aC aO nW nE R_34 f_23 us_23 P_23 S_23 sc_23 li_23 rc_23 rn_23 ro_23 rd_23 st_34) := hD
        refine lv_aload_n hx hb d_T_copy_37 rfl (lv_at hl 1 rfl) ?_
        refine va_get (D := (dC, dI)) (ci := 0) (v := .ref aM) (C := R_T) (T := T_T) (N := 2) hx hb hw in_T hown hK hP 0 rfl rfl 1 (by decide) (hw _ wd_99) (fun _ h9 => h9) rfl d_T_copy_38 ?_
        refine lv_iload_n hx hb d_T_copy_41 rfl (lv_at hl 0 rfl) ?_
        refine rq_calli (W.runV (As := [.int r23]) (rest := []) ⟨hx, hb, hml, hown, hw⟩ (mM_identity l dC dI cA a0 aR aM aW aP aS aC aO nW nE R_34 f_23 us_23 P_23 S_23 sc_23 li_23 rc_23 rn_23 ro_23 rd_23 st_34 r23 _ h) (cwV 1 hw g_T_57 rfl rfl rfl (by decide +kernel) ⟨Nat.le_of_ble_eq_true rfl, Nat.le_of_ble_eq_true rfl⟩) (ro_PV (ci := 1) (q0 := 2) hK hP rfl rfl) rfl rfl hl.1 rfl (lv_room (Nat.le_of_ble_eq_true rfl)) d_T_copy_42 ⟨Nat.le_of_ble_eq_true rfl, Nat.le_of_ble_eq_true rfl⟩) (fun r42 h => ?_)
        refine W.widen (k := 4) (n := 24) (Nat.le_of_ble_eq_true rfl) (Nat.le_of_ble_eq_true rfl) ?_
        exact vx_ret (W.iret (v := r42) hx hb hr9 (fun t ht hW => ⟨⟨_, (R_34, f_23, us_23, P_23, S_23, sc_23, li_23, rc_23, rn_23, ro_23, rd_23, st_34), rfl, h, by rw [ht]; exact hP, va_K.moved hW.alike hK, hD⟩, hS.F ht⟩) hS.2.2 d_T_copy_45)
def wqT_chain_34 (nW : Nat) (nE : Nat) (y1_34 : Int32) (y2_34 : Int32) (y3_34 : Int32) (y4_34 : Int32) (y5_34 : Int32) (post : Int32 → (Nat → Int32) → (Nat → Int32) → Int32 → (Nat → Int32) → (Nat → Int32) → Int32 → Int32 → (Nat → Int32) → Int32 → (Nat → Int32) → Int32 → Int32 → Prop) (px : String → (Nat → Int32) → (Nat → Int32) → Int32 → (Nat → Int32) → (Nat → Int32) → Int32 → Int32 → (Nat → Int32) → Int32 → (Nat → Int32) → Int32 → Int32 → Prop) (kx : Int32 → (Nat → Int32) → (Nat → Int32) → Int32 → (Nat → Int32) → (Nat → Int32) → Int32 → Int32 → (Nat → Int32) → Int32 → (Nat → Int32) → Int32 → Int32 → Prop) : Nat → Int32 → (Nat → Int32) → (Nat → Int32) → Int32 → (Nat → Int32) → (Nat → Int32) → Int32 → Int32 → (Nat → Int32) → Int32 → (Nat → Int32) → Int32 → Int32 → Prop
  | 0, _, _, _, _, _, _, _, _, _, _, _, _, _ => False
  | n + 1, x6_34, R_34, f_34, us_34, P_34, S_34, sc_34, li_34, rc_34, rn_34, ro_34, rd_34, st_34 =>
    (y4_34 ≤ x6_34 → (kx x6_34 R_34 f_34 us_34 P_34 S_34 sc_34 li_34 rc_34 rn_34 ro_34 rd_34 st_34)) ∧ (¬ (y4_34 ≤ x6_34) → (vp_in y2_34 32 ∧ (wqM_build nW nE R_34 f_34 us_34 P_34 S_34 sc_34 li_34 rc_34 rn_34 ro_34 rd_34 st_34 (R_34 y2_34.toNatClampNeg) y5_34 (fun r57 f_57 us_57 P_57 S_57 sc_57 li_57 rc_57 rn_57 ro_57 rd_57 st_57 => (r57 = 0 → (post x6_34 R_34 f_57 us_57 P_57 S_57 sc_57 li_57 rc_57 rn_57 ro_57 rd_57 st_57)) ∧ (¬ (r57 = 0) → (vp_in y1_34 32 ∧ (wqM_setSlot nW nE f_57 P_57 st_57 r57 (0 : Int32) (R_34 y1_34.toNatClampNeg) (fun f_83 st_83 => vp_in y1_34 32 ∧ (wqT_chain_34 nW nE y1_34 y2_34 y3_34 y4_34 y5_34 post px kx n (x6_34 + (1 : Int32)) (upd R_34 y1_34.toNatClampNeg r57) f_83 us_57 P_57 S_57 sc_57 li_57 rc_57 rn_57 ro_57 rd_57 st_83)))))))))
def wqT_chain (nW : Nat) (nE : Nat) (R : Nat → Int32) (f : Nat → Int32) (us : Int32) (P : Nat → Int32) (S : Nat → Int32) (sc : Int32) (li : Int32) (rc : Nat → Int32) (rn : Int32) (ro : Nat → Int32) (rd : Int32) (st : Int32) (a1 : Int32) (a2 : Int32) (a3 : Int32) (a4 : Int32) (post : Int32 → (Nat → Int32) → (Nat → Int32) → Int32 → (Nat → Int32) → (Nat → Int32) → Int32 → Int32 → (Nat → Int32) → Int32 → (Nat → Int32) → Int32 → Int32 → Prop) (px : String → (Nat → Int32) → (Nat → Int32) → Int32 → (Nat → Int32) → (Nat → Int32) → Int32 → Int32 → (Nat → Int32) → Int32 → (Nat → Int32) → Int32 → Int32 → Prop) : Prop :=
  wqT_needRegister a1 (wqT_needRegister a2 (wqT_needBetween a3 (1 : Int32) (100 : Int32) (wqT_needBetween a4 (1 : Int32) (4000 : Int32) (wqM_shape a3 (1 : Int32) (fun r26 => ∃ k_34, wqT_chain_34 nW nE a1 a2 a3 a4 r26 post px (fun z6_34 Re_34 fe_34 use_34 Pe_34 Se_34 sce_34 lie_34 rce_34 rne_34 roe_34 rde_34 ste_34 => post a4 Re_34 fe_34 use_34 Pe_34 Se_34 sce_34 lie_34 rce_34 rne_34 roe_34 rde_34 ste_34) k_34 (0 : Int32) R f us P S sc li rc rn ro rd st)) (fun E => px E R f us P S sc li rc rn ro rd st)) (fun E => px E R f us P S sc li rc rn ro rd st)) (fun E => px E R f us P S sc li rc rn ro rd st)) (fun E => px E R f us P S sc li rc rn ro rd st)
set_option maxHeartbeats 4000000 in
set_option maxRecDepth 100000 in
theorem mT_chain (l : Launch) (hlT : l.stackTraces = false) (sa : Nat → Nat) (dC : Nat → ClassId) (dI : Nat → Nat → Nat) (cA : ClassId) (a0 : Nat) (aR : Nat) (aM : Nat) (aW : Nat) (aP : Nat) (aS : Nat) (aC : Nat) (aO : Nat) (nW : Nat) (nE : Nat) (sz : Nat) (R : Nat → Int32) (f : Nat → Int32) (us : Int32) (P : Nat → Int32) (S : Nat → Int32) (sc : Int32) (li : Int32) (rc : Nat → Int32) (rn : Int32) (ro : Nat → Int32) (rd : Int32) (st : Int32) (a1 : Int32) (a2 : Int32) (a3 : Int32) (a4 : Int32) (post : Int32 → (Nat → Int32) → (Nat → Int32) → Int32 → (Nat → Int32) → (Nat → Int32) → Int32 → Int32 → (Nat → Int32) → Int32 → (Nat → Int32) → Int32 → Int32 → Prop) (px : String → (Nat → Int32) → (Nat → Int32) → Int32 → (Nat → Int32) → (Nat → Int32) → Int32 → Int32 → (Nat → Int32) → Int32 → (Nat → Int32) → Int32 → Int32 → Prop) (h : wqT_chain nW nE R f us P S sc li rc rn ro rd st a1 a2 a3 a4 post px) : vx_Met l y_T_chain ws_T_chain ({ frames := 7, cells := 4, slots := 24, locals := 139 }) (xw_P (dC, dI) vwCl (TSw cA a0 aR aM aW aP aS aC aO nW nE R f us P S sc li rc rn ro rd st) [(cA, .int)] sz sa [.ref a0, .int a1, .int a2, .int a3, .int a4]) (va_Qi (fun (r : Int32) (u : (Nat → Int32) × (Nat → Int32) × Int32 × (Nat → Int32) × (Nat → Int32) × Int32 × Int32 × (Nat → Int32) × Int32 × (Nat → Int32) × Int32 × Int32) => post r u.1 u.2.1 u.2.2.1 u.2.2.2.1 u.2.2.2.2.1 u.2.2.2.2.2.1 u.2.2.2.2.2.2.1 u.2.2.2.2.2.2.2.1 u.2.2.2.2.2.2.2.2.1 u.2.2.2.2.2.2.2.2.2.1 u.2.2.2.2.2.2.2.2.2.2.1 u.2.2.2.2.2.2.2.2.2.2.2) (rw_B (dC, dI) vwCl [(cA, .int)] (va_A (TSw cA a0 aR aM aW aP aS aC aO nW nE R f us P S sc li rc rn ro rd st) sz) (fun u : (Nat → Int32) × (Nat → Int32) × Int32 × (Nat → Int32) × (Nat → Int32) × Int32 × Int32 × (Nat → Int32) × Int32 × (Nat → Int32) × Int32 × Int32 => TSw cA a0 aR aM aW aP aS aC aO nW nE u.1 u.2.1 u.2.2.1 u.2.2.2.1 u.2.2.2.2.1 u.2.2.2.2.2.1 u.2.2.2.2.2.2.1 u.2.2.2.2.2.2.2.1 u.2.2.2.2.2.2.2.2.1 u.2.2.2.2.2.2.2.2.2.1 u.2.2.2.2.2.2.2.2.2.2.1 u.2.2.2.2.2.2.2.2.2.2.2)) (va_A (TSw cA a0 aR aM aW aP aS aC aO nW nE R f us P S sc li rc rn ro rd st) sz)) (rw_X (dC, dI) vwCl [(cA, .int)] (va_A (TSw cA a0 aR aM aW aP aS aC aO nW nE R f us P S sc li rc rn ro rd st) sz) (fun u : (Nat → Int32) × (Nat → Int32) × Int32 × (Nat → Int32) × (Nat → Int32) × Int32 × Int32 × (Nat → Int32) × Int32 × (Nat → Int32) × Int32 × Int32 => TSw cA a0 aR aM aW aP aS aC aO nW nE u.1 u.2.1 u.2.2.1 u.2.2.2.1 u.2.2.2.2.1 u.2.2.2.2.2.1 u.2.2.2.2.2.2.1 u.2.2.2.2.2.2.2.1 u.2.2.2.2.2.2.2.2.1 u.2.2.2.2.2.2.2.2.2.1 u.2.2.2.2.2.2.2.2.2.2.1 u.2.2.2.2.2.2.2.2.2.2.2) (fun (E : String) (u : (Nat → Int32) × (Nat → Int32) × Int32 × (Nat → Int32) × (Nat → Int32) × Int32 × Int32 × (Nat → Int32) × Int32 × (Nat → Int32) × Int32 × Int32) => px E u.1 u.2.1 u.2.2.1 u.2.2.2.1 u.2.2.2.2.1 u.2.2.2.2.2.1 u.2.2.2.2.2.2.1 u.2.2.2.2.2.2.2.1 u.2.2.2.2.2.2.2.2.1 u.2.2.2.2.2.2.2.2.2.1 u.2.2.2.2.2.2.2.2.2.2.1 u.2.2.2.2.2.2.2.2.2.2.2)) 4 24 (va_A (TSw cA a0 aR aM aW aP aS aC aO nW nE R f us P S sc li rc rn ro rd st) sz) := by
  refine vx_ofW (cc := c_T_chain) (maxL := 8) (ret := (some .int)) (by decide) rfl ?_
  intro p e s m args below meth c s₁ B hml hEx hv
  obtain ⟨rfl, hsz, hP, hK, hD0, hXT⟩ := hv
  have hx := B.exec
  have hb := B.bytes
  have hr9 := B.returns
  have hts := atoms_spec (ws := ws_T_chain) B.pre
  have hw : ∀ w ∈ WB_, w.before _ s = true := fun w h => hts w (List.mem_cons_of_mem _ h)
  have hown : s.vm.findClass R_T = some m.cls := findClass_of_methodNamed B.named
  have hlocks := B.notSynchronized
  subst hsz
  have hD := hD0.self (sz := s.heap.size)
  generalize hAe : va_A (TSw cA a0 aR aM aW aP aS aC aO nW nE R f us P S sc li rc rn ro rd st) s.heap.size = A at hD hXT ⊢
  have hA : ∀ q : Nat, s.heap.size ≤ q → A q := fun q h => by rw [← hAe]; exact Or.inr h
  have hS : va_S A s.heap s.heap [] := va_S.rf
  have hl := lv_entry ([.ref a0, .int a1, .int a2, .int a3, .int a4]) (n := 8) (Nat.le_of_ble_eq_true rfl)
  rw [lg_entry_eq]
  generalize (lg_sl ([.ref a0, .int a1, .int a2, .int a3, .int a4]) ++ List.replicate (8 - (lg_sl ([.ref a0, .int a1, .int a2, .int a3, .int a4])).length) Slot.unset).toArray = ls at hl ⊢
  have hl : lv_has ls 8 [(0, .ref a0), (1, .int a1), (2, .int a2), (3, .int a3), (4, .int a4)] := hl
  have lp_34 : ∀ (y1_34 : Int32) (y2_34 : Int32) (y3_34 : Int32) (y4_34 : Int32) (y5_34 : Int32) (kx : Int32 → (Nat → Int32) → (Nat → Int32) → Int32 → (Nat → Int32) → (Nat → Int32) → Int32 → Int32 → (Nat → Int32) → Int32 → (Nat → Int32) → Int32 → Int32 → Prop), (∀ (z6_34 : Int32) (Re_34 : Nat → Int32) (fe_34 : Nat → Int32) (use_34 : Int32) (Pe_34 : Nat → Int32) (Se_34 : Nat → Int32) (sce_34 : Int32) (lie_34 : Int32) (rce_34 : Nat → Int32) (rne_34 : Int32) (roe_34 : Nat → Int32) (rde_34 : Int32) (ste_34 : Int32) (H : Heap) (locs : List Loc) (ls : Array Slot), va_P (dC, dI) vwCl (TSw cA a0 aR aM aW aP aS aC aO nW nE Re_34 fe_34 use_34 Pe_34 Se_34 sce_34 lie_34 rce_34 rne_34 roe_34 rde_34 ste_34) H → va_D A (TSw cA a0 aR aM aW aP aS aC aO nW nE Re_34 fe_34 use_34 Pe_34 Se_34 sce_34 lie_34 rce_34 rne_34 roe_34 rde_34 ste_34) → va_S A s.heap H locs → lv_has ls 8 [(0, .ref a0), (1, .int y1_34), (2, .int y2_34), (3, .int y3_34), (4, .int y4_34), (5, .int y5_34), (6, .int z6_34)] → kx z6_34 Re_34 fe_34 use_34 Pe_34 Se_34 sce_34 lie_34 rce_34 rne_34 roe_34 rde_34 ste_34 → W p l e (headSpec ws_T_chain ({ frames := 7, cells := 4, slots := 24, locals := 139 })).room s m ([.ref a0, .int a1, .int a2, .int a3, .int a4] : List Value).toArray below meth c H locs 4 24 (vx_MQ below (va_Qi (fun (r : Int32) (u : (Nat → Int32) × (Nat → Int32) × Int32 × (Nat → Int32) × (Nat → Int32) × Int32 × Int32 × (Nat → Int32) × Int32 × (Nat → Int32) × Int32 × Int32) => post r u.1 u.2.1 u.2.2.1 u.2.2.2.1 u.2.2.2.2.1 u.2.2.2.2.2.1 u.2.2.2.2.2.2.1 u.2.2.2.2.2.2.2.1 u.2.2.2.2.2.2.2.2.1 u.2.2.2.2.2.2.2.2.2.1 u.2.2.2.2.2.2.2.2.2.2.1 u.2.2.2.2.2.2.2.2.2.2.2) (rw_B (dC, dI) vwCl [(cA, .int)] A (fun u : (Nat → Int32) × (Nat → Int32) × Int32 × (Nat → Int32) × (Nat → Int32) × Int32 × Int32 × (Nat → Int32) × Int32 × (Nat → Int32) × Int32 × Int32 => TSw cA a0 aR aM aW aP aS aC aO nW nE u.1 u.2.1 u.2.2.1 u.2.2.2.1 u.2.2.2.2.1 u.2.2.2.2.2.1 u.2.2.2.2.2.2.1 u.2.2.2.2.2.2.2.1 u.2.2.2.2.2.2.2.2.1 u.2.2.2.2.2.2.2.2.2.1 u.2.2.2.2.2.2.2.2.2.2.1 u.2.2.2.2.2.2.2.2.2.2.2)) A) (rw_X (dC, dI) vwCl [(cA, .int)] A (fun u : (Nat → Int32) × (Nat → Int32) × Int32 × (Nat → Int32) × (Nat → Int32) × Int32 × Int32 × (Nat → Int32) × Int32 × (Nat → Int32) × Int32 × Int32 => TSw cA a0 aR aM aW aP aS aC aO nW nE u.1 u.2.1 u.2.2.1 u.2.2.2.1 u.2.2.2.2.1 u.2.2.2.2.2.1 u.2.2.2.2.2.2.1 u.2.2.2.2.2.2.2.1 u.2.2.2.2.2.2.2.2.1 u.2.2.2.2.2.2.2.2.2.1 u.2.2.2.2.2.2.2.2.2.2.1 u.2.2.2.2.2.2.2.2.2.2.2) (fun (E : String) (u : (Nat → Int32) × (Nat → Int32) × Int32 × (Nat → Int32) × (Nat → Int32) × Int32 × Int32 × (Nat → Int32) × Int32 × (Nat → Int32) × Int32 × Int32) => px E u.1 u.2.1 u.2.2.1 u.2.2.2.1 u.2.2.2.2.1 u.2.2.2.2.2.1 u.2.2.2.2.2.2.1 u.2.2.2.2.2.2.2.1 u.2.2.2.2.2.2.2.2.1 u.2.2.2.2.2.2.2.2.2.1 u.2.2.2.2.2.2.2.2.2.2.1 u.2.2.2.2.2.2.2.2.2.2.2)) ([.ref a0, .int a1, .int a2, .int a3, .int a4] : List Value).toArray s 4 24 A) (F0 m 100 ls [])) → ∀ (n : Nat) (x6_34 : Int32) (R_34 : Nat → Int32) (f_34 : Nat → Int32) (us_34 : Int32) (P_34 : Nat → Int32) (S_34 : Nat → Int32) (sc_34 : Int32) (li_34 : Int32) (rc_34 : Nat → Int32) (rn_34 : Int32) (ro_34 : Nat → Int32) (rd_34 : Int32) (st_34 : Int32) (H : Heap) (locs : List Loc) (ls : Array Slot), va_P (dC, dI) vwCl (TSw cA a0 aR aM aW aP aS aC aO nW nE R_34 f_34 us_34 P_34 S_34 sc_34 li_34 rc_34 rn_34 ro_34 rd_34 st_34) H → va_D A (TSw cA a0 aR aM aW aP aS aC aO nW nE R_34 f_34 us_34 P_34 S_34 sc_34 li_34 rc_34 rn_34 ro_34 rd_34 st_34) → va_S A s.heap H locs → lv_has ls 8 [(0, .ref a0), (1, .int y1_34), (2, .int y2_34), (3, .int y3_34), (4, .int y4_34), (5, .int y5_34), (6, .int x6_34)] → wqT_chain_34 nW nE y1_34 y2_34 y3_34 y4_34 y5_34 post px kx n x6_34 R_34 f_34 us_34 P_34 S_34 sc_34 li_34 rc_34 rn_34 ro_34 rd_34 st_34 → W p l e (headSpec ws_T_chain ({ frames := 7, cells := 4, slots := 24, locals := 139 })).room s m ([.ref a0, .int a1, .int a2, .int a3, .int a4] : List Value).toArray below meth c H locs 4 24 (vx_MQ below (va_Qi (fun (r : Int32) (u : (Nat → Int32) × (Nat → Int32) × Int32 × (Nat → Int32) × (Nat → Int32) × Int32 × Int32 × (Nat → Int32) × Int32 × (Nat → Int32) × Int32 × Int32) => post r u.1 u.2.1 u.2.2.1 u.2.2.2.1 u.2.2.2.2.1 u.2.2.2.2.2.1 u.2.2.2.2.2.2.1 u.2.2.2.2.2.2.2.1 u.2.2.2.2.2.2.2.2.1 u.2.2.2.2.2.2.2.2.2.1 u.2.2.2.2.2.2.2.2.2.2.1 u.2.2.2.2.2.2.2.2.2.2.2) (rw_B (dC, dI) vwCl [(cA, .int)] A (fun u : (Nat → Int32) × (Nat → Int32) × Int32 × (Nat → Int32) × (Nat → Int32) × Int32 × Int32 × (Nat → Int32) × Int32 × (Nat → Int32) × Int32 × Int32 => TSw cA a0 aR aM aW aP aS aC aO nW nE u.1 u.2.1 u.2.2.1 u.2.2.2.1 u.2.2.2.2.1 u.2.2.2.2.2.1 u.2.2.2.2.2.2.1 u.2.2.2.2.2.2.2.1 u.2.2.2.2.2.2.2.2.1 u.2.2.2.2.2.2.2.2.2.1 u.2.2.2.2.2.2.2.2.2.2.1 u.2.2.2.2.2.2.2.2.2.2.2)) A) (rw_X (dC, dI) vwCl [(cA, .int)] A (fun u : (Nat → Int32) × (Nat → Int32) × Int32 × (Nat → Int32) × (Nat → Int32) × Int32 × Int32 × (Nat → Int32) × Int32 × (Nat → Int32) × Int32 × Int32 => TSw cA a0 aR aM aW aP aS aC aO nW nE u.1 u.2.1 u.2.2.1 u.2.2.2.1 u.2.2.2.2.1 u.2.2.2.2.2.1 u.2.2.2.2.2.2.1 u.2.2.2.2.2.2.2.1 u.2.2.2.2.2.2.2.2.1 u.2.2.2.2.2.2.2.2.2.1 u.2.2.2.2.2.2.2.2.2.2.1 u.2.2.2.2.2.2.2.2.2.2.2) (fun (E : String) (u : (Nat → Int32) × (Nat → Int32) × Int32 × (Nat → Int32) × (Nat → Int32) × Int32 × Int32 × (Nat → Int32) × Int32 × (Nat → Int32) × Int32 × Int32) => px E u.1 u.2.1 u.2.2.1 u.2.2.2.1 u.2.2.2.2.1 u.2.2.2.2.2.1 u.2.2.2.2.2.2.1 u.2.2.2.2.2.2.2.1 u.2.2.2.2.2.2.2.2.1 u.2.2.2.2.2.2.2.2.2.1 u.2.2.2.2.2.2.2.2.2.2.1 u.2.2.2.2.2.2.2.2.2.2.2)) ([.ref a0, .int a1, .int a2, .int a3, .int a4] : List Value).toArray s 4 24 A) (F0 m 34 ls []) := by
    intro y1_34 y2_34 y3_34 y4_34 y5_34 kx K n
    induction n with
    | zero => intro x6_34 R_34 f_34 us_34 P_34 S_34 sc_34 li_34 rc_34 rn_34 ro_34 rd_34 st_34 H locs ls hP hD hS hl h; exact h.elim
    | succ n ih =>
      intro x6_34 R_34 f_34 us_34 P_34 S_34 sc_34 li_34 rc_34 rn_34 ro_34 rd_34 st_34 H locs ls hP hD hS hl h
      refine lv_iload hx hb d_T_chain_34 (lv_at hl 6 rfl) ?_
      refine lv_iload hx hb d_T_chain_36 (lv_at hl 4 rfl) ?_
      refine lv_icmp_ge (tgt := 100) hx hb d_T_chain_38 (by decide) (fun c_38 => ?_) (fun c_38 => ?_)
      · have h := h.1 c_38
        exact K x6_34 R_34 f_34 us_34 P_34 S_34 sc_34 li_34 rc_34 rn_34 ro_34 rd_34 st_34 H locs ls hP hD hS (lv_sub hl [0, 1, 2, 3, 4, 5, 6] rfl) h
      · have h := h.2 c_38
        refine lv_aload_n hx hb d_T_chain_41 rfl (lv_at hl 0 rfl) ?_
        refine va_get (D := (dC, dI)) (ci := 0) (v := .ref aM) (C := R_T) (T := T_T) (N := 2) hx hb hw in_T hown hK hP 0 rfl rfl 1 (by decide) (hw _ wd_99) (fun _ h9 => h9) rfl d_T_chain_42 ?_
        refine lv_aload_n hx hb d_T_chain_45 rfl (lv_at hl 0 rfl) ?_
        refine va_get (D := (dC, dI)) (ci := 0) (v := .ref aR) (C := R_T) (T := T_T) (N := 2) hx hb hw in_T hown hK hP 0 rfl rfl 0 (by decide) (hw _ wd_98) (fun _ h9 => h9) rfl d_T_chain_46 ?_
        refine lv_iload_n hx hb d_T_chain_49 rfl (lv_at hl 2 rfl) ?_
        refine va_iald hx hb hK hP 1 0 rfl rfl h.1 d_T_chain_50 ?_
        have h := h.2
        refine lv_iload hx hb d_T_chain_51 (lv_at hl 5 rfl) ?_
        refine lv_aload_n hx hb d_T_chain_53 rfl (lv_at hl 0 rfl) ?_
        refine va_get (D := (dC, dI)) (ci := 0) (v := .ref aR) (C := R_T) (T := T_T) (N := 2) hx hb hw in_T hown hK hP 0 rfl rfl 0 (by decide) (hw _ wd_98) (fun _ h9 => h9) rfl d_T_chain_54 ?_
        have hFc := va_free (wc := TSw cA a0 aR aM aW aP aS aC aO nW nE R_34 f_34 us_34 P_34 S_34 sc_34 li_34 rc_34 rn_34 ro_34 rd_34 st_34) hD hS hA [0, 1, 2, 3, 4, 5, 6, 7] rfl
        refine va_calli (va_runV (As := [.int (R_34 y2_34.toNatClampNeg), .int y5_34, .ref aR]) (rest := []) ⟨hx, hb, hml, hown, hw⟩ (mM_build l dC dI cA a0 aR aM aW aP aS aC aO nW nE H.size R_34 f_34 us_34 P_34 S_34 sc_34 li_34 rc_34 rn_34 ro_34 rd_34 st_34 (R_34 y2_34.toNatClampNeg) y5_34 _ h) (cwV 3 hw g_T_50 rfl rfl rfl (by decide +kernel) ⟨Nat.le_of_ble_eq_true rfl, Nat.le_of_ble_eq_true rfl⟩) (rw_PV (ci := 1) (q0 := 2) hK hP hD rfl rfl) rfl rfl hl.1 rfl (lv_room (Nat.le_of_ble_eq_true rfl)) d_T_chain_57 ⟨Nat.le_of_ble_eq_true rfl, Nat.le_of_ble_eq_true rfl⟩) hS (fun q _ h => hFc q h) hFc (fun r57 u t H locs ht hvm h hB hz1 hk1 hS => ?_)
        obtain ⟨f_57, us_57, P_57, S_57, sc_57, li_57, rc_57, rn_57, ro_57, rd_57, st_57⟩ := u
        obtain ⟨hP, hK1, hD1⟩ := hB
        rw [ht] at hP
        have hD := hD1.weaken (fun _ _ _ q => hFc _ q)
        clear hFc hD1 hK1
        try dsimp only at h
        have hP : va_P (dC, dI) vwCl (TSw cA a0 aR aM aW aP aS aC aO nW nE R_34 f_57 us_57 P_57 S_57 sc_57 li_57 rc_57 rn_57 ro_57 rd_57 st_57) H := hP
        have hD : va_D A (TSw cA a0 aR aM aW aP aS aC aO nW nE R_34 f_57 us_57 P_57 S_57 sc_57 li_57 rc_57 rn_57 ro_57 rd_57 st_57) := hD
        refine lv_istore (lv' := [(7, .int r57), (0, .ref a0), (1, .int y1_34), (2, .int y2_34), (3, .int y3_34), (4, .int y4_34), (5, .int y5_34), (6, .int x6_34)]) hx hb d_T_chain_60 hl (by decide) rfl (fun ls hl => ?_)
        refine lv_iload hx hb d_T_chain_62 (lv_at hl 0 rfl) ?_
        refine lv_if_ne (tgt := 70) hx hb d_T_chain_64 (by decide) (fun c_64 => ?_) (fun c_64 => ?_)
        · have h := h.2 c_64
          refine lv_aload_n hx hb d_T_chain_70 rfl (lv_at hl 1 rfl) ?_
          refine va_get (D := (dC, dI)) (ci := 0) (v := .ref aM) (C := R_T) (T := T_T) (N := 2) hx hb hw in_T hown hK hP 0 rfl rfl 1 (by decide) (hw _ wd_99) (fun _ h9 => h9) rfl d_T_chain_71 ?_
          refine lv_iload hx hb d_T_chain_74 (lv_at hl 0 rfl) ?_
          refine lv_iconst (v := (0 : Int32)) hx hb d_T_chain_76 (by decide) ?_
          refine lv_aload_n hx hb d_T_chain_77 rfl (lv_at hl 1 rfl) ?_
          refine va_get (D := (dC, dI)) (ci := 0) (v := .ref aR) (C := R_T) (T := T_T) (N := 2) hx hb hw in_T hown hK hP 0 rfl rfl 0 (by decide) (hw _ wd_98) (fun _ h9 => h9) rfl d_T_chain_78 ?_
          refine lv_iload_n hx hb d_T_chain_81 rfl (lv_at hl 2 rfl) ?_
          refine va_iald hx hb hK hP 1 0 rfl rfl h.1 d_T_chain_82 ?_
          have h := h.2
          have hFc := va_free (wc := TSw cA a0 aR aM aW aP aS aC aO nW nE R_34 f_57 us_57 P_57 S_57 sc_57 li_57 rc_57 rn_57 ro_57 rd_57 st_57) hD hS hA [0, 1, 2, 3, 4, 5, 6, 7] rfl
          refine va_callv (va_runV (As := [.int r57, .int (0 : Int32), .int (R_34 y1_34.toNatClampNeg)]) (rest := []) ⟨hx, hb, hml, hown, hw⟩ (mM_setSlot l dC dI cA a0 aR aM aW aP aS aC aO nW nE H.size R_34 f_57 us_57 P_57 S_57 sc_57 li_57 rc_57 rn_57 ro_57 rd_57 st_57 r57 (0 : Int32) (R_34 y1_34.toNatClampNeg) _ h) (cwV 3 hw g_T_67 rfl rfl rfl (by decide +kernel) ⟨Nat.le_of_ble_eq_true rfl, Nat.le_of_ble_eq_true rfl⟩) (rw_PV (ci := 1) (q0 := 2) hK hP hD rfl rfl) rfl rfl hl.1 rfl (lv_room (Nat.le_of_ble_eq_true rfl)) d_T_chain_83 ⟨Nat.le_of_ble_eq_true rfl, Nat.le_of_ble_eq_true rfl⟩) hS (fun q _ h => hFc q h) hFc (fun u t H locs ht hvm h hB hz1 hk1 hS => ?_)
          obtain ⟨f_83, st_83⟩ := u
          obtain ⟨hP, hK1, hD1⟩ := hB
          rw [ht] at hP
          have hD := hD1.weaken (fun _ _ _ q => hFc _ q)
          clear hFc hD1 hK1
          try dsimp only at h
          have hP : va_P (dC, dI) vwCl (TSw cA a0 aR aM aW aP aS aC aO nW nE R_34 f_83 us_57 P_57 S_57 sc_57 li_57 rc_57 rn_57 ro_57 rd_57 st_83) H := hP
          have hD : va_D A (TSw cA a0 aR aM aW aP aS aC aO nW nE R_34 f_83 us_57 P_57 S_57 sc_57 li_57 rc_57 rn_57 ro_57 rd_57 st_83) := hD
          refine lv_aload_n hx hb d_T_chain_86 rfl (lv_at hl 1 rfl) ?_
          refine va_get (D := (dC, dI)) (ci := 0) (v := .ref aR) (C := R_T) (T := T_T) (N := 2) hx hb hw in_T hown hK hP 0 rfl rfl 0 (by decide) (hw _ wd_98) (fun _ h9 => h9) rfl d_T_chain_87 ?_
          refine lv_iload_n hx hb d_T_chain_90 rfl (lv_at hl 2 rfl) ?_
          refine lv_iload hx hb d_T_chain_91 (lv_at hl 0 rfl) ?_
          refine va_iast hx hb hK hP hD hS 1 0 rfl rfl h.1 d_T_chain_93 (fun H locs hP hD hS => ?_)
          have hP : va_P (dC, dI) vwCl (TSw cA a0 aR aM aW aP aS aC aO nW nE (upd R_34 y1_34.toNatClampNeg r57) f_83 us_57 P_57 S_57 sc_57 li_57 rc_57 rn_57 ro_57 rd_57 st_83) H := hP
          have hD : va_D A (TSw cA a0 aR aM aW aP aS aC aO nW nE (upd R_34 y1_34.toNatClampNeg r57) f_83 us_57 P_57 S_57 sc_57 li_57 rc_57 rn_57 ro_57 rd_57 st_83) := hD
          have h := h.2
          refine lv_iinc (v := x6_34 + (1 : Int32)) (lv' := [(6, .int (x6_34 + (1 : Int32))), (7, .int r57), (0, .ref a0), (1, .int y1_34), (2, .int y2_34), (3, .int y3_34), (4, .int y4_34), (5, .int y5_34)]) hx hb d_T_chain_94 hl (k := 7) rfl rfl (by decide) rfl (fun ls hl => ?_)
          refine lv_goto (tgt := 34) hx hb d_T_chain_97 (by decide) ?_
          exact ih (x6_34 + (1 : Int32)) (upd R_34 y1_34.toNatClampNeg r57) f_83 us_57 P_57 S_57 sc_57 li_57 rc_57 rn_57 ro_57 rd_57 st_83 H locs ls hP hD hS (lv_sub hl [2, 3, 4, 5, 6, 7, 0] rfl) h
        · have h := h.1 c_64
          refine lv_iload hx hb d_T_chain_67 (lv_at hl 7 rfl) ?_
          refine W.widen (k := 4) (n := 24) (Nat.le_of_ble_eq_true rfl) (Nat.le_of_ble_eq_true rfl) ?_
          exact vx_ret (W.iret (v := x6_34) hx hb hr9 (fun t ht hW => ⟨⟨_, (R_34, f_57, us_57, P_57, S_57, sc_57, li_57, rc_57, rn_57, ro_57, rd_57, st_57), rfl, h, by rw [ht]; exact hP, va_K.moved hW.alike hK, hD⟩, hS.F ht⟩) hS.2.2 d_T_chain_69)
  unfold wqT_chain at h
  refine lv_iload_n hx hb d_T_chain_0 rfl (lv_at hl 1 rfl) ?_
  refine rx_callv (vx_runS (As := [.int a1]) (rest := []) ⟨hx, hb, hml, hown, hw⟩ (mT_needRegister l hlT sa a1 _ _ h) (va_cwS 1 hw g_T_27 rfl rfl rfl (by decide +kernel) ⟨Nat.le_of_ble_eq_true rfl, Nat.le_of_ble_eq_true rfl⟩) (xs_PS (xt_at hXT hS)) rfl rfl hl.1 rfl (lv_room (Nat.le_of_ble_eq_true rfl)) d_T_chain_1 ⟨Nat.le_of_ble_eq_true rfl, Nat.le_of_ble_eq_true rfl⟩) (fun E9 ce q9 H1 h hz hk hce hcv hcl => ?_) (fun h => ?_)
  · exact rx_out (R, f, us, P, S, sc, li, rc, rn, ro, rd, st) rfl hEx hlocks hK hP hD hS h hz hk hce hcv hcl (Nat.le_of_ble_eq_true rfl) (Nat.le_of_ble_eq_true rfl)
  · refine lv_iload_n hx hb d_T_chain_4 rfl (lv_at hl 2 rfl) ?_
    refine rx_callv (vx_runS (As := [.int a2]) (rest := []) ⟨hx, hb, hml, hown, hw⟩ (mT_needRegister l hlT sa a2 _ _ h) (va_cwS 1 hw g_T_27 rfl rfl rfl (by decide +kernel) ⟨Nat.le_of_ble_eq_true rfl, Nat.le_of_ble_eq_true rfl⟩) (xs_PS (xt_at hXT hS)) rfl rfl hl.1 rfl (lv_room (Nat.le_of_ble_eq_true rfl)) d_T_chain_5 ⟨Nat.le_of_ble_eq_true rfl, Nat.le_of_ble_eq_true rfl⟩) (fun E9 ce q9 H1 h hz hk hce hcv hcl => ?_) (fun h => ?_)
    · exact rx_out (R, f, us, P, S, sc, li, rc, rn, ro, rd, st) rfl hEx hlocks hK hP hD hS h hz hk hce hcv hcl (Nat.le_of_ble_eq_true rfl) (Nat.le_of_ble_eq_true rfl)
    · refine lv_iload_n hx hb d_T_chain_8 rfl (lv_at hl 3 rfl) ?_
      refine lv_iconst (v := (1 : Int32)) hx hb d_T_chain_9 (by decide) ?_
      refine lv_bipush (v := (100 : Int32)) hx hb d_T_chain_10 (by decide) ?_
      refine rx_callv (vx_runS (As := [.int a3, .int (1 : Int32), .int (100 : Int32)]) (rest := []) ⟨hx, hb, hml, hown, hw⟩ (mT_needBetween l hlT sa a3 (1 : Int32) (100 : Int32) _ _ h) (va_cwS 3 hw g_T_33 rfl rfl rfl (by decide +kernel) ⟨Nat.le_of_ble_eq_true rfl, Nat.le_of_ble_eq_true rfl⟩) (xs_PS (xt_at hXT hS)) rfl rfl hl.1 rfl (lv_room (Nat.le_of_ble_eq_true rfl)) d_T_chain_12 ⟨Nat.le_of_ble_eq_true rfl, Nat.le_of_ble_eq_true rfl⟩) (fun E9 ce q9 H1 h hz hk hce hcv hcl => ?_) (fun h => ?_)
      · exact rx_out (R, f, us, P, S, sc, li, rc, rn, ro, rd, st) rfl hEx hlocks hK hP hD hS h hz hk hce hcv hcl (Nat.le_of_ble_eq_true rfl) (Nat.le_of_ble_eq_true rfl)
      · refine lv_iload hx hb d_T_chain_15 (lv_at hl 4 rfl) ?_
        refine lv_iconst (v := (1 : Int32)) hx hb d_T_chain_17 (by decide) ?_
        refine lv_sipush (v := (4000 : Int32)) hx hb d_T_chain_18 (by decide) ?_
        refine rx_callv (vx_runS (As := [.int a4, .int (1 : Int32), .int (4000 : Int32)]) (rest := []) ⟨hx, hb, hml, hown, hw⟩ (mT_needBetween l hlT sa a4 (1 : Int32) (4000 : Int32) _ _ h) (va_cwS 3 hw g_T_33 rfl rfl rfl (by decide +kernel) ⟨Nat.le_of_ble_eq_true rfl, Nat.le_of_ble_eq_true rfl⟩) (xs_PS (xt_at hXT hS)) rfl rfl hl.1 rfl (lv_room (Nat.le_of_ble_eq_true rfl)) d_T_chain_21 ⟨Nat.le_of_ble_eq_true rfl, Nat.le_of_ble_eq_true rfl⟩) (fun E9 ce q9 H1 h hz hk hce hcv hcl => ?_) (fun h => ?_)
        · exact rx_out (R, f, us, P, S, sc, li, rc, rn, ro, rd, st) rfl hEx hlocks hK hP hD hS h hz hk hce hcv hcl (Nat.le_of_ble_eq_true rfl) (Nat.le_of_ble_eq_true rfl)
        · refine lv_iload_n hx hb d_T_chain_24 rfl (lv_at hl 3 rfl) ?_
          refine lv_iconst (v := (1 : Int32)) hx hb d_T_chain_25 (by decide) ?_
          refine rq_calli (W.runS (As := [.int a3, .int (1 : Int32)]) (rest := []) ⟨hx, hb, hml, hown, hw⟩ (mM_shape l a3 (1 : Int32) _ h) (va_cwS 2 hw g_T_46 rfl rfl rfl (by decide +kernel) ⟨Nat.le_of_ble_eq_true rfl, Nat.le_of_ble_eq_true rfl⟩) preEq rfl rfl hl.1 rfl (lv_room (Nat.le_of_ble_eq_true rfl)) d_T_chain_26 ⟨Nat.le_of_ble_eq_true rfl, Nat.le_of_ble_eq_true rfl⟩) (fun r26 h => ?_)
          refine lv_istore (lv' := [(5, .int r26), (0, .ref a0), (1, .int a1), (2, .int a2), (3, .int a3), (4, .int a4)]) hx hb d_T_chain_29 hl (by decide) rfl (fun ls hl => ?_)
          refine lv_iconst (v := (0 : Int32)) hx hb d_T_chain_31 (by decide) ?_
          refine lv_istore (lv' := [(6, .int (0 : Int32)), (5, .int r26), (0, .ref a0), (1, .int a1), (2, .int a2), (3, .int a3), (4, .int a4)]) hx hb d_T_chain_32 hl (by decide) rfl (fun ls hl => ?_)
          obtain ⟨n_34, h⟩ := h
          refine lp_34 a1 a2 a3 a4 r26 _ (fun z6_34 Re_34 fe_34 use_34 Pe_34 Se_34 sce_34 lie_34 rce_34 rne_34 roe_34 rde_34 ste_34 H locs ls hP hD hS hl h => ?_) n_34 (0 : Int32) R f us P S sc li rc rn ro rd st s.heap [] ls hP hD hS (lv_sub hl [2, 3, 4, 5, 6, 1, 0] rfl) h
          refine lv_iload hx hb d_T_chain_100 (lv_at hl 4 rfl) ?_
          refine W.widen (k := 4) (n := 24) (Nat.le_of_ble_eq_true rfl) (Nat.le_of_ble_eq_true rfl) ?_
          exact vx_ret (W.iret (v := a4) hx hb hr9 (fun t ht hW => ⟨⟨_, (Re_34, fe_34, use_34, Pe_34, Se_34, sce_34, lie_34, rce_34, rne_34, roe_34, rde_34, ste_34), rfl, h, by rw [ht]; exact hP, va_K.moved hW.alike hK, hD⟩, hS.F ht⟩) hS.2.2 d_T_chain_102)
def wqT_get (nW : Nat) (nE : Nat) (R : Nat → Int32) (f : Nat → Int32) (P : Nat → Int32) (st : Int32) (a1 : Int32) (a2 : Int32) (a3 : Int32) (post : (Nat → Int32) → Int32 → Prop) (px : String → (Nat → Int32) → Int32 → Prop) : Prop :=
  wqT_needRegister a1 (wqT_needSlots nW nE R f P a2 (wqT_needIndex nW nE R f P a2 a3 (vp_in a2 32 ∧ (wqM_slot nW nE f P (R a2.toNatClampNeg) a3 (fun r28 => wqT_setRegister nW nE R st a1 r28 (fun R_31 st_31 => post R_31 st_31)))) (fun E => px E R st)) (fun E => px E R st)) (fun E => px E R st)
set_option maxHeartbeats 4000000 in
set_option maxRecDepth 100000 in
theorem mT_get (l : Launch) (hlT : l.stackTraces = false) (sa : Nat → Nat) (dC : Nat → ClassId) (dI : Nat → Nat → Nat) (cA : ClassId) (a0 : Nat) (aR : Nat) (aM : Nat) (aW : Nat) (aP : Nat) (aS : Nat) (aC : Nat) (aO : Nat) (nW : Nat) (nE : Nat) (sz : Nat) (R : Nat → Int32) (f : Nat → Int32) (us : Int32) (P : Nat → Int32) (S : Nat → Int32) (sc : Int32) (li : Int32) (rc : Nat → Int32) (rn : Int32) (ro : Nat → Int32) (rd : Int32) (st : Int32) (a1 : Int32) (a2 : Int32) (a3 : Int32) (post : (Nat → Int32) → Int32 → Prop) (px : String → (Nat → Int32) → Int32 → Prop) (h : wqT_get nW nE R f P st a1 a2 a3 post px) : vx_Met l y_T_get ws_T_get ({ frames := 8, cells := 4, slots := 24, locals := 141 }) (xw_P (dC, dI) vwCl (TSw cA a0 aR aM aW aP aS aC aO nW nE R f us P S sc li rc rn ro rd st) [(cA, .int)] sz sa [.ref a0, .int a1, .int a2, .int a3]) (va_Qv (fun u : (Nat → Int32) × Int32 => post u.1 u.2) (rw_B (dC, dI) vwCl [(cA, .int)] (va_A (TSw cA a0 aR aM aW aP aS aC aO nW nE R f us P S sc li rc rn ro rd st) sz) (fun u : (Nat → Int32) × Int32 => TSw cA a0 aR aM aW aP aS aC aO nW nE u.1 f us P S sc li rc rn ro rd u.2)) (va_A (TSw cA a0 aR aM aW aP aS aC aO nW nE R f us P S sc li rc rn ro rd st) sz)) (rw_X (dC, dI) vwCl [(cA, .int)] (va_A (TSw cA a0 aR aM aW aP aS aC aO nW nE R f us P S sc li rc rn ro rd st) sz) (fun u : (Nat → Int32) × Int32 => TSw cA a0 aR aM aW aP aS aC aO nW nE u.1 f us P S sc li rc rn ro rd u.2) (fun (E : String) (u : (Nat → Int32) × Int32) => px E u.1 u.2)) 4 24 (va_A (TSw cA a0 aR aM aW aP aS aC aO nW nE R f us P S sc li rc rn ro rd st) sz) := by
  refine vx_ofW (cc := c_T_get) (maxL := 4) (ret := none) (by decide) rfl ?_
  intro p e s m args below meth c s₁ B hml hEx hv
  obtain ⟨rfl, hsz, hP, hK, hD0, hXT⟩ := hv
  have hx := B.exec
  have hb := B.bytes
  have hr9 := B.returns
  have hts := atoms_spec (ws := ws_T_get) B.pre
  have hw : ∀ w ∈ WB_, w.before _ s = true := fun w h => hts w (List.mem_cons_of_mem _ h)
  have hown : s.vm.findClass R_T = some m.cls := findClass_of_methodNamed B.named
  have hlocks := B.notSynchronized
  subst hsz
  have hD := hD0.self (sz := s.heap.size)
  generalize hAe : va_A (TSw cA a0 aR aM aW aP aS aC aO nW nE R f us P S sc li rc rn ro rd st) s.heap.size = A at hD hXT ⊢
  have hA : ∀ q : Nat, s.heap.size ≤ q → A q := fun q h => by rw [← hAe]; exact Or.inr h
  have hS : va_S A s.heap s.heap [] := va_S.rf
  have hl := lv_entry ([.ref a0, .int a1, .int a2, .int a3]) (n := 4) (Nat.le_of_ble_eq_true rfl)
  rw [lg_entry_eq]
  generalize (lg_sl ([.ref a0, .int a1, .int a2, .int a3]) ++ List.replicate (4 - (lg_sl ([.ref a0, .int a1, .int a2, .int a3])).length) Slot.unset).toArray = ls at hl ⊢
  have hl : lv_has ls 4 [(0, .ref a0), (1, .int a1), (2, .int a2), (3, .int a3)] := hl
  unfold wqT_get at h
  refine lv_iload_n hx hb d_T_get_0 rfl (lv_at hl 1 rfl) ?_
  refine rx_callv (vx_runS (As := [.int a1]) (rest := []) ⟨hx, hb, hml, hown, hw⟩ (mT_needRegister l hlT sa a1 _ _ h) (va_cwS 1 hw g_T_27 rfl rfl rfl (by decide +kernel) ⟨Nat.le_of_ble_eq_true rfl, Nat.le_of_ble_eq_true rfl⟩) (xs_PS (xt_at hXT hS)) rfl rfl hl.1 rfl (lv_room (Nat.le_of_ble_eq_true rfl)) d_T_get_1 ⟨Nat.le_of_ble_eq_true rfl, Nat.le_of_ble_eq_true rfl⟩) (fun E9 ce q9 H1 h hz hk hce hcv hcl => ?_) (fun h => ?_)
  · exact rx_out (R, st) rfl hEx hlocks hK hP hD hS h hz hk hce hcv hcl (Nat.le_of_ble_eq_true rfl) (Nat.le_of_ble_eq_true rfl)
  · refine lv_aload_n hx hb d_T_get_4 rfl (lv_at hl 0 rfl) ?_
    refine lv_iload_n hx hb d_T_get_5 rfl (lv_at hl 2 rfl) ?_
    refine rx_callv (vx_runV (As := [.int a2]) (rest := []) ⟨hx, hb, hml, hown, hw⟩ (mT_needSlots l hlT sa dC dI cA a0 aR aM aW aP aS aC aO nW nE R f us P S sc li rc rn ro rd st a2 _ _ h) (cwV 1 hw g_T_70 rfl rfl rfl (by decide +kernel) ⟨Nat.le_of_ble_eq_true rfl, Nat.le_of_ble_eq_true rfl⟩) (xo_PV (ci := 0) (q0 := 0) hK hP (xt_at hXT hS) rfl rfl) rfl rfl hl.1 rfl (lv_room (Nat.le_of_ble_eq_true rfl)) d_T_get_6 ⟨Nat.le_of_ble_eq_true rfl, Nat.le_of_ble_eq_true rfl⟩) (fun E9 ce q9 H1 h hz hk hce hcv hcl => ?_) (fun h => ?_)
    · exact rx_out (R, st) rfl hEx hlocks hK hP hD hS h hz hk hce hcv hcl (Nat.le_of_ble_eq_true rfl) (Nat.le_of_ble_eq_true rfl)
    · refine lv_aload_n hx hb d_T_get_9 rfl (lv_at hl 0 rfl) ?_
      refine lv_iload_n hx hb d_T_get_10 rfl (lv_at hl 2 rfl) ?_
      refine lv_iload_n hx hb d_T_get_11 rfl (lv_at hl 3 rfl) ?_
      refine rx_callv (vx_runV (As := [.int a2, .int a3]) (rest := []) ⟨hx, hb, hml, hown, hw⟩ (mT_needIndex l hlT sa dC dI cA a0 aR aM aW aP aS aC aO nW nE R f us P S sc li rc rn ro rd st a2 a3 _ _ h) (cwV 2 hw g_T_73 rfl rfl rfl (by decide +kernel) ⟨Nat.le_of_ble_eq_true rfl, Nat.le_of_ble_eq_true rfl⟩) (xo_PV (ci := 0) (q0 := 0) hK hP (xt_at hXT hS) rfl rfl) rfl rfl hl.1 rfl (lv_room (Nat.le_of_ble_eq_true rfl)) d_T_get_12 ⟨Nat.le_of_ble_eq_true rfl, Nat.le_of_ble_eq_true rfl⟩) (fun E9 ce q9 H1 h hz hk hce hcv hcl => ?_) (fun h => ?_)
      · exact rx_out (R, st) rfl hEx hlocks hK hP hD hS h hz hk hce hcv hcl (Nat.le_of_ble_eq_true rfl) (Nat.le_of_ble_eq_true rfl)
      · refine lv_aload_n hx hb d_T_get_15 rfl (lv_at hl 0 rfl) ?_
        refine lv_iload_n hx hb d_T_get_16 rfl (lv_at hl 1 rfl) ?_
        refine lv_aload_n hx hb d_T_get_17 rfl (lv_at hl 0 rfl) ?_
        refine va_get (D := (dC, dI)) (ci := 0) (v := .ref aM) (C := R_T) (T := T_T) (N := 2) hx hb hw in_T hown hK hP 0 rfl rfl 1 (by decide) (hw _ wd_99) (fun _ h9 => h9) rfl d_T_get_18 ?_
        refine lv_aload_n hx hb d_T_get_21 rfl (lv_at hl 0 rfl) ?_
        refine va_get (D := (dC, dI)) (ci := 0) (v := .ref aR) (C := R_T) (T := T_T) (N := 2) hx hb hw in_T hown hK hP 0 rfl rfl 0 (by decide) (hw _ wd_98) (fun _ h9 => h9) rfl d_T_get_22 ?_
        refine lv_iload_n hx hb d_T_get_25 rfl (lv_at hl 2 rfl) ?_
        refine va_iald hx hb hK hP 1 0 rfl rfl h.1 d_T_get_26 ?_
        have h := h.2
        refine lv_iload_n hx hb d_T_get_27 rfl (lv_at hl 3 rfl) ?_
        refine rq_calli (W.runV (As := [.int (R a2.toNatClampNeg), .int a3]) (rest := [.int a1, .ref a0]) ⟨hx, hb, hml, hown, hw⟩ (mM_slot l dC dI cA a0 aR aM aW aP aS aC aO nW nE R f us P S sc li rc rn ro rd st (R a2.toNatClampNeg) a3 _ h) (cwV 2 hw g_T_76 rfl rfl rfl (by decide +kernel) ⟨Nat.le_of_ble_eq_true rfl, Nat.le_of_ble_eq_true rfl⟩) (ro_PV (ci := 1) (q0 := 2) hK hP rfl rfl) rfl rfl hl.1 rfl (lv_room (Nat.le_of_ble_eq_true rfl)) d_T_get_28 ⟨Nat.le_of_ble_eq_true rfl, Nat.le_of_ble_eq_true rfl⟩) (fun r28 h => ?_)
        have hFc := va_free (wc := TSw cA a0 aR aM aW aP aS aC aO nW nE R f us P S sc li rc rn ro rd st) hD hS hA [0, 1, 2, 3, 4, 5, 6, 7] rfl
        refine va_callv (va_runV (As := [.int a1, .int r28]) (rest := []) ⟨hx, hb, hml, hown, hw⟩ (mT_setRegister l dC dI cA a0 aR aM aW aP aS aC aO nW nE s.heap.size R f us P S sc li rc rn ro rd st a1 r28 _ h) (cwV 2 hw g_T_43 rfl rfl rfl (by decide +kernel) ⟨Nat.le_of_ble_eq_true rfl, Nat.le_of_ble_eq_true rfl⟩) (rw_PV (ci := 0) (q0 := 0) hK hP hD rfl rfl) rfl rfl hl.1 rfl (lv_room (Nat.le_of_ble_eq_true rfl)) d_T_get_31 ⟨Nat.le_of_ble_eq_true rfl, Nat.le_of_ble_eq_true rfl⟩) hS (fun q _ h => hFc q h) hFc (fun u t H locs ht hvm h hB hz1 hk1 hS => ?_)
        obtain ⟨R_31, st_31⟩ := u
        obtain ⟨hP, hK1, hD1⟩ := hB
        rw [ht] at hP
        have hD := hD1.weaken (fun _ _ _ q => hFc _ q)
        clear hFc hD1 hK1
        try dsimp only at h
        have hP : va_P (dC, dI) vwCl (TSw cA a0 aR aM aW aP aS aC aO nW nE R_31 f us P S sc li rc rn ro rd st_31) H := hP
        have hD : va_D A (TSw cA a0 aR aM aW aP aS aC aO nW nE R_31 f us P S sc li rc rn ro rd st_31) := hD
        refine W.widen (k := 4) (n := 24) (Nat.le_of_ble_eq_true rfl) (Nat.le_of_ble_eq_true rfl) ?_
        exact vx_ret (W.vret hx hb hr9 (fun t ht hW => ⟨⟨(R_31, st_31), rfl, h, by rw [ht]; exact hP, va_K.moved hW.alike hK, hD⟩, hS.F ht⟩) hS.2.2 d_T_get_34)
def wqT_put (nW : Nat) (nE : Nat) (R : Nat → Int32) (f : Nat → Int32) (P : Nat → Int32) (st : Int32) (a1 : Int32) (a2 : Int32) (a3 : Int32) (post : (Nat → Int32) → Int32 → Prop) (px : String → (Nat → Int32) → Int32 → Prop) : Prop :=
  wqT_needRegister a3 (wqT_needSlots nW nE R f P a1 (wqT_needIndex nW nE R f P a1 a2 (vp_in a1 32 ∧ (vp_in a3 32 ∧ (wqM_setSlot nW nE f P st (R a1.toNatClampNeg) a2 (R a3.toNatClampNeg) (fun f_32 st_32 => post f_32 st_32)))) (fun E => px E f st)) (fun E => px E f st)) (fun E => px E f st)
set_option maxHeartbeats 4000000 in
set_option maxRecDepth 100000 in
theorem mT_put (l : Launch) (hlT : l.stackTraces = false) (sa : Nat → Nat) (dC : Nat → ClassId) (dI : Nat → Nat → Nat) (cA : ClassId) (a0 : Nat) (aR : Nat) (aM : Nat) (aW : Nat) (aP : Nat) (aS : Nat) (aC : Nat) (aO : Nat) (nW : Nat) (nE : Nat) (sz : Nat) (R : Nat → Int32) (f : Nat → Int32) (us : Int32) (P : Nat → Int32) (S : Nat → Int32) (sc : Int32) (li : Int32) (rc : Nat → Int32) (rn : Int32) (ro : Nat → Int32) (rd : Int32) (st : Int32) (a1 : Int32) (a2 : Int32) (a3 : Int32) (post : (Nat → Int32) → Int32 → Prop) (px : String → (Nat → Int32) → Int32 → Prop) (h : wqT_put nW nE R f P st a1 a2 a3 post px) : vx_Met l y_T_put ws_T_put ({ frames := 8, cells := 4, slots := 24, locals := 141 }) (xw_P (dC, dI) vwCl (TSw cA a0 aR aM aW aP aS aC aO nW nE R f us P S sc li rc rn ro rd st) [(cA, .int)] sz sa [.ref a0, .int a1, .int a2, .int a3]) (va_Qv (fun u : (Nat → Int32) × Int32 => post u.1 u.2) (rw_B (dC, dI) vwCl [(cA, .int)] (va_A (TSw cA a0 aR aM aW aP aS aC aO nW nE R f us P S sc li rc rn ro rd st) sz) (fun u : (Nat → Int32) × Int32 => TSw cA a0 aR aM aW aP aS aC aO nW nE R u.1 us P S sc li rc rn ro rd u.2)) (va_A (TSw cA a0 aR aM aW aP aS aC aO nW nE R f us P S sc li rc rn ro rd st) sz)) (rw_X (dC, dI) vwCl [(cA, .int)] (va_A (TSw cA a0 aR aM aW aP aS aC aO nW nE R f us P S sc li rc rn ro rd st) sz) (fun u : (Nat → Int32) × Int32 => TSw cA a0 aR aM aW aP aS aC aO nW nE R u.1 us P S sc li rc rn ro rd u.2) (fun (E : String) (u : (Nat → Int32) × Int32) => px E u.1 u.2)) 4 24 (va_A (TSw cA a0 aR aM aW aP aS aC aO nW nE R f us P S sc li rc rn ro rd st) sz) := by
  refine vx_ofW (cc := c_T_put) (maxL := 4) (ret := none) (by decide) rfl ?_
  intro p e s m args below meth c s₁ B hml hEx hv
  obtain ⟨rfl, hsz, hP, hK, hD0, hXT⟩ := hv
  have hx := B.exec
  have hb := B.bytes
  have hr9 := B.returns
  have hts := atoms_spec (ws := ws_T_put) B.pre
  have hw : ∀ w ∈ WB_, w.before _ s = true := fun w h => hts w (List.mem_cons_of_mem _ h)
  have hown : s.vm.findClass R_T = some m.cls := findClass_of_methodNamed B.named
  have hlocks := B.notSynchronized
  subst hsz
  have hD := hD0.self (sz := s.heap.size)
  generalize hAe : va_A (TSw cA a0 aR aM aW aP aS aC aO nW nE R f us P S sc li rc rn ro rd st) s.heap.size = A at hD hXT ⊢
  have hA : ∀ q : Nat, s.heap.size ≤ q → A q := fun q h => by rw [← hAe]; exact Or.inr h
  have hS : va_S A s.heap s.heap [] := va_S.rf
  have hl := lv_entry ([.ref a0, .int a1, .int a2, .int a3]) (n := 4) (Nat.le_of_ble_eq_true rfl)
  rw [lg_entry_eq]
  generalize (lg_sl ([.ref a0, .int a1, .int a2, .int a3]) ++ List.replicate (4 - (lg_sl ([.ref a0, .int a1, .int a2, .int a3])).length) Slot.unset).toArray = ls at hl ⊢
  have hl : lv_has ls 4 [(0, .ref a0), (1, .int a1), (2, .int a2), (3, .int a3)] := hl
  unfold wqT_put at h
  refine lv_iload_n hx hb d_T_put_0 rfl (lv_at hl 3 rfl) ?_
  refine rx_callv (vx_runS (As := [.int a3]) (rest := []) ⟨hx, hb, hml, hown, hw⟩ (mT_needRegister l hlT sa a3 _ _ h) (va_cwS 1 hw g_T_27 rfl rfl rfl (by decide +kernel) ⟨Nat.le_of_ble_eq_true rfl, Nat.le_of_ble_eq_true rfl⟩) (xs_PS (xt_at hXT hS)) rfl rfl hl.1 rfl (lv_room (Nat.le_of_ble_eq_true rfl)) d_T_put_1 ⟨Nat.le_of_ble_eq_true rfl, Nat.le_of_ble_eq_true rfl⟩) (fun E9 ce q9 H1 h hz hk hce hcv hcl => ?_) (fun h => ?_)
  · exact rx_out (f, st) rfl hEx hlocks hK hP hD hS h hz hk hce hcv hcl (Nat.le_of_ble_eq_true rfl) (Nat.le_of_ble_eq_true rfl)
  · refine lv_aload_n hx hb d_T_put_4 rfl (lv_at hl 0 rfl) ?_
    refine lv_iload_n hx hb d_T_put_5 rfl (lv_at hl 1 rfl) ?_
    refine rx_callv (vx_runV (As := [.int a1]) (rest := []) ⟨hx, hb, hml, hown, hw⟩ (mT_needSlots l hlT sa dC dI cA a0 aR aM aW aP aS aC aO nW nE R f us P S sc li rc rn ro rd st a1 _ _ h) (cwV 1 hw g_T_70 rfl rfl rfl (by decide +kernel) ⟨Nat.le_of_ble_eq_true rfl, Nat.le_of_ble_eq_true rfl⟩) (xo_PV (ci := 0) (q0 := 0) hK hP (xt_at hXT hS) rfl rfl) rfl rfl hl.1 rfl (lv_room (Nat.le_of_ble_eq_true rfl)) d_T_put_6 ⟨Nat.le_of_ble_eq_true rfl, Nat.le_of_ble_eq_true rfl⟩) (fun E9 ce q9 H1 h hz hk hce hcv hcl => ?_) (fun h => ?_)
    · exact rx_out (f, st) rfl hEx hlocks hK hP hD hS h hz hk hce hcv hcl (Nat.le_of_ble_eq_true rfl) (Nat.le_of_ble_eq_true rfl)
    · refine lv_aload_n hx hb d_T_put_9 rfl (lv_at hl 0 rfl) ?_
      refine lv_iload_n hx hb d_T_put_10 rfl (lv_at hl 1 rfl) ?_
      refine lv_iload_n hx hb d_T_put_11 rfl (lv_at hl 2 rfl) ?_
      refine rx_callv (vx_runV (As := [.int a1, .int a2]) (rest := []) ⟨hx, hb, hml, hown, hw⟩ (mT_needIndex l hlT sa dC dI cA a0 aR aM aW aP aS aC aO nW nE R f us P S sc li rc rn ro rd st a1 a2 _ _ h) (cwV 2 hw g_T_73 rfl rfl rfl (by decide +kernel) ⟨Nat.le_of_ble_eq_true rfl, Nat.le_of_ble_eq_true rfl⟩) (xo_PV (ci := 0) (q0 := 0) hK hP (xt_at hXT hS) rfl rfl) rfl rfl hl.1 rfl (lv_room (Nat.le_of_ble_eq_true rfl)) d_T_put_12 ⟨Nat.le_of_ble_eq_true rfl, Nat.le_of_ble_eq_true rfl⟩) (fun E9 ce q9 H1 h hz hk hce hcv hcl => ?_) (fun h => ?_)
      · exact rx_out (f, st) rfl hEx hlocks hK hP hD hS h hz hk hce hcv hcl (Nat.le_of_ble_eq_true rfl) (Nat.le_of_ble_eq_true rfl)
      · refine lv_aload_n hx hb d_T_put_15 rfl (lv_at hl 0 rfl) ?_
        refine va_get (D := (dC, dI)) (ci := 0) (v := .ref aM) (C := R_T) (T := T_T) (N := 2) hx hb hw in_T hown hK hP 0 rfl rfl 1 (by decide) (hw _ wd_99) (fun _ h9 => h9) rfl d_T_put_16 ?_
        refine lv_aload_n hx hb d_T_put_19 rfl (lv_at hl 0 rfl) ?_
        refine va_get (D := (dC, dI)) (ci := 0) (v := .ref aR) (C := R_T) (T := T_T) (N := 2) hx hb hw in_T hown hK hP 0 rfl rfl 0 (by decide) (hw _ wd_98) (fun _ h9 => h9) rfl d_T_put_20 ?_
        refine lv_iload_n hx hb d_T_put_23 rfl (lv_at hl 1 rfl) ?_
        refine va_iald hx hb hK hP 1 0 rfl rfl h.1 d_T_put_24 ?_
        have h := h.2
        refine lv_iload_n hx hb d_T_put_25 rfl (lv_at hl 2 rfl) ?_
        refine lv_aload_n hx hb d_T_put_26 rfl (lv_at hl 0 rfl) ?_
        refine va_get (D := (dC, dI)) (ci := 0) (v := .ref aR) (C := R_T) (T := T_T) (N := 2) hx hb hw in_T hown hK hP 0 rfl rfl 0 (by decide) (hw _ wd_98) (fun _ h9 => h9) rfl d_T_put_27 ?_
        refine lv_iload_n hx hb d_T_put_30 rfl (lv_at hl 3 rfl) ?_
        refine va_iald hx hb hK hP 1 0 rfl rfl h.1 d_T_put_31 ?_
        have h := h.2
        have hFc := va_free (wc := TSw cA a0 aR aM aW aP aS aC aO nW nE R f us P S sc li rc rn ro rd st) hD hS hA [0, 1, 2, 3, 4, 5, 6, 7] rfl
        refine va_callv (va_runV (As := [.int (R a1.toNatClampNeg), .int a2, .int (R a3.toNatClampNeg)]) (rest := []) ⟨hx, hb, hml, hown, hw⟩ (mM_setSlot l dC dI cA a0 aR aM aW aP aS aC aO nW nE s.heap.size R f us P S sc li rc rn ro rd st (R a1.toNatClampNeg) a2 (R a3.toNatClampNeg) _ h) (cwV 3 hw g_T_67 rfl rfl rfl (by decide +kernel) ⟨Nat.le_of_ble_eq_true rfl, Nat.le_of_ble_eq_true rfl⟩) (rw_PV (ci := 1) (q0 := 2) hK hP hD rfl rfl) rfl rfl hl.1 rfl (lv_room (Nat.le_of_ble_eq_true rfl)) d_T_put_32 ⟨Nat.le_of_ble_eq_true rfl, Nat.le_of_ble_eq_true rfl⟩) hS (fun q _ h => hFc q h) hFc (fun u t H locs ht hvm h hB hz1 hk1 hS => ?_)
        obtain ⟨f_32, st_32⟩ := u
        obtain ⟨hP, hK1, hD1⟩ := hB
        rw [ht] at hP
        have hD := hD1.weaken (fun _ _ _ q => hFc _ q)
        clear hFc hD1 hK1
        try dsimp only at h
        have hP : va_P (dC, dI) vwCl (TSw cA a0 aR aM aW aP aS aC aO nW nE R f_32 us P S sc li rc rn ro rd st_32) H := hP
        have hD : va_D A (TSw cA a0 aR aM aW aP aS aC aO nW nE R f_32 us P S sc li rc rn ro rd st_32) := hD
        refine W.widen (k := 4) (n := 24) (Nat.le_of_ble_eq_true rfl) (Nat.le_of_ble_eq_true rfl) ?_
        exact vx_ret (W.vret hx hb hr9 (fun t ht hW => ⟨⟨(f_32, st_32), rfl, h, by rw [ht]; exact hP, va_K.moved hW.alike hK, hD⟩, hS.F ht⟩) hS.2.2 d_T_put_35)
def wqT_walk_23 (nW : Nat) (nE : Nat) (f : Nat → Int32) (P : Nat → Int32) (y1_23 : Int32) (y2_23 : Int32) (y3_23 : Int32) (Rf_23 : Nat → Int32) (stf_23 : Int32) (post : Int32 → (Nat → Int32) → Int32 → Prop) (px : String → (Nat → Int32) → Int32 → Prop) (kx : Int32 → Int32 → Prop) : Nat → Int32 → Int32 → Prop
  | 0, _, _ => False
  | n + 1, x4_23, x5_23 =>
    (y3_23 ≤ x5_23 → (kx x4_23 x5_23)) ∧ (¬ (y3_23 ≤ x5_23) → (wqM_holdsSlots nW nE f P x4_23 (fun r35 => (r35 = 0 → (kx x4_23 x5_23)) ∧ (¬ (r35 = 0) → (wqM_count nW nE f P x4_23 (fun r49 => wqT_isBetween y2_23 (0 : Int32) (r49 - (1 : Int32)) (fun r54 => (r54 = 0 → (kx x4_23 x5_23)) ∧ (¬ (r54 = 0) → (wqM_slot nW nE f P x4_23 y2_23 (fun r67 => wqT_walk_23 nW nE f P y1_23 y2_23 y3_23 Rf_23 stf_23 post px kx n r67 (x5_23 + (1 : Int32))))))))))))
def wqT_walk (nW : Nat) (nE : Nat) (R : Nat → Int32) (f : Nat → Int32) (P : Nat → Int32) (st : Int32) (a1 : Int32) (a2 : Int32) (a3 : Int32) (post : Int32 → (Nat → Int32) → Int32 → Prop) (px : String → (Nat → Int32) → Int32 → Prop) : Prop :=
  wqT_needRegister a1 (wqT_needBetween a3 (0 : Int32) (10000 : Int32) (vp_in a1 32 ∧ (∃ k_23, wqT_walk_23 nW nE f P a1 a2 a3 R st post px (fun z4_23 z5_23 => wqT_setRegister nW nE R st a1 z4_23 (fun R_82 st_82 => post z5_23 R_82 st_82)) k_23 (R a1.toNatClampNeg) (0 : Int32))) (fun E => px E R st)) (fun E => px E R st)
set_option maxHeartbeats 4000000 in
set_option maxRecDepth 100000 in
theorem mT_walk (l : Launch) (hlT : l.stackTraces = false) (sa : Nat → Nat) (dC : Nat → ClassId) (dI : Nat → Nat → Nat) (cA : ClassId) (a0 : Nat) (aR : Nat) (aM : Nat) (aW : Nat) (aP : Nat) (aS : Nat) (aC : Nat) (aO : Nat) (nW : Nat) (nE : Nat) (sz : Nat) (R : Nat → Int32) (f : Nat → Int32) (us : Int32) (P : Nat → Int32) (S : Nat → Int32) (sc : Int32) (li : Int32) (rc : Nat → Int32) (rn : Int32) (ro : Nat → Int32) (rd : Int32) (st : Int32) (a1 : Int32) (a2 : Int32) (a3 : Int32) (post : Int32 → (Nat → Int32) → Int32 → Prop) (px : String → (Nat → Int32) → Int32 → Prop) (h : wqT_walk nW nE R f P st a1 a2 a3 post px) : vx_Met l y_T_walk ws_T_walk ({ frames := 7, cells := 2, slots := 12, locals := 122 }) (xw_P (dC, dI) vwCl (TSw cA a0 aR aM aW aP aS aC aO nW nE R f us P S sc li rc rn ro rd st) [(cA, .int)] sz sa [.ref a0, .int a1, .int a2, .int a3]) (va_Qi (fun (r : Int32) (u : (Nat → Int32) × Int32) => post r u.1 u.2) (rw_B (dC, dI) vwCl [(cA, .int)] (va_A (TSw cA a0 aR aM aW aP aS aC aO nW nE R f us P S sc li rc rn ro rd st) sz) (fun u : (Nat → Int32) × Int32 => TSw cA a0 aR aM aW aP aS aC aO nW nE u.1 f us P S sc li rc rn ro rd u.2)) (va_A (TSw cA a0 aR aM aW aP aS aC aO nW nE R f us P S sc li rc rn ro rd st) sz)) (rw_X (dC, dI) vwCl [(cA, .int)] (va_A (TSw cA a0 aR aM aW aP aS aC aO nW nE R f us P S sc li rc rn ro rd st) sz) (fun u : (Nat → Int32) × Int32 => TSw cA a0 aR aM aW aP aS aC aO nW nE u.1 f us P S sc li rc rn ro rd u.2) (fun (E : String) (u : (Nat → Int32) × Int32) => px E u.1 u.2)) 2 12 (va_A (TSw cA a0 aR aM aW aP aS aC aO nW nE R f us P S sc li rc rn ro rd st) sz) := by
  refine vx_ofW (cc := c_T_walk) (maxL := 6) (ret := (some .int)) (by decide) rfl ?_
  intro p e s m args below meth c s₁ B hml hEx hv
  obtain ⟨rfl, hsz, hP, hK, hD0, hXT⟩ := hv
  have hx := B.exec
  have hb := B.bytes
  have hr9 := B.returns
  have hts := atoms_spec (ws := ws_T_walk) B.pre
  have hw : ∀ w ∈ WB_, w.before _ s = true := fun w h => hts w (List.mem_cons_of_mem _ h)
  have hown : s.vm.findClass R_T = some m.cls := findClass_of_methodNamed B.named
  have hlocks := B.notSynchronized
  subst hsz
  have hD := hD0.self (sz := s.heap.size)
  generalize hAe : va_A (TSw cA a0 aR aM aW aP aS aC aO nW nE R f us P S sc li rc rn ro rd st) s.heap.size = A at hD hXT ⊢
  have hA : ∀ q : Nat, s.heap.size ≤ q → A q := fun q h => by rw [← hAe]; exact Or.inr h
  have hS : va_S A s.heap s.heap [] := va_S.rf
  have hl := lv_entry ([.ref a0, .int a1, .int a2, .int a3]) (n := 6) (Nat.le_of_ble_eq_true rfl)
  rw [lg_entry_eq]
  generalize (lg_sl ([.ref a0, .int a1, .int a2, .int a3]) ++ List.replicate (6 - (lg_sl ([.ref a0, .int a1, .int a2, .int a3])).length) Slot.unset).toArray = ls at hl ⊢
  have hl : lv_has ls 6 [(0, .ref a0), (1, .int a1), (2, .int a2), (3, .int a3)] := hl
  have lp_23 : ∀ (y1_23 : Int32) (y2_23 : Int32) (y3_23 : Int32) (Rf_23 : Nat → Int32) (stf_23 : Int32) (kx : Int32 → Int32 → Prop), (∀ (z4_23 : Int32) (z5_23 : Int32) (H : Heap) (locs : List Loc) (ls : Array Slot), va_P (dC, dI) vwCl (TSw cA a0 aR aM aW aP aS aC aO nW nE Rf_23 f us P S sc li rc rn ro rd stf_23) H → va_D A (TSw cA a0 aR aM aW aP aS aC aO nW nE Rf_23 f us P S sc li rc rn ro rd stf_23) → va_S A s.heap H locs → lv_has ls 6 [(0, .ref a0), (1, .int y1_23), (2, .int y2_23), (3, .int y3_23), (4, .int z4_23), (5, .int z5_23)] → kx z4_23 z5_23 → W p l e (headSpec ws_T_walk ({ frames := 7, cells := 2, slots := 12, locals := 122 })).room s m ([.ref a0, .int a1, .int a2, .int a3] : List Value).toArray below meth c H locs 2 12 (vx_MQ below (va_Qi (fun (r : Int32) (u : (Nat → Int32) × Int32) => post r u.1 u.2) (rw_B (dC, dI) vwCl [(cA, .int)] A (fun u : (Nat → Int32) × Int32 => TSw cA a0 aR aM aW aP aS aC aO nW nE u.1 f us P S sc li rc rn ro rd u.2)) A) (rw_X (dC, dI) vwCl [(cA, .int)] A (fun u : (Nat → Int32) × Int32 => TSw cA a0 aR aM aW aP aS aC aO nW nE u.1 f us P S sc li rc rn ro rd u.2) (fun (E : String) (u : (Nat → Int32) × Int32) => px E u.1 u.2)) ([.ref a0, .int a1, .int a2, .int a3] : List Value).toArray s 2 12 A) (F0 m 78 ls [])) → ∀ (n : Nat) (x4_23 : Int32) (x5_23 : Int32) (H : Heap) (locs : List Loc) (ls : Array Slot), va_P (dC, dI) vwCl (TSw cA a0 aR aM aW aP aS aC aO nW nE Rf_23 f us P S sc li rc rn ro rd stf_23) H → va_D A (TSw cA a0 aR aM aW aP aS aC aO nW nE Rf_23 f us P S sc li rc rn ro rd stf_23) → va_S A s.heap H locs → lv_has ls 6 [(0, .ref a0), (1, .int y1_23), (2, .int y2_23), (3, .int y3_23), (4, .int x4_23), (5, .int x5_23)] → wqT_walk_23 nW nE f P y1_23 y2_23 y3_23 Rf_23 stf_23 post px kx n x4_23 x5_23 → W p l e (headSpec ws_T_walk ({ frames := 7, cells := 2, slots := 12, locals := 122 })).room s m ([.ref a0, .int a1, .int a2, .int a3] : List Value).toArray below meth c H locs 2 12 (vx_MQ below (va_Qi (fun (r : Int32) (u : (Nat → Int32) × Int32) => post r u.1 u.2) (rw_B (dC, dI) vwCl [(cA, .int)] A (fun u : (Nat → Int32) × Int32 => TSw cA a0 aR aM aW aP aS aC aO nW nE u.1 f us P S sc li rc rn ro rd u.2)) A) (rw_X (dC, dI) vwCl [(cA, .int)] A (fun u : (Nat → Int32) × Int32 => TSw cA a0 aR aM aW aP aS aC aO nW nE u.1 f us P S sc li rc rn ro rd u.2) (fun (E : String) (u : (Nat → Int32) × Int32) => px E u.1 u.2)) ([.ref a0, .int a1, .int a2, .int a3] : List Value).toArray s 2 12 A) (F0 m 23 ls []) := by
    intro y1_23 y2_23 y3_23 Rf_23 stf_23 kx K n
    induction n with
    | zero => intro x4_23 x5_23 H locs ls hP hD hS hl h; exact h.elim
    | succ n ih =>
      intro x4_23 x5_23 H locs ls hP hD hS hl h
      refine lv_iload hx hb d_T_walk_23 (lv_at hl 5 rfl) ?_
      refine lv_iload_n hx hb d_T_walk_25 rfl (lv_at hl 3 rfl) ?_
      refine lv_icmp_ge (tgt := 78) hx hb d_T_walk_26 (by decide) (fun c_26 => ?_) (fun c_26 => ?_)
      · have h := h.1 c_26
        exact K x4_23 x5_23 H locs ls hP hD hS (lv_sub hl [0, 1, 2, 3, 4, 5] rfl) h
      · have h := h.2 c_26
        refine lv_aload_n hx hb d_T_walk_29 rfl (lv_at hl 0 rfl) ?_
        refine va_get (D := (dC, dI)) (ci := 0) (v := .ref aM) (C := R_T) (T := T_T) (N := 2) hx hb hw in_T hown hK hP 0 rfl rfl 1 (by decide) (hw _ wd_99) (fun _ h9 => h9) rfl d_T_walk_30 ?_
        refine lv_iload hx hb d_T_walk_33 (lv_at hl 4 rfl) ?_
        refine rq_calli (W.runV (As := [.int x4_23]) (rest := []) ⟨hx, hb, hml, hown, hw⟩ (mM_holdsSlots l dC dI cA a0 aR aM aW aP aS aC aO nW nE Rf_23 f us P S sc li rc rn ro rd stf_23 x4_23 _ h) (cwV 1 hw g_T_80 rfl rfl rfl (by decide +kernel) ⟨Nat.le_of_ble_eq_true rfl, Nat.le_of_ble_eq_true rfl⟩) (ro_PV (ci := 1) (q0 := 2) hK hP rfl rfl) rfl rfl hl.1 rfl (lv_room (Nat.le_of_ble_eq_true rfl)) d_T_walk_35 ⟨Nat.le_of_ble_eq_true rfl, Nat.le_of_ble_eq_true rfl⟩) (fun r35 h => ?_)
        refine lv_if_eq (tgt := 78) hx hb d_T_walk_38 (by decide) (fun c_38 => ?_) (fun c_38 => ?_)
        · have h := h.1 c_38
          exact K x4_23 x5_23 H locs ls hP hD hS (lv_sub hl [0, 1, 2, 3, 4, 5] rfl) h
        · have h := h.2 c_38
          refine lv_iload_n hx hb d_T_walk_41 rfl (lv_at hl 2 rfl) ?_
          refine lv_iconst (v := (0 : Int32)) hx hb d_T_walk_42 (by decide) ?_
          refine lv_aload_n hx hb d_T_walk_43 rfl (lv_at hl 0 rfl) ?_
          refine va_get (D := (dC, dI)) (ci := 0) (v := .ref aM) (C := R_T) (T := T_T) (N := 2) hx hb hw in_T hown hK hP 0 rfl rfl 1 (by decide) (hw _ wd_99) (fun _ h9 => h9) rfl d_T_walk_44 ?_
          refine lv_iload hx hb d_T_walk_47 (lv_at hl 4 rfl) ?_
          refine rq_calli (W.runV (As := [.int x4_23]) (rest := [.int (0 : Int32), .int y2_23]) ⟨hx, hb, hml, hown, hw⟩ (mM_count l dC dI cA a0 aR aM aW aP aS aC aO nW nE Rf_23 f us P S sc li rc rn ro rd stf_23 x4_23 _ h) (cwV 1 hw g_T_84 rfl rfl rfl (by decide +kernel) ⟨Nat.le_of_ble_eq_true rfl, Nat.le_of_ble_eq_true rfl⟩) (ro_PV (ci := 1) (q0 := 2) hK hP rfl rfl) rfl rfl hl.1 rfl (lv_room (Nat.le_of_ble_eq_true rfl)) d_T_walk_49 ⟨Nat.le_of_ble_eq_true rfl, Nat.le_of_ble_eq_true rfl⟩) (fun r49 h => ?_)
          refine lv_iconst (v := (1 : Int32)) hx hb d_T_walk_52 (by decide) ?_
          refine lv_isub hx hb d_T_walk_53 ?_
          refine rq_calli (W.runS (As := [.int y2_23, .int (0 : Int32), .int (r49 - (1 : Int32))]) (rest := []) ⟨hx, hb, hml, hown, hw⟩ (mT_isBetween l y2_23 (0 : Int32) (r49 - (1 : Int32)) _ h) (va_cwS 3 hw g_T_16 rfl rfl rfl (by decide +kernel) ⟨Nat.le_of_ble_eq_true rfl, Nat.le_of_ble_eq_true rfl⟩) preEq rfl rfl hl.1 rfl (lv_room (Nat.le_of_ble_eq_true rfl)) d_T_walk_54 ⟨Nat.le_of_ble_eq_true rfl, Nat.le_of_ble_eq_true rfl⟩) (fun r54 h => ?_)
          refine lv_if_eq (tgt := 78) hx hb d_T_walk_57 (by decide) (fun c_57 => ?_) (fun c_57 => ?_)
          · have h := h.1 c_57
            exact K x4_23 x5_23 H locs ls hP hD hS (lv_sub hl [0, 1, 2, 3, 4, 5] rfl) h
          · have h := h.2 c_57
            refine lv_aload_n hx hb d_T_walk_60 rfl (lv_at hl 0 rfl) ?_
            refine va_get (D := (dC, dI)) (ci := 0) (v := .ref aM) (C := R_T) (T := T_T) (N := 2) hx hb hw in_T hown hK hP 0 rfl rfl 1 (by decide) (hw _ wd_99) (fun _ h9 => h9) rfl d_T_walk_61 ?_
            refine lv_iload hx hb d_T_walk_64 (lv_at hl 4 rfl) ?_
            refine lv_iload_n hx hb d_T_walk_66 rfl (lv_at hl 2 rfl) ?_
            refine rq_calli (W.runV (As := [.int x4_23, .int y2_23]) (rest := []) ⟨hx, hb, hml, hown, hw⟩ (mM_slot l dC dI cA a0 aR aM aW aP aS aC aO nW nE Rf_23 f us P S sc li rc rn ro rd stf_23 x4_23 y2_23 _ h) (cwV 2 hw g_T_76 rfl rfl rfl (by decide +kernel) ⟨Nat.le_of_ble_eq_true rfl, Nat.le_of_ble_eq_true rfl⟩) (ro_PV (ci := 1) (q0 := 2) hK hP rfl rfl) rfl rfl hl.1 rfl (lv_room (Nat.le_of_ble_eq_true rfl)) d_T_walk_67 ⟨Nat.le_of_ble_eq_true rfl, Nat.le_of_ble_eq_true rfl⟩) (fun r67 h => ?_)
            refine lv_istore (lv' := [(4, .int r67), (0, .ref a0), (1, .int y1_23), (2, .int y2_23), (3, .int y3_23), (5, .int x5_23)]) hx hb d_T_walk_70 hl (by decide) rfl (fun ls hl => ?_)
            refine lv_iinc (v := x5_23 + (1 : Int32)) (lv' := [(5, .int (x5_23 + (1 : Int32))), (4, .int r67), (0, .ref a0), (1, .int y1_23), (2, .int y2_23), (3, .int y3_23)]) hx hb d_T_walk_72 hl (k := 5) rfl rfl (by decide) rfl (fun ls hl => ?_)
            refine lv_goto (tgt := 23) hx hb d_T_walk_75 (by decide) ?_
            exact ih r67 (x5_23 + (1 : Int32)) H locs ls hP hD hS (lv_sub hl [2, 3, 4, 5, 1, 0] rfl) h
  unfold wqT_walk at h
  refine lv_iload_n hx hb d_T_walk_0 rfl (lv_at hl 1 rfl) ?_
  refine rx_callv (vx_runS (As := [.int a1]) (rest := []) ⟨hx, hb, hml, hown, hw⟩ (mT_needRegister l hlT sa a1 _ _ h) (va_cwS 1 hw g_T_27 rfl rfl rfl (by decide +kernel) ⟨Nat.le_of_ble_eq_true rfl, Nat.le_of_ble_eq_true rfl⟩) (xs_PS (xt_at hXT hS)) rfl rfl hl.1 rfl (lv_room (Nat.le_of_ble_eq_true rfl)) d_T_walk_1 ⟨Nat.le_of_ble_eq_true rfl, Nat.le_of_ble_eq_true rfl⟩) (fun E9 ce q9 H1 h hz hk hce hcv hcl => ?_) (fun h => ?_)
  · exact rx_out (R, st) rfl hEx hlocks hK hP hD hS h hz hk hce hcv hcl (Nat.le_of_ble_eq_true rfl) (Nat.le_of_ble_eq_true rfl)
  · refine lv_iload_n hx hb d_T_walk_4 rfl (lv_at hl 3 rfl) ?_
    refine lv_iconst (v := (0 : Int32)) hx hb d_T_walk_5 (by decide) ?_
    refine lv_sipush (v := (10000 : Int32)) hx hb d_T_walk_6 (by decide) ?_
    refine rx_callv (vx_runS (As := [.int a3, .int (0 : Int32), .int (10000 : Int32)]) (rest := []) ⟨hx, hb, hml, hown, hw⟩ (mT_needBetween l hlT sa a3 (0 : Int32) (10000 : Int32) _ _ h) (va_cwS 3 hw g_T_33 rfl rfl rfl (by decide +kernel) ⟨Nat.le_of_ble_eq_true rfl, Nat.le_of_ble_eq_true rfl⟩) (xs_PS (xt_at hXT hS)) rfl rfl hl.1 rfl (lv_room (Nat.le_of_ble_eq_true rfl)) d_T_walk_9 ⟨Nat.le_of_ble_eq_true rfl, Nat.le_of_ble_eq_true rfl⟩) (fun E9 ce q9 H1 h hz hk hce hcv hcl => ?_) (fun h => ?_)
    · exact rx_out (R, st) rfl hEx hlocks hK hP hD hS h hz hk hce hcv hcl (Nat.le_of_ble_eq_true rfl) (Nat.le_of_ble_eq_true rfl)
    · refine lv_aload_n hx hb d_T_walk_12 rfl (lv_at hl 0 rfl) ?_
      refine va_get (D := (dC, dI)) (ci := 0) (v := .ref aR) (C := R_T) (T := T_T) (N := 2) hx hb hw in_T hown hK hP 0 rfl rfl 0 (by decide) (hw _ wd_98) (fun _ h9 => h9) rfl d_T_walk_13 ?_
      refine lv_iload_n hx hb d_T_walk_16 rfl (lv_at hl 1 rfl) ?_
      refine va_iald hx hb hK hP 1 0 rfl rfl h.1 d_T_walk_17 ?_
      have h := h.2
      refine lv_istore (lv' := [(4, .int (R a1.toNatClampNeg)), (0, .ref a0), (1, .int a1), (2, .int a2), (3, .int a3)]) hx hb d_T_walk_18 hl (by decide) rfl (fun ls hl => ?_)
      refine lv_iconst (v := (0 : Int32)) hx hb d_T_walk_20 (by decide) ?_
      refine lv_istore (lv' := [(5, .int (0 : Int32)), (4, .int (R a1.toNatClampNeg)), (0, .ref a0), (1, .int a1), (2, .int a2), (3, .int a3)]) hx hb d_T_walk_21 hl (by decide) rfl (fun ls hl => ?_)
      obtain ⟨n_23, h⟩ := h
      refine lp_23 a1 a2 a3 R st _ (fun z4_23 z5_23 H locs ls hP hD hS hl h => ?_) n_23 (R a1.toNatClampNeg) (0 : Int32) s.heap [] ls hP hD hS (lv_sub hl [2, 3, 4, 5, 1, 0] rfl) h
      refine lv_aload_n hx hb d_T_walk_78 rfl (lv_at hl 0 rfl) ?_
      refine lv_iload_n hx hb d_T_walk_79 rfl (lv_at hl 1 rfl) ?_
      refine lv_iload hx hb d_T_walk_80 (lv_at hl 4 rfl) ?_
      have hFc := va_free (wc := TSw cA a0 aR aM aW aP aS aC aO nW nE R f us P S sc li rc rn ro rd st) hD hS hA [0, 1, 2, 3, 4, 5, 6, 7] rfl
      refine va_callv (va_runV (As := [.int a1, .int z4_23]) (rest := []) ⟨hx, hb, hml, hown, hw⟩ (mT_setRegister l dC dI cA a0 aR aM aW aP aS aC aO nW nE H.size R f us P S sc li rc rn ro rd st a1 z4_23 _ h) (cwV 2 hw g_T_43 rfl rfl rfl (by decide +kernel) ⟨Nat.le_of_ble_eq_true rfl, Nat.le_of_ble_eq_true rfl⟩) (rw_PV (ci := 0) (q0 := 0) hK hP hD rfl rfl) rfl rfl hl.1 rfl (lv_room (Nat.le_of_ble_eq_true rfl)) d_T_walk_82 ⟨Nat.le_of_ble_eq_true rfl, Nat.le_of_ble_eq_true rfl⟩) hS (fun q _ h => hFc q h) hFc (fun u t H locs ht hvm h hB hz1 hk1 hS => ?_)
      obtain ⟨R_82, st_82⟩ := u
      obtain ⟨hP, hK1, hD1⟩ := hB
      rw [ht] at hP
      have hD := hD1.weaken (fun _ _ _ q => hFc _ q)
      clear hFc hD1 hK1
      try dsimp only at h
      have hP : va_P (dC, dI) vwCl (TSw cA a0 aR aM aW aP aS aC aO nW nE R_82 f us P S sc li rc rn ro rd st_82) H := hP
      have hD : va_D A (TSw cA a0 aR aM aW aP aS aC aO nW nE R_82 f us P S sc li rc rn ro rd st_82) := hD
      refine lv_iload hx hb d_T_walk_85 (lv_at hl 5 rfl) ?_
      refine W.widen (k := 2) (n := 12) (Nat.le_of_ble_eq_true rfl) (Nat.le_of_ble_eq_true rfl) ?_
      exact vx_ret (W.iret (v := z5_23) hx hb hr9 (fun t ht hW => ⟨⟨_, (R_82, st_82), rfl, h, by rw [ht]; exact hP, va_K.moved hW.alike hK, hD⟩, hS.F ht⟩) hS.2.2 d_T_walk_87)
def wqT_classOf (nW : Nat) (nE : Nat) (R : Nat → Int32) (f : Nat → Int32) (P : Nat → Int32) (st : Int32) (a1 : Int32) (a2 : Int32) (post : (Nat → Int32) → Int32 → Prop) (px : String → (Nat → Int32) → Int32 → Prop) : Prop :=
  wqT_needRegister a1 (wqT_needObject nW nE R a2 (vp_in a2 32 ∧ (wqM_itsClass nW nE f P (R a2.toNatClampNeg) (fun r21 => wqT_setRegister nW nE R st a1 r21 (fun R_24 st_24 => post R_24 st_24)))) (fun E => px E R st)) (fun E => px E R st)
set_option maxHeartbeats 4000000 in
set_option maxRecDepth 100000 in
theorem mT_classOf (l : Launch) (hlT : l.stackTraces = false) (sa : Nat → Nat) (dC : Nat → ClassId) (dI : Nat → Nat → Nat) (cA : ClassId) (a0 : Nat) (aR : Nat) (aM : Nat) (aW : Nat) (aP : Nat) (aS : Nat) (aC : Nat) (aO : Nat) (nW : Nat) (nE : Nat) (sz : Nat) (R : Nat → Int32) (f : Nat → Int32) (us : Int32) (P : Nat → Int32) (S : Nat → Int32) (sc : Int32) (li : Int32) (rc : Nat → Int32) (rn : Int32) (ro : Nat → Int32) (rd : Int32) (st : Int32) (a1 : Int32) (a2 : Int32) (post : (Nat → Int32) → Int32 → Prop) (px : String → (Nat → Int32) → Int32 → Prop) (h : wqT_classOf nW nE R f P st a1 a2 post px) : vx_Met l y_T_classOf ws_T_classOf ({ frames := 8, cells := 3, slots := 18, locals := 141 }) (xw_P (dC, dI) vwCl (TSw cA a0 aR aM aW aP aS aC aO nW nE R f us P S sc li rc rn ro rd st) [(cA, .int)] sz sa [.ref a0, .int a1, .int a2]) (va_Qv (fun u : (Nat → Int32) × Int32 => post u.1 u.2) (rw_B (dC, dI) vwCl [(cA, .int)] (va_A (TSw cA a0 aR aM aW aP aS aC aO nW nE R f us P S sc li rc rn ro rd st) sz) (fun u : (Nat → Int32) × Int32 => TSw cA a0 aR aM aW aP aS aC aO nW nE u.1 f us P S sc li rc rn ro rd u.2)) (va_A (TSw cA a0 aR aM aW aP aS aC aO nW nE R f us P S sc li rc rn ro rd st) sz)) (rw_X (dC, dI) vwCl [(cA, .int)] (va_A (TSw cA a0 aR aM aW aP aS aC aO nW nE R f us P S sc li rc rn ro rd st) sz) (fun u : (Nat → Int32) × Int32 => TSw cA a0 aR aM aW aP aS aC aO nW nE u.1 f us P S sc li rc rn ro rd u.2) (fun (E : String) (u : (Nat → Int32) × Int32) => px E u.1 u.2)) 3 18 (va_A (TSw cA a0 aR aM aW aP aS aC aO nW nE R f us P S sc li rc rn ro rd st) sz) := by
  refine vx_ofW (cc := c_T_classOf) (maxL := 3) (ret := none) (by decide) rfl ?_
  intro p e s m args below meth c s₁ B hml hEx hv
  obtain ⟨rfl, hsz, hP, hK, hD0, hXT⟩ := hv
  have hx := B.exec
  have hb := B.bytes
  have hr9 := B.returns
  have hts := atoms_spec (ws := ws_T_classOf) B.pre
  have hw : ∀ w ∈ WB_, w.before _ s = true := fun w h => hts w (List.mem_cons_of_mem _ h)
  have hown : s.vm.findClass R_T = some m.cls := findClass_of_methodNamed B.named
  have hlocks := B.notSynchronized
  subst hsz
  have hD := hD0.self (sz := s.heap.size)
  generalize hAe : va_A (TSw cA a0 aR aM aW aP aS aC aO nW nE R f us P S sc li rc rn ro rd st) s.heap.size = A at hD hXT ⊢
  have hA : ∀ q : Nat, s.heap.size ≤ q → A q := fun q h => by rw [← hAe]; exact Or.inr h
  have hS : va_S A s.heap s.heap [] := va_S.rf
  have hl := lv_entry ([.ref a0, .int a1, .int a2]) (n := 3) (Nat.le_of_ble_eq_true rfl)
  rw [lg_entry_eq]
  generalize (lg_sl ([.ref a0, .int a1, .int a2]) ++ List.replicate (3 - (lg_sl ([.ref a0, .int a1, .int a2])).length) Slot.unset).toArray = ls at hl ⊢
  have hl : lv_has ls 3 [(0, .ref a0), (1, .int a1), (2, .int a2)] := hl
  unfold wqT_classOf at h
  refine lv_iload_n hx hb d_T_classOf_0 rfl (lv_at hl 1 rfl) ?_
  refine rx_callv (vx_runS (As := [.int a1]) (rest := []) ⟨hx, hb, hml, hown, hw⟩ (mT_needRegister l hlT sa a1 _ _ h) (va_cwS 1 hw g_T_27 rfl rfl rfl (by decide +kernel) ⟨Nat.le_of_ble_eq_true rfl, Nat.le_of_ble_eq_true rfl⟩) (xs_PS (xt_at hXT hS)) rfl rfl hl.1 rfl (lv_room (Nat.le_of_ble_eq_true rfl)) d_T_classOf_1 ⟨Nat.le_of_ble_eq_true rfl, Nat.le_of_ble_eq_true rfl⟩) (fun E9 ce q9 H1 h hz hk hce hcv hcl => ?_) (fun h => ?_)
  · exact rx_out (R, st) rfl hEx hlocks hK hP hD hS h hz hk hce hcv hcl (Nat.le_of_ble_eq_true rfl) (Nat.le_of_ble_eq_true rfl)
  · refine lv_aload_n hx hb d_T_classOf_4 rfl (lv_at hl 0 rfl) ?_
    refine lv_iload_n hx hb d_T_classOf_5 rfl (lv_at hl 2 rfl) ?_
    refine rx_callv (vx_runV (As := [.int a2]) (rest := []) ⟨hx, hb, hml, hown, hw⟩ (mT_needObject l hlT sa dC dI cA a0 aR aM aW aP aS aC aO nW nE R f us P S sc li rc rn ro rd st a2 _ _ h) (cwV 1 hw g_T_60 rfl rfl rfl (by decide +kernel) ⟨Nat.le_of_ble_eq_true rfl, Nat.le_of_ble_eq_true rfl⟩) (xo_PV (ci := 0) (q0 := 0) hK hP (xt_at hXT hS) rfl rfl) rfl rfl hl.1 rfl (lv_room (Nat.le_of_ble_eq_true rfl)) d_T_classOf_6 ⟨Nat.le_of_ble_eq_true rfl, Nat.le_of_ble_eq_true rfl⟩) (fun E9 ce q9 H1 h hz hk hce hcv hcl => ?_) (fun h => ?_)
    · exact rx_out (R, st) rfl hEx hlocks hK hP hD hS h hz hk hce hcv hcl (Nat.le_of_ble_eq_true rfl) (Nat.le_of_ble_eq_true rfl)
    · refine lv_aload_n hx hb d_T_classOf_9 rfl (lv_at hl 0 rfl) ?_
      refine lv_iload_n hx hb d_T_classOf_10 rfl (lv_at hl 1 rfl) ?_
      refine lv_aload_n hx hb d_T_classOf_11 rfl (lv_at hl 0 rfl) ?_
      refine va_get (D := (dC, dI)) (ci := 0) (v := .ref aM) (C := R_T) (T := T_T) (N := 2) hx hb hw in_T hown hK hP 0 rfl rfl 1 (by decide) (hw _ wd_99) (fun _ h9 => h9) rfl d_T_classOf_12 ?_
      refine lv_aload_n hx hb d_T_classOf_15 rfl (lv_at hl 0 rfl) ?_
      refine va_get (D := (dC, dI)) (ci := 0) (v := .ref aR) (C := R_T) (T := T_T) (N := 2) hx hb hw in_T hown hK hP 0 rfl rfl 0 (by decide) (hw _ wd_98) (fun _ h9 => h9) rfl d_T_classOf_16 ?_
      refine lv_iload_n hx hb d_T_classOf_19 rfl (lv_at hl 2 rfl) ?_
      refine va_iald hx hb hK hP 1 0 rfl rfl h.1 d_T_classOf_20 ?_
      have h := h.2
      refine rq_calli (W.runV (As := [.int (R a2.toNatClampNeg)]) (rest := [.int a1, .ref a0]) ⟨hx, hb, hml, hown, hw⟩ (mM_itsClass l dC dI cA a0 aR aM aW aP aS aC aO nW nE R f us P S sc li rc rn ro rd st (R a2.toNatClampNeg) _ h) (cwV 1 hw g_T_87 rfl rfl rfl (by decide +kernel) ⟨Nat.le_of_ble_eq_true rfl, Nat.le_of_ble_eq_true rfl⟩) (ro_PV (ci := 1) (q0 := 2) hK hP rfl rfl) rfl rfl hl.1 rfl (lv_room (Nat.le_of_ble_eq_true rfl)) d_T_classOf_21 ⟨Nat.le_of_ble_eq_true rfl, Nat.le_of_ble_eq_true rfl⟩) (fun r21 h => ?_)
      have hFc := va_free (wc := TSw cA a0 aR aM aW aP aS aC aO nW nE R f us P S sc li rc rn ro rd st) hD hS hA [0, 1, 2, 3, 4, 5, 6, 7] rfl
      refine va_callv (va_runV (As := [.int a1, .int r21]) (rest := []) ⟨hx, hb, hml, hown, hw⟩ (mT_setRegister l dC dI cA a0 aR aM aW aP aS aC aO nW nE s.heap.size R f us P S sc li rc rn ro rd st a1 r21 _ h) (cwV 2 hw g_T_43 rfl rfl rfl (by decide +kernel) ⟨Nat.le_of_ble_eq_true rfl, Nat.le_of_ble_eq_true rfl⟩) (rw_PV (ci := 0) (q0 := 0) hK hP hD rfl rfl) rfl rfl hl.1 rfl (lv_room (Nat.le_of_ble_eq_true rfl)) d_T_classOf_24 ⟨Nat.le_of_ble_eq_true rfl, Nat.le_of_ble_eq_true rfl⟩) hS (fun q _ h => hFc q h) hFc (fun u t H locs ht hvm h hB hz1 hk1 hS => ?_)
      obtain ⟨R_24, st_24⟩ := u
      obtain ⟨hP, hK1, hD1⟩ := hB
      rw [ht] at hP
      have hD := hD1.weaken (fun _ _ _ q => hFc _ q)
      clear hFc hD1 hK1
      try dsimp only at h
      have hP : va_P (dC, dI) vwCl (TSw cA a0 aR aM aW aP aS aC aO nW nE R_24 f us P S sc li rc rn ro rd st_24) H := hP
      have hD : va_D A (TSw cA a0 aR aM aW aP aS aC aO nW nE R_24 f us P S sc li rc rn ro rd st_24) := hD
      refine W.widen (k := 3) (n := 18) (Nat.le_of_ble_eq_true rfl) (Nat.le_of_ble_eq_true rfl) ?_
      exact vx_ret (W.vret hx hb hr9 (fun t ht hW => ⟨⟨(R_24, st_24), rfl, h, by rw [ht]; exact hP, va_K.moved hW.alike hK, hD⟩, hS.F ht⟩) hS.2.2 d_T_classOf_27)
def wqT_setClass (nW : Nat) (nE : Nat) (R : Nat → Int32) (f : Nat → Int32) (P : Nat → Int32) (st : Int32) (a1 : Int32) (a2 : Int32) (post : (Nat → Int32) → Int32 → Prop) (px : String → (Nat → Int32) → Int32 → Prop) : Prop :=
  wqT_needObject nW nE R a1 (wqT_needRegister a2 (vp_in a1 32 ∧ (vp_in a2 32 ∧ (wqM_setItsClass nW nE f P st (R a1.toNatClampNeg) (R a2.toNatClampNeg) (fun f_25 st_25 => post f_25 st_25)))) (fun E => px E f st)) (fun E => px E f st)
set_option maxHeartbeats 4000000 in
set_option maxRecDepth 100000 in
theorem mT_setClass (l : Launch) (hlT : l.stackTraces = false) (sa : Nat → Nat) (dC : Nat → ClassId) (dI : Nat → Nat → Nat) (cA : ClassId) (a0 : Nat) (aR : Nat) (aM : Nat) (aW : Nat) (aP : Nat) (aS : Nat) (aC : Nat) (aO : Nat) (nW : Nat) (nE : Nat) (sz : Nat) (R : Nat → Int32) (f : Nat → Int32) (us : Int32) (P : Nat → Int32) (S : Nat → Int32) (sc : Int32) (li : Int32) (rc : Nat → Int32) (rn : Int32) (ro : Nat → Int32) (rd : Int32) (st : Int32) (a1 : Int32) (a2 : Int32) (post : (Nat → Int32) → Int32 → Prop) (px : String → (Nat → Int32) → Int32 → Prop) (h : wqT_setClass nW nE R f P st a1 a2 post px) : vx_Met l y_T_setClass ws_T_setClass ({ frames := 8, cells := 3, slots := 18, locals := 141 }) (xw_P (dC, dI) vwCl (TSw cA a0 aR aM aW aP aS aC aO nW nE R f us P S sc li rc rn ro rd st) [(cA, .int)] sz sa [.ref a0, .int a1, .int a2]) (va_Qv (fun u : (Nat → Int32) × Int32 => post u.1 u.2) (rw_B (dC, dI) vwCl [(cA, .int)] (va_A (TSw cA a0 aR aM aW aP aS aC aO nW nE R f us P S sc li rc rn ro rd st) sz) (fun u : (Nat → Int32) × Int32 => TSw cA a0 aR aM aW aP aS aC aO nW nE R u.1 us P S sc li rc rn ro rd u.2)) (va_A (TSw cA a0 aR aM aW aP aS aC aO nW nE R f us P S sc li rc rn ro rd st) sz)) (rw_X (dC, dI) vwCl [(cA, .int)] (va_A (TSw cA a0 aR aM aW aP aS aC aO nW nE R f us P S sc li rc rn ro rd st) sz) (fun u : (Nat → Int32) × Int32 => TSw cA a0 aR aM aW aP aS aC aO nW nE R u.1 us P S sc li rc rn ro rd u.2) (fun (E : String) (u : (Nat → Int32) × Int32) => px E u.1 u.2)) 3 18 (va_A (TSw cA a0 aR aM aW aP aS aC aO nW nE R f us P S sc li rc rn ro rd st) sz) := by
  refine vx_ofW (cc := c_T_setClass) (maxL := 3) (ret := none) (by decide) rfl ?_
  intro p e s m args below meth c s₁ B hml hEx hv
  obtain ⟨rfl, hsz, hP, hK, hD0, hXT⟩ := hv
  have hx := B.exec
  have hb := B.bytes
  have hr9 := B.returns
  have hts := atoms_spec (ws := ws_T_setClass) B.pre
  have hw : ∀ w ∈ WB_, w.before _ s = true := fun w h => hts w (List.mem_cons_of_mem _ h)
  have hown : s.vm.findClass R_T = some m.cls := findClass_of_methodNamed B.named
  have hlocks := B.notSynchronized
  subst hsz
  have hD := hD0.self (sz := s.heap.size)
  generalize hAe : va_A (TSw cA a0 aR aM aW aP aS aC aO nW nE R f us P S sc li rc rn ro rd st) s.heap.size = A at hD hXT ⊢
  have hA : ∀ q : Nat, s.heap.size ≤ q → A q := fun q h => by rw [← hAe]; exact Or.inr h
  have hS : va_S A s.heap s.heap [] := va_S.rf
  have hl := lv_entry ([.ref a0, .int a1, .int a2]) (n := 3) (Nat.le_of_ble_eq_true rfl)
  rw [lg_entry_eq]
  generalize (lg_sl ([.ref a0, .int a1, .int a2]) ++ List.replicate (3 - (lg_sl ([.ref a0, .int a1, .int a2])).length) Slot.unset).toArray = ls at hl ⊢
  have hl : lv_has ls 3 [(0, .ref a0), (1, .int a1), (2, .int a2)] := hl
  unfold wqT_setClass at h
  refine lv_aload_n hx hb d_T_setClass_0 rfl (lv_at hl 0 rfl) ?_
  refine lv_iload_n hx hb d_T_setClass_1 rfl (lv_at hl 1 rfl) ?_
  refine rx_callv (vx_runV (As := [.int a1]) (rest := []) ⟨hx, hb, hml, hown, hw⟩ (mT_needObject l hlT sa dC dI cA a0 aR aM aW aP aS aC aO nW nE R f us P S sc li rc rn ro rd st a1 _ _ h) (cwV 1 hw g_T_60 rfl rfl rfl (by decide +kernel) ⟨Nat.le_of_ble_eq_true rfl, Nat.le_of_ble_eq_true rfl⟩) (xo_PV (ci := 0) (q0 := 0) hK hP (xt_at hXT hS) rfl rfl) rfl rfl hl.1 rfl (lv_room (Nat.le_of_ble_eq_true rfl)) d_T_setClass_2 ⟨Nat.le_of_ble_eq_true rfl, Nat.le_of_ble_eq_true rfl⟩) (fun E9 ce q9 H1 h hz hk hce hcv hcl => ?_) (fun h => ?_)
  · exact rx_out (f, st) rfl hEx hlocks hK hP hD hS h hz hk hce hcv hcl (Nat.le_of_ble_eq_true rfl) (Nat.le_of_ble_eq_true rfl)
  · refine lv_iload_n hx hb d_T_setClass_5 rfl (lv_at hl 2 rfl) ?_
    refine rx_callv (vx_runS (As := [.int a2]) (rest := []) ⟨hx, hb, hml, hown, hw⟩ (mT_needRegister l hlT sa a2 _ _ h) (va_cwS 1 hw g_T_27 rfl rfl rfl (by decide +kernel) ⟨Nat.le_of_ble_eq_true rfl, Nat.le_of_ble_eq_true rfl⟩) (xs_PS (xt_at hXT hS)) rfl rfl hl.1 rfl (lv_room (Nat.le_of_ble_eq_true rfl)) d_T_setClass_6 ⟨Nat.le_of_ble_eq_true rfl, Nat.le_of_ble_eq_true rfl⟩) (fun E9 ce q9 H1 h hz hk hce hcv hcl => ?_) (fun h => ?_)
    · exact rx_out (f, st) rfl hEx hlocks hK hP hD hS h hz hk hce hcv hcl (Nat.le_of_ble_eq_true rfl) (Nat.le_of_ble_eq_true rfl)
    · refine lv_aload_n hx hb d_T_setClass_9 rfl (lv_at hl 0 rfl) ?_
      refine va_get (D := (dC, dI)) (ci := 0) (v := .ref aM) (C := R_T) (T := T_T) (N := 2) hx hb hw in_T hown hK hP 0 rfl rfl 1 (by decide) (hw _ wd_99) (fun _ h9 => h9) rfl d_T_setClass_10 ?_
      refine lv_aload_n hx hb d_T_setClass_13 rfl (lv_at hl 0 rfl) ?_
      refine va_get (D := (dC, dI)) (ci := 0) (v := .ref aR) (C := R_T) (T := T_T) (N := 2) hx hb hw in_T hown hK hP 0 rfl rfl 0 (by decide) (hw _ wd_98) (fun _ h9 => h9) rfl d_T_setClass_14 ?_
      refine lv_iload_n hx hb d_T_setClass_17 rfl (lv_at hl 1 rfl) ?_
      refine va_iald hx hb hK hP 1 0 rfl rfl h.1 d_T_setClass_18 ?_
      have h := h.2
      refine lv_aload_n hx hb d_T_setClass_19 rfl (lv_at hl 0 rfl) ?_
      refine va_get (D := (dC, dI)) (ci := 0) (v := .ref aR) (C := R_T) (T := T_T) (N := 2) hx hb hw in_T hown hK hP 0 rfl rfl 0 (by decide) (hw _ wd_98) (fun _ h9 => h9) rfl d_T_setClass_20 ?_
      refine lv_iload_n hx hb d_T_setClass_23 rfl (lv_at hl 2 rfl) ?_
      refine va_iald hx hb hK hP 1 0 rfl rfl h.1 d_T_setClass_24 ?_
      have h := h.2
      have hFc := va_free (wc := TSw cA a0 aR aM aW aP aS aC aO nW nE R f us P S sc li rc rn ro rd st) hD hS hA [0, 1, 2, 3, 4, 5, 6, 7] rfl
      refine va_callv (va_runV (As := [.int (R a1.toNatClampNeg), .int (R a2.toNatClampNeg)]) (rest := []) ⟨hx, hb, hml, hown, hw⟩ (mM_setItsClass l dC dI cA a0 aR aM aW aP aS aC aO nW nE s.heap.size R f us P S sc li rc rn ro rd st (R a1.toNatClampNeg) (R a2.toNatClampNeg) _ h) (cwV 2 hw g_T_90 rfl rfl rfl (by decide +kernel) ⟨Nat.le_of_ble_eq_true rfl, Nat.le_of_ble_eq_true rfl⟩) (rw_PV (ci := 1) (q0 := 2) hK hP hD rfl rfl) rfl rfl hl.1 rfl (lv_room (Nat.le_of_ble_eq_true rfl)) d_T_setClass_25 ⟨Nat.le_of_ble_eq_true rfl, Nat.le_of_ble_eq_true rfl⟩) hS (fun q _ h => hFc q h) hFc (fun u t H locs ht hvm h hB hz1 hk1 hS => ?_)
      obtain ⟨f_25, st_25⟩ := u
      obtain ⟨hP, hK1, hD1⟩ := hB
      rw [ht] at hP
      have hD := hD1.weaken (fun _ _ _ q => hFc _ q)
      clear hFc hD1 hK1
      try dsimp only at h
      have hP : va_P (dC, dI) vwCl (TSw cA a0 aR aM aW aP aS aC aO nW nE R f_25 us P S sc li rc rn ro rd st_25) H := hP
      have hD : va_D A (TSw cA a0 aR aM aW aP aS aC aO nW nE R f_25 us P S sc li rc rn ro rd st_25) := hD
      refine W.widen (k := 3) (n := 18) (Nat.le_of_ble_eq_true rfl) (Nat.le_of_ble_eq_true rfl) ?_
      exact vx_ret (W.vret hx hb hr9 (fun t ht hW => ⟨⟨(f_25, st_25), rfl, h, by rw [ht]; exact hP, va_K.moved hW.alike hK, hD⟩, hS.F ht⟩) hS.2.2 d_T_setClass_28)
def wqT_byteAt (nW : Nat) (nE : Nat) (R : Nat → Int32) (f : Nat → Int32) (P : Nat → Int32) (a1 : Int32) (a2 : Int32) (post : Int32 → Prop) (px : String → Prop) : Prop :=
  wqT_needBytes nW nE R f P a1 (wqT_needIndex nW nE R f P a1 a2 (vp_in a1 32 ∧ (wqM_oneByte nW nE f P (R a1.toNatClampNeg) a2 (fun r22 => post r22))) (fun E => px E)) (fun E => px E)
set_option maxHeartbeats 4000000 in
set_option maxRecDepth 100000 in
theorem mT_byteAt (l : Launch) (hlT : l.stackTraces = false) (sa : Nat → Nat) (dC : Nat → ClassId) (dI : Nat → Nat → Nat) (cA : ClassId) (a0 : Nat) (aR : Nat) (aM : Nat) (aW : Nat) (aP : Nat) (aS : Nat) (aC : Nat) (aO : Nat) (nW : Nat) (nE : Nat) (sz : Nat) (R : Nat → Int32) (f : Nat → Int32) (us : Int32) (P : Nat → Int32) (S : Nat → Int32) (sc : Int32) (li : Int32) (rc : Nat → Int32) (rn : Int32) (ro : Nat → Int32) (rd : Int32) (st : Int32) (a1 : Int32) (a2 : Int32) (post : Int32 → Prop) (px : String → Prop) (h : wqT_byteAt nW nE R f P a1 a2 post px) : vx_Met l y_T_byteAt ws_T_byteAt ({ frames := 8, cells := 3, slots := 18, locals := 141 }) (xw_P (dC, dI) vwCl (TSw cA a0 aR aM aW aP aS aC aO nW nE R f us P S sc li rc rn ro rd st) [(cA, .int)] sz sa [.ref a0, .int a1, .int a2]) (va_Qi (fun (r : Int32) (u : Unit) => post r) (rw_B (dC, dI) vwCl [(cA, .int)] (va_A (TSw cA a0 aR aM aW aP aS aC aO nW nE R f us P S sc li rc rn ro rd st) sz) (fun u : Unit => TSw cA a0 aR aM aW aP aS aC aO nW nE R f us P S sc li rc rn ro rd st)) (va_A (TSw cA a0 aR aM aW aP aS aC aO nW nE R f us P S sc li rc rn ro rd st) sz)) (rw_X (dC, dI) vwCl [(cA, .int)] (va_A (TSw cA a0 aR aM aW aP aS aC aO nW nE R f us P S sc li rc rn ro rd st) sz) (fun u : Unit => TSw cA a0 aR aM aW aP aS aC aO nW nE R f us P S sc li rc rn ro rd st) (fun (E : String) (u : Unit) => px E)) 3 18 (va_A (TSw cA a0 aR aM aW aP aS aC aO nW nE R f us P S sc li rc rn ro rd st) sz) := by
  refine vx_ofW (cc := c_T_byteAt) (maxL := 3) (ret := (some .int)) (by decide) rfl ?_
  intro p e s m args below meth c s₁ B hml hEx hv
  obtain ⟨rfl, hsz, hP, hK, hD0, hXT⟩ := hv
  have hx := B.exec
  have hb := B.bytes
  have hr9 := B.returns
  have hts := atoms_spec (ws := ws_T_byteAt) B.pre
  have hw : ∀ w ∈ WB_, w.before _ s = true := fun w h => hts w (List.mem_cons_of_mem _ h)
  have hown : s.vm.findClass R_T = some m.cls := findClass_of_methodNamed B.named
  have hlocks := B.notSynchronized
  subst hsz
  have hD := hD0.self (sz := s.heap.size)
  generalize hAe : va_A (TSw cA a0 aR aM aW aP aS aC aO nW nE R f us P S sc li rc rn ro rd st) s.heap.size = A at hD hXT ⊢
  have hA : ∀ q : Nat, s.heap.size ≤ q → A q := fun q h => by rw [← hAe]; exact Or.inr h
  have hS : va_S A s.heap s.heap [] := va_S.rf
  have hl := lv_entry ([.ref a0, .int a1, .int a2]) (n := 3) (Nat.le_of_ble_eq_true rfl)
  rw [lg_entry_eq]
  generalize (lg_sl ([.ref a0, .int a1, .int a2]) ++ List.replicate (3 - (lg_sl ([.ref a0, .int a1, .int a2])).length) Slot.unset).toArray = ls at hl ⊢
  have hl : lv_has ls 3 [(0, .ref a0), (1, .int a1), (2, .int a2)] := hl
  unfold wqT_byteAt at h
  refine lv_aload_n hx hb d_T_byteAt_0 rfl (lv_at hl 0 rfl) ?_
  refine lv_iload_n hx hb d_T_byteAt_1 rfl (lv_at hl 1 rfl) ?_
  refine rx_callv (vx_runV (As := [.int a1]) (rest := []) ⟨hx, hb, hml, hown, hw⟩ (mT_needBytes l hlT sa dC dI cA a0 aR aM aW aP aS aC aO nW nE R f us P S sc li rc rn ro rd st a1 _ _ h) (cwV 1 hw g_T_93 rfl rfl rfl (by decide +kernel) ⟨Nat.le_of_ble_eq_true rfl, Nat.le_of_ble_eq_true rfl⟩) (xo_PV (ci := 0) (q0 := 0) hK hP (xt_at hXT hS) rfl rfl) rfl rfl hl.1 rfl (lv_room (Nat.le_of_ble_eq_true rfl)) d_T_byteAt_2 ⟨Nat.le_of_ble_eq_true rfl, Nat.le_of_ble_eq_true rfl⟩) (fun E9 ce q9 H1 h hz hk hce hcv hcl => ?_) (fun h => ?_)
  · exact rx_out () rfl hEx hlocks hK hP hD hS h hz hk hce hcv hcl (Nat.le_of_ble_eq_true rfl) (Nat.le_of_ble_eq_true rfl)
  · refine lv_aload_n hx hb d_T_byteAt_5 rfl (lv_at hl 0 rfl) ?_
    refine lv_iload_n hx hb d_T_byteAt_6 rfl (lv_at hl 1 rfl) ?_
    refine lv_iload_n hx hb d_T_byteAt_7 rfl (lv_at hl 2 rfl) ?_
    refine rx_callv (vx_runV (As := [.int a1, .int a2]) (rest := []) ⟨hx, hb, hml, hown, hw⟩ (mT_needIndex l hlT sa dC dI cA a0 aR aM aW aP aS aC aO nW nE R f us P S sc li rc rn ro rd st a1 a2 _ _ h) (cwV 2 hw g_T_73 rfl rfl rfl (by decide +kernel) ⟨Nat.le_of_ble_eq_true rfl, Nat.le_of_ble_eq_true rfl⟩) (xo_PV (ci := 0) (q0 := 0) hK hP (xt_at hXT hS) rfl rfl) rfl rfl hl.1 rfl (lv_room (Nat.le_of_ble_eq_true rfl)) d_T_byteAt_8 ⟨Nat.le_of_ble_eq_true rfl, Nat.le_of_ble_eq_true rfl⟩) (fun E9 ce q9 H1 h hz hk hce hcv hcl => ?_) (fun h => ?_)
    · exact rx_out () rfl hEx hlocks hK hP hD hS h hz hk hce hcv hcl (Nat.le_of_ble_eq_true rfl) (Nat.le_of_ble_eq_true rfl)
    · refine lv_aload_n hx hb d_T_byteAt_11 rfl (lv_at hl 0 rfl) ?_
      refine va_get (D := (dC, dI)) (ci := 0) (v := .ref aM) (C := R_T) (T := T_T) (N := 2) hx hb hw in_T hown hK hP 0 rfl rfl 1 (by decide) (hw _ wd_99) (fun _ h9 => h9) rfl d_T_byteAt_12 ?_
      refine lv_aload_n hx hb d_T_byteAt_15 rfl (lv_at hl 0 rfl) ?_
      refine va_get (D := (dC, dI)) (ci := 0) (v := .ref aR) (C := R_T) (T := T_T) (N := 2) hx hb hw in_T hown hK hP 0 rfl rfl 0 (by decide) (hw _ wd_98) (fun _ h9 => h9) rfl d_T_byteAt_16 ?_
      refine lv_iload_n hx hb d_T_byteAt_19 rfl (lv_at hl 1 rfl) ?_
      refine va_iald hx hb hK hP 1 0 rfl rfl h.1 d_T_byteAt_20 ?_
      have h := h.2
      refine lv_iload_n hx hb d_T_byteAt_21 rfl (lv_at hl 2 rfl) ?_
      refine rq_calli (W.runV (As := [.int (R a1.toNatClampNeg), .int a2]) (rest := []) ⟨hx, hb, hml, hown, hw⟩ (mM_oneByte l dC dI cA a0 aR aM aW aP aS aC aO nW nE R f us P S sc li rc rn ro rd st (R a1.toNatClampNeg) a2 _ h) (cwV 2 hw g_T_96 rfl rfl rfl (by decide +kernel) ⟨Nat.le_of_ble_eq_true rfl, Nat.le_of_ble_eq_true rfl⟩) (ro_PV (ci := 1) (q0 := 2) hK hP rfl rfl) rfl rfl hl.1 rfl (lv_room (Nat.le_of_ble_eq_true rfl)) d_T_byteAt_22 ⟨Nat.le_of_ble_eq_true rfl, Nat.le_of_ble_eq_true rfl⟩) (fun r22 h => ?_)
      refine W.widen (k := 3) (n := 18) (Nat.le_of_ble_eq_true rfl) (Nat.le_of_ble_eq_true rfl) ?_
      exact vx_ret (W.iret (v := r22) hx hb hr9 (fun t ht hW => ⟨⟨_, (), rfl, h, by rw [ht]; exact hP, va_K.moved hW.alike hK, hD⟩, hS.F ht⟩) hS.2.2 d_T_byteAt_25)
def wqT_bytePut_40 (nW : Nat) (nE : Nat) (R : Nat → Int32) (P : Nat → Int32) (y1_40 : Int32) (y2_40 : Int32) (y3_40 : Int64) (y5_40 : Int32) (y6_40 : Int32) (post : (Nat → Int32) → Prop) (px : String → (Nat → Int32) → Prop) (kx : Int32 → (Nat → Int32) → Prop) : Nat → Int32 → (Nat → Int32) → Prop
  | 0, _, _ => False
  | n + 1, x7_40, f_40 =>
    (y6_40 ≤ x7_40 → (kx x7_40 f_40)) ∧ (¬ (y6_40 ≤ x7_40) → (wqM_setOneByte nW nE f_40 P y5_40 (y2_40 + x7_40) ((((y3_40.toUInt64 >>> (((8 : Int32) * ((7 : Int32) - x7_40)).toInt64.toUInt64 &&& Int64.toUInt64 63)).toInt64).toInt32) &&& (255 : Int32)) (fun f_76 => wqT_bytePut_40 nW nE R P y1_40 y2_40 y3_40 y5_40 y6_40 post px kx n (x7_40 + (1 : Int32)) f_76)))
def wqT_bytePut (nW : Nat) (nE : Nat) (R : Nat → Int32) (f : Nat → Int32) (P : Nat → Int32) (a1 : Int32) (a2 : Int32) (a3 : Int64) (post : (Nat → Int32) → Prop) (px : String → (Nat → Int32) → Prop) : Prop :=
  wqT_needBytes nW nE R f P a1 (wqT_needIndex nW nE R f P a1 a2 (vp_in a1 32 ∧ (wqM_count nW nE f P (R a1.toNatClampNeg) (fun r27 => ∃ k_40, wqT_bytePut_40 nW nE R P a1 a2 a3 (R a1.toNatClampNeg) (if (r27 - a2) < (8 : Int32) then (r27 - a2) else (8 : Int32)) post px (fun z7_40 fe_40 => post fe_40) k_40 (0 : Int32) f))) (fun E => px E f)) (fun E => px E f)
set_option maxHeartbeats 4000000 in
set_option maxRecDepth 100000 in
theorem mT_bytePut (l : Launch) (hlT : l.stackTraces = false) (sa : Nat → Nat) (dC : Nat → ClassId) (dI : Nat → Nat → Nat) (cA : ClassId) (a0 : Nat) (aR : Nat) (aM : Nat) (aW : Nat) (aP : Nat) (aS : Nat) (aC : Nat) (aO : Nat) (nW : Nat) (nE : Nat) (sz : Nat) (R : Nat → Int32) (f : Nat → Int32) (us : Int32) (P : Nat → Int32) (S : Nat → Int32) (sc : Int32) (li : Int32) (rc : Nat → Int32) (rn : Int32) (ro : Nat → Int32) (rd : Int32) (st : Int32) (a1 : Int32) (a2 : Int32) (a3 : Int64) (post : (Nat → Int32) → Prop) (px : String → (Nat → Int32) → Prop) (h : wqT_bytePut nW nE R f P a1 a2 a3 post px) : vx_Met l y_T_bytePut ws_T_bytePut ({ frames := 8, cells := 3, slots := 18, locals := 141 }) (xw_P (dC, dI) vwCl (TSw cA a0 aR aM aW aP aS aC aO nW nE R f us P S sc li rc rn ro rd st) [(cA, .int)] sz sa [.ref a0, .int a1, .int a2, .long a3]) (va_Qv (fun u : (Nat → Int32) => post u) (rw_B (dC, dI) vwCl [(cA, .int)] (va_A (TSw cA a0 aR aM aW aP aS aC aO nW nE R f us P S sc li rc rn ro rd st) sz) (fun u : (Nat → Int32) => TSw cA a0 aR aM aW aP aS aC aO nW nE R u us P S sc li rc rn ro rd st)) (va_A (TSw cA a0 aR aM aW aP aS aC aO nW nE R f us P S sc li rc rn ro rd st) sz)) (rw_X (dC, dI) vwCl [(cA, .int)] (va_A (TSw cA a0 aR aM aW aP aS aC aO nW nE R f us P S sc li rc rn ro rd st) sz) (fun u : (Nat → Int32) => TSw cA a0 aR aM aW aP aS aC aO nW nE R u us P S sc li rc rn ro rd st) (fun (E : String) (u : (Nat → Int32)) => px E u)) 3 18 (va_A (TSw cA a0 aR aM aW aP aS aC aO nW nE R f us P S sc li rc rn ro rd st) sz) := by
  refine vx_ofW (cc := c_T_bytePut) (maxL := 9) (ret := none) (by decide) rfl ?_
  intro p e s m args below meth c s₁ B hml hEx hv
  obtain ⟨rfl, hsz, hP, hK, hD0, hXT⟩ := hv
  have hx := B.exec
  have hb := B.bytes
  have hr9 := B.returns
  have hts := atoms_spec (ws := ws_T_bytePut) B.pre
  have hw : ∀ w ∈ WB_, w.before _ s = true := fun w h => hts w (List.mem_cons_of_mem _ h)
  have hown : s.vm.findClass R_T = some m.cls := findClass_of_methodNamed B.named
  have hlocks := B.notSynchronized
  subst hsz
  have hD := hD0.self (sz := s.heap.size)
  generalize hAe : va_A (TSw cA a0 aR aM aW aP aS aC aO nW nE R f us P S sc li rc rn ro rd st) s.heap.size = A at hD hXT ⊢
  have hA : ∀ q : Nat, s.heap.size ≤ q → A q := fun q h => by rw [← hAe]; exact Or.inr h
  have hS : va_S A s.heap s.heap [] := va_S.rf
  have hl := lv_entry ([.ref a0, .int a1, .int a2, .long a3]) (n := 9) (Nat.le_of_ble_eq_true rfl)
  rw [lg_entry_eq]
  generalize (lg_sl ([.ref a0, .int a1, .int a2, .long a3]) ++ List.replicate (9 - (lg_sl ([.ref a0, .int a1, .int a2, .long a3])).length) Slot.unset).toArray = ls at hl ⊢
  have hl : lv_has ls 9 [(0, .ref a0), (1, .int a1), (2, .int a2), (3, .long a3)] := hl
  have lp_40 : ∀ (y1_40 : Int32) (y2_40 : Int32) (y3_40 : Int64) (y5_40 : Int32) (y6_40 : Int32) (kx : Int32 → (Nat → Int32) → Prop), (∀ (z7_40 : Int32) (fe_40 : Nat → Int32) (H : Heap) (locs : List Loc) (ls : Array Slot), va_P (dC, dI) vwCl (TSw cA a0 aR aM aW aP aS aC aO nW nE R fe_40 us P S sc li rc rn ro rd st) H → va_D A (TSw cA a0 aR aM aW aP aS aC aO nW nE R fe_40 us P S sc li rc rn ro rd st) → va_S A s.heap H locs → lv_has ls 9 [(0, .ref a0), (1, .int y1_40), (2, .int y2_40), (3, .long y3_40), (5, .int y5_40), (6, .int y6_40), (7, .int z7_40)] → kx z7_40 fe_40 → W p l e (headSpec ws_T_bytePut ({ frames := 8, cells := 3, slots := 18, locals := 141 })).room s m ([.ref a0, .int a1, .int a2, .long a3] : List Value).toArray below meth c H locs 3 18 (vx_MQ below (va_Qv (fun u : (Nat → Int32) => post u) (rw_B (dC, dI) vwCl [(cA, .int)] A (fun u : (Nat → Int32) => TSw cA a0 aR aM aW aP aS aC aO nW nE R u us P S sc li rc rn ro rd st)) A) (rw_X (dC, dI) vwCl [(cA, .int)] A (fun u : (Nat → Int32) => TSw cA a0 aR aM aW aP aS aC aO nW nE R u us P S sc li rc rn ro rd st) (fun (E : String) (u : (Nat → Int32)) => px E u)) ([.ref a0, .int a1, .int a2, .long a3] : List Value).toArray s 3 18 A) (F0 m 85 ls [])) → ∀ (n : Nat) (x7_40 : Int32) (f_40 : Nat → Int32) (H : Heap) (locs : List Loc) (ls : Array Slot), va_P (dC, dI) vwCl (TSw cA a0 aR aM aW aP aS aC aO nW nE R f_40 us P S sc li rc rn ro rd st) H → va_D A (TSw cA a0 aR aM aW aP aS aC aO nW nE R f_40 us P S sc li rc rn ro rd st) → va_S A s.heap H locs → lv_has ls 9 [(0, .ref a0), (1, .int y1_40), (2, .int y2_40), (3, .long y3_40), (5, .int y5_40), (6, .int y6_40), (7, .int x7_40)] → wqT_bytePut_40 nW nE R P y1_40 y2_40 y3_40 y5_40 y6_40 post px kx n x7_40 f_40 → W p l e (headSpec ws_T_bytePut ({ frames := 8, cells := 3, slots := 18, locals := 141 })).room s m ([.ref a0, .int a1, .int a2, .long a3] : List Value).toArray below meth c H locs 3 18 (vx_MQ below (va_Qv (fun u : (Nat → Int32) => post u) (rw_B (dC, dI) vwCl [(cA, .int)] A (fun u : (Nat → Int32) => TSw cA a0 aR aM aW aP aS aC aO nW nE R u us P S sc li rc rn ro rd st)) A) (rw_X (dC, dI) vwCl [(cA, .int)] A (fun u : (Nat → Int32) => TSw cA a0 aR aM aW aP aS aC aO nW nE R u us P S sc li rc rn ro rd st) (fun (E : String) (u : (Nat → Int32)) => px E u)) ([.ref a0, .int a1, .int a2, .long a3] : List Value).toArray s 3 18 A) (F0 m 40 ls []) := by
    intro y1_40 y2_40 y3_40 y5_40 y6_40 kx K n
    induction n with
    | zero => intro x7_40 f_40 H locs ls hP hD hS hl h; exact h.elim
    | succ n ih =>
      intro x7_40 f_40 H locs ls hP hD hS hl h
      refine lv_iload hx hb d_T_bytePut_40 (lv_at hl 6 rfl) ?_
      refine lv_iload hx hb d_T_bytePut_42 (lv_at hl 5 rfl) ?_
      refine lv_icmp_ge (tgt := 85) hx hb d_T_bytePut_44 (by decide) (fun c_44 => ?_) (fun c_44 => ?_)
      · have h := h.1 c_44
        exact K x7_40 f_40 H locs ls hP hD hS (lv_sub hl [0, 1, 2, 3, 4, 5, 6] rfl) h
      · have h := h.2 c_44
        refine lv_bipush (v := (8 : Int32)) hx hb d_T_bytePut_47 (by decide) ?_
        refine lv_bipush (v := (7 : Int32)) hx hb d_T_bytePut_49 (by decide) ?_
        refine lv_iload hx hb d_T_bytePut_51 (lv_at hl 6 rfl) ?_
        refine lv_isub hx hb d_T_bytePut_53 ?_
        refine lv_imul hx hb d_T_bytePut_54 ?_
        refine lv_istore (lv' := [(8, .int ((8 : Int32) * ((7 : Int32) - x7_40))), (0, .ref a0), (1, .int y1_40), (2, .int y2_40), (3, .long y3_40), (5, .int y5_40), (6, .int y6_40), (7, .int x7_40)]) hx hb d_T_bytePut_55 hl (by decide) rfl (fun ls hl => ?_)
        refine lv_aload_n hx hb d_T_bytePut_57 rfl (lv_at hl 1 rfl) ?_
        refine va_get (D := (dC, dI)) (ci := 0) (v := .ref aM) (C := R_T) (T := T_T) (N := 2) hx hb hw in_T hown hK hP 0 rfl rfl 1 (by decide) (hw _ wd_99) (fun _ h9 => h9) rfl d_T_bytePut_58 ?_
        refine lv_iload hx hb d_T_bytePut_61 (lv_at hl 5 rfl) ?_
        refine lv_iload_n hx hb d_T_bytePut_63 rfl (lv_at hl 3 rfl) ?_
        refine lv_iload hx hb d_T_bytePut_64 (lv_at hl 7 rfl) ?_
        refine lv_iadd hx hb d_T_bytePut_66 ?_
        refine lv_lload_n hx hb d_T_bytePut_67 rfl (lv_at hl 4 rfl) ?_
        refine lv_iload hx hb d_T_bytePut_68 (lv_at hl 0 rfl) ?_
        refine lv_lushr (v := (y3_40.toUInt64 >>> (((8 : Int32) * ((7 : Int32) - x7_40)).toInt64.toUInt64 &&& Int64.toUInt64 63)).toInt64) hx hb d_T_bytePut_70 rfl ?_
        refine lv_l2i (v := ((y3_40.toUInt64 >>> (((8 : Int32) * ((7 : Int32) - x7_40)).toInt64.toUInt64 &&& Int64.toUInt64 63)).toInt64).toInt32) hx hb d_T_bytePut_71 rfl ?_
        refine lv_sipush (v := (255 : Int32)) hx hb d_T_bytePut_72 (by decide) ?_
        refine lv_iand hx hb d_T_bytePut_75 ?_
        have hFc := va_free (wc := TSw cA a0 aR aM aW aP aS aC aO nW nE R f_40 us P S sc li rc rn ro rd st) hD hS hA [0, 1, 2, 3, 4, 5, 6, 7] rfl
        refine va_callv (va_runV (As := [.int y5_40, .int (y2_40 + x7_40), .int ((((y3_40.toUInt64 >>> (((8 : Int32) * ((7 : Int32) - x7_40)).toInt64.toUInt64 &&& Int64.toUInt64 63)).toInt64).toInt32) &&& (255 : Int32))]) (rest := []) ⟨hx, hb, hml, hown, hw⟩ (mM_setOneByte l dC dI cA a0 aR aM aW aP aS aC aO nW nE H.size R f_40 us P S sc li rc rn ro rd st y5_40 (y2_40 + x7_40) ((((y3_40.toUInt64 >>> (((8 : Int32) * ((7 : Int32) - x7_40)).toInt64.toUInt64 &&& Int64.toUInt64 63)).toInt64).toInt32) &&& (255 : Int32)) _ h) (cwV 3 hw g_T_104 rfl rfl rfl (by decide +kernel) ⟨Nat.le_of_ble_eq_true rfl, Nat.le_of_ble_eq_true rfl⟩) (rw_PV (ci := 1) (q0 := 2) hK hP hD rfl rfl) rfl rfl hl.1 rfl (lv_room (Nat.le_of_ble_eq_true rfl)) d_T_bytePut_76 ⟨Nat.le_of_ble_eq_true rfl, Nat.le_of_ble_eq_true rfl⟩) hS (fun q _ h => hFc q h) hFc (fun u t H locs ht hvm h hB hz1 hk1 hS => ?_)
        obtain ⟨f_76, rfl⟩ : ∃ z, z = u := ⟨_, rfl⟩
        obtain ⟨hP, hK1, hD1⟩ := hB
        rw [ht] at hP
        have hD := hD1.weaken (fun _ _ _ q => hFc _ q)
        clear hFc hD1 hK1
        try dsimp only at h
        have hP : va_P (dC, dI) vwCl (TSw cA a0 aR aM aW aP aS aC aO nW nE R f_76 us P S sc li rc rn ro rd st) H := hP
        have hD : va_D A (TSw cA a0 aR aM aW aP aS aC aO nW nE R f_76 us P S sc li rc rn ro rd st) := hD
        refine lv_iinc (v := x7_40 + (1 : Int32)) (lv' := [(7, .int (x7_40 + (1 : Int32))), (8, .int ((8 : Int32) * ((7 : Int32) - x7_40))), (0, .ref a0), (1, .int y1_40), (2, .int y2_40), (3, .long y3_40), (5, .int y5_40), (6, .int y6_40)]) hx hb d_T_bytePut_79 hl (k := 7) rfl rfl (by decide) rfl (fun ls hl => ?_)
        refine lv_goto (tgt := 40) hx hb d_T_bytePut_82 (by decide) ?_
        exact ih (x7_40 + (1 : Int32)) f_76 H locs ls hP hD hS (lv_sub hl [2, 3, 4, 5, 6, 7, 0] rfl) h
  unfold wqT_bytePut at h
  refine lv_aload_n hx hb d_T_bytePut_0 rfl (lv_at hl 0 rfl) ?_
  refine lv_iload_n hx hb d_T_bytePut_1 rfl (lv_at hl 1 rfl) ?_
  refine rx_callv (vx_runV (As := [.int a1]) (rest := []) ⟨hx, hb, hml, hown, hw⟩ (mT_needBytes l hlT sa dC dI cA a0 aR aM aW aP aS aC aO nW nE R f us P S sc li rc rn ro rd st a1 _ _ h) (cwV 1 hw g_T_93 rfl rfl rfl (by decide +kernel) ⟨Nat.le_of_ble_eq_true rfl, Nat.le_of_ble_eq_true rfl⟩) (xo_PV (ci := 0) (q0 := 0) hK hP (xt_at hXT hS) rfl rfl) rfl rfl hl.1 rfl (lv_room (Nat.le_of_ble_eq_true rfl)) d_T_bytePut_2 ⟨Nat.le_of_ble_eq_true rfl, Nat.le_of_ble_eq_true rfl⟩) (fun E9 ce q9 H1 h hz hk hce hcv hcl => ?_) (fun h => ?_)
  · exact rx_out (f) rfl hEx hlocks hK hP hD hS h hz hk hce hcv hcl (Nat.le_of_ble_eq_true rfl) (Nat.le_of_ble_eq_true rfl)
  · refine lv_aload_n hx hb d_T_bytePut_5 rfl (lv_at hl 0 rfl) ?_
    refine lv_iload_n hx hb d_T_bytePut_6 rfl (lv_at hl 1 rfl) ?_
    refine lv_iload_n hx hb d_T_bytePut_7 rfl (lv_at hl 2 rfl) ?_
    refine rx_callv (vx_runV (As := [.int a1, .int a2]) (rest := []) ⟨hx, hb, hml, hown, hw⟩ (mT_needIndex l hlT sa dC dI cA a0 aR aM aW aP aS aC aO nW nE R f us P S sc li rc rn ro rd st a1 a2 _ _ h) (cwV 2 hw g_T_73 rfl rfl rfl (by decide +kernel) ⟨Nat.le_of_ble_eq_true rfl, Nat.le_of_ble_eq_true rfl⟩) (xo_PV (ci := 0) (q0 := 0) hK hP (xt_at hXT hS) rfl rfl) rfl rfl hl.1 rfl (lv_room (Nat.le_of_ble_eq_true rfl)) d_T_bytePut_8 ⟨Nat.le_of_ble_eq_true rfl, Nat.le_of_ble_eq_true rfl⟩) (fun E9 ce q9 H1 h hz hk hce hcv hcl => ?_) (fun h => ?_)
    · exact rx_out (f) rfl hEx hlocks hK hP hD hS h hz hk hce hcv hcl (Nat.le_of_ble_eq_true rfl) (Nat.le_of_ble_eq_true rfl)
    · refine lv_aload_n hx hb d_T_bytePut_11 rfl (lv_at hl 0 rfl) ?_
      refine va_get (D := (dC, dI)) (ci := 0) (v := .ref aR) (C := R_T) (T := T_T) (N := 2) hx hb hw in_T hown hK hP 0 rfl rfl 0 (by decide) (hw _ wd_98) (fun _ h9 => h9) rfl d_T_bytePut_12 ?_
      refine lv_iload_n hx hb d_T_bytePut_15 rfl (lv_at hl 1 rfl) ?_
      refine va_iald hx hb hK hP 1 0 rfl rfl h.1 d_T_bytePut_16 ?_
      have h := h.2
      refine lv_istore (lv' := [(5, .int (R a1.toNatClampNeg)), (0, .ref a0), (1, .int a1), (2, .int a2), (3, .long a3)]) hx hb d_T_bytePut_17 hl (by decide) rfl (fun ls hl => ?_)
      refine lv_bipush (v := (8 : Int32)) hx hb d_T_bytePut_19 (by decide) ?_
      refine lv_aload_n hx hb d_T_bytePut_21 rfl (lv_at hl 1 rfl) ?_
      refine va_get (D := (dC, dI)) (ci := 0) (v := .ref aM) (C := R_T) (T := T_T) (N := 2) hx hb hw in_T hown hK hP 0 rfl rfl 1 (by decide) (hw _ wd_99) (fun _ h9 => h9) rfl d_T_bytePut_22 ?_
      refine lv_iload hx hb d_T_bytePut_25 (lv_at hl 0 rfl) ?_
      refine rq_calli (W.runV (As := [.int (R a1.toNatClampNeg)]) (rest := [.int (8 : Int32)]) ⟨hx, hb, hml, hown, hw⟩ (mM_count l dC dI cA a0 aR aM aW aP aS aC aO nW nE R f us P S sc li rc rn ro rd st (R a1.toNatClampNeg) _ h) (cwV 1 hw g_T_84 rfl rfl rfl (by decide +kernel) ⟨Nat.le_of_ble_eq_true rfl, Nat.le_of_ble_eq_true rfl⟩) (ro_PV (ci := 1) (q0 := 2) hK hP rfl rfl) rfl rfl hl.1 rfl (lv_room (Nat.le_of_ble_eq_true rfl)) d_T_bytePut_27 ⟨Nat.le_of_ble_eq_true rfl, Nat.le_of_ble_eq_true rfl⟩) (fun r27 h => ?_)
      refine lv_iload_n hx hb d_T_bytePut_30 rfl (lv_at hl 3 rfl) ?_
      refine lv_isub hx hb d_T_bytePut_31 ?_
      refine va_mmin hx hb (hml.trans hl.1.symm) hown (hw _ wd_481) (hw _ wd_482) (hw _ wd_44) (hw _ wd_483) (Nat.le_of_ble_eq_true rfl) (Nat.le_of_ble_eq_true rfl) (Nat.le_of_ble_eq_true rfl) (Nat.le_of_ble_eq_true rfl) d_T_bytePut_32 ?_
      refine lv_istore (lv' := [(6, .int (if (r27 - a2) < (8 : Int32) then (r27 - a2) else (8 : Int32))), (5, .int (R a1.toNatClampNeg)), (0, .ref a0), (1, .int a1), (2, .int a2), (3, .long a3)]) hx hb d_T_bytePut_35 hl (by decide) rfl (fun ls hl => ?_)
      refine lv_iconst (v := (0 : Int32)) hx hb d_T_bytePut_37 (by decide) ?_
      refine lv_istore (lv' := [(7, .int (0 : Int32)), (6, .int (if (r27 - a2) < (8 : Int32) then (r27 - a2) else (8 : Int32))), (5, .int (R a1.toNatClampNeg)), (0, .ref a0), (1, .int a1), (2, .int a2), (3, .long a3)]) hx hb d_T_bytePut_38 hl (by decide) rfl (fun ls hl => ?_)
      obtain ⟨n_40, h⟩ := h
      refine lp_40 a1 a2 a3 (R a1.toNatClampNeg) (if (r27 - a2) < (8 : Int32) then (r27 - a2) else (8 : Int32)) _ (fun z7_40 fe_40 H locs ls hP hD hS hl h => ?_) n_40 (0 : Int32) f s.heap [] ls hP hD hS (lv_sub hl [3, 4, 5, 6, 2, 1, 0] rfl) h
      refine W.widen (k := 3) (n := 18) (Nat.le_of_ble_eq_true rfl) (Nat.le_of_ble_eq_true rfl) ?_
      exact vx_ret (W.vret hx hb hr9 (fun t ht hW => ⟨⟨(fe_40), rfl, h, by rw [ht]; exact hP, va_K.moved hW.alike hK, hD⟩, hS.F ht⟩) hS.2.2 d_T_bytePut_85)
def wqT_kind (nW : Nat) (nE : Nat) (R : Nat → Int32) (f : Nat → Int32) (P : Nat → Int32) (a1 : Int32) (post : Int32 → Prop) (px : String → Prop) : Prop :=
  wqT_needRegister a1 (vp_in a1 32 ∧ (((R a1.toNatClampNeg) = 0 → (post (0 : Int32))) ∧ (¬ ((R a1.toNatClampNeg) = 0) → (wqV_isNumber (R a1.toNatClampNeg) (fun r18 => (r18 = 0 → (wqM_holdsSlots nW nE f P (R a1.toNatClampNeg) (fun r31 => (r31 = 0 → (post (3 : Int32))) ∧ (¬ (r31 = 0) → (post (2 : Int32)))))) ∧ (¬ (r18 = 0) → (post (1 : Int32)))))))) (fun E => px E)
set_option maxHeartbeats 4000000 in
set_option maxRecDepth 100000 in
theorem mT_kind (l : Launch) (hlT : l.stackTraces = false) (sa : Nat → Nat) (dC : Nat → ClassId) (dI : Nat → Nat → Nat) (cA : ClassId) (a0 : Nat) (aR : Nat) (aM : Nat) (aW : Nat) (aP : Nat) (aS : Nat) (aC : Nat) (aO : Nat) (nW : Nat) (nE : Nat) (sz : Nat) (R : Nat → Int32) (f : Nat → Int32) (us : Int32) (P : Nat → Int32) (S : Nat → Int32) (sc : Int32) (li : Int32) (rc : Nat → Int32) (rn : Int32) (ro : Nat → Int32) (rd : Int32) (st : Int32) (a1 : Int32) (post : Int32 → Prop) (px : String → Prop) (h : wqT_kind nW nE R f P a1 post px) : vx_Met l y_T_kind ws_T_kind ({ frames := 7, cells := 1, slots := 6, locals := 120 }) (xw_P (dC, dI) vwCl (TSw cA a0 aR aM aW aP aS aC aO nW nE R f us P S sc li rc rn ro rd st) [(cA, .int)] sz sa [.ref a0, .int a1]) (va_Qi (fun (r : Int32) (u : Unit) => post r) (rw_B (dC, dI) vwCl [(cA, .int)] (va_A (TSw cA a0 aR aM aW aP aS aC aO nW nE R f us P S sc li rc rn ro rd st) sz) (fun u : Unit => TSw cA a0 aR aM aW aP aS aC aO nW nE R f us P S sc li rc rn ro rd st)) (va_A (TSw cA a0 aR aM aW aP aS aC aO nW nE R f us P S sc li rc rn ro rd st) sz)) (rw_X (dC, dI) vwCl [(cA, .int)] (va_A (TSw cA a0 aR aM aW aP aS aC aO nW nE R f us P S sc li rc rn ro rd st) sz) (fun u : Unit => TSw cA a0 aR aM aW aP aS aC aO nW nE R f us P S sc li rc rn ro rd st) (fun (E : String) (u : Unit) => px E)) 1 6 (va_A (TSw cA a0 aR aM aW aP aS aC aO nW nE R f us P S sc li rc rn ro rd st) sz) := by
  refine vx_ofW (cc := c_T_kind) (maxL := 3) (ret := (some .int)) (by decide) rfl ?_
  intro p e s m args below meth c s₁ B hml hEx hv
  obtain ⟨rfl, hsz, hP, hK, hD0, hXT⟩ := hv
  have hx := B.exec
  have hb := B.bytes
  have hr9 := B.returns
  have hts := atoms_spec (ws := ws_T_kind) B.pre
  have hw : ∀ w ∈ WB_, w.before _ s = true := fun w h => hts w (List.mem_cons_of_mem _ h)
  have hown : s.vm.findClass R_T = some m.cls := findClass_of_methodNamed B.named
  have hlocks := B.notSynchronized
  subst hsz
  have hD := hD0.self (sz := s.heap.size)
  generalize hAe : va_A (TSw cA a0 aR aM aW aP aS aC aO nW nE R f us P S sc li rc rn ro rd st) s.heap.size = A at hD hXT ⊢
  have hA : ∀ q : Nat, s.heap.size ≤ q → A q := fun q h => by rw [← hAe]; exact Or.inr h
  have hS : va_S A s.heap s.heap [] := va_S.rf
  have hl := lv_entry ([.ref a0, .int a1]) (n := 3) (Nat.le_of_ble_eq_true rfl)
  rw [lg_entry_eq]
  generalize (lg_sl ([.ref a0, .int a1]) ++ List.replicate (3 - (lg_sl ([.ref a0, .int a1])).length) Slot.unset).toArray = ls at hl ⊢
  have hl : lv_has ls 3 [(0, .ref a0), (1, .int a1)] := hl
  unfold wqT_kind at h
  refine lv_iload_n hx hb d_T_kind_0 rfl (lv_at hl 1 rfl) ?_
  refine rx_callv (vx_runS (As := [.int a1]) (rest := []) ⟨hx, hb, hml, hown, hw⟩ (mT_needRegister l hlT sa a1 _ _ h) (va_cwS 1 hw g_T_27 rfl rfl rfl (by decide +kernel) ⟨Nat.le_of_ble_eq_true rfl, Nat.le_of_ble_eq_true rfl⟩) (xs_PS (xt_at hXT hS)) rfl rfl hl.1 rfl (lv_room (Nat.le_of_ble_eq_true rfl)) d_T_kind_1 ⟨Nat.le_of_ble_eq_true rfl, Nat.le_of_ble_eq_true rfl⟩) (fun E9 ce q9 H1 h hz hk hce hcv hcl => ?_) (fun h => ?_)
  · exact rx_out () rfl hEx hlocks hK hP hD hS h hz hk hce hcv hcl (Nat.le_of_ble_eq_true rfl) (Nat.le_of_ble_eq_true rfl)
  · refine lv_aload_n hx hb d_T_kind_4 rfl (lv_at hl 0 rfl) ?_
    refine va_get (D := (dC, dI)) (ci := 0) (v := .ref aR) (C := R_T) (T := T_T) (N := 2) hx hb hw in_T hown hK hP 0 rfl rfl 0 (by decide) (hw _ wd_98) (fun _ h9 => h9) rfl d_T_kind_5 ?_
    refine lv_iload_n hx hb d_T_kind_8 rfl (lv_at hl 1 rfl) ?_
    refine va_iald hx hb hK hP 1 0 rfl rfl h.1 d_T_kind_9 ?_
    have h := h.2
    refine lv_istore_n (lv' := [(2, .int (R a1.toNatClampNeg)), (0, .ref a0), (1, .int a1)]) hx hb d_T_kind_10 rfl hl (by decide) rfl (fun ls hl => ?_)
    refine lv_iload_n hx hb d_T_kind_11 rfl (lv_at hl 0 rfl) ?_
    refine lv_if_ne (tgt := 17) hx hb d_T_kind_12 (by decide) (fun c_12 => ?_) (fun c_12 => ?_)
    · have h := h.2 c_12
      refine lv_iload_n hx hb d_T_kind_17 rfl (lv_at hl 0 rfl) ?_
      refine rq_calli (W.runS (As := [.int (R a1.toNatClampNeg)]) (rest := []) ⟨hx, hb, hml, hown, hw⟩ (mV_isNumber l (R a1.toNatClampNeg) _ h) (va_cwS 1 hw g_T_107 rfl rfl rfl (by decide +kernel) ⟨Nat.le_of_ble_eq_true rfl, Nat.le_of_ble_eq_true rfl⟩) preEq rfl rfl hl.1 rfl (lv_room (Nat.le_of_ble_eq_true rfl)) d_T_kind_18 ⟨Nat.le_of_ble_eq_true rfl, Nat.le_of_ble_eq_true rfl⟩) (fun r18 h => ?_)
      refine lv_if_eq (tgt := 26) hx hb d_T_kind_21 (by decide) (fun c_21 => ?_) (fun c_21 => ?_)
      · have h := h.1 c_21
        refine lv_aload_n hx hb d_T_kind_26 rfl (lv_at hl 1 rfl) ?_
        refine va_get (D := (dC, dI)) (ci := 0) (v := .ref aM) (C := R_T) (T := T_T) (N := 2) hx hb hw in_T hown hK hP 0 rfl rfl 1 (by decide) (hw _ wd_99) (fun _ h9 => h9) rfl d_T_kind_27 ?_
        refine lv_iload_n hx hb d_T_kind_30 rfl (lv_at hl 0 rfl) ?_
        refine rq_calli (W.runV (As := [.int (R a1.toNatClampNeg)]) (rest := []) ⟨hx, hb, hml, hown, hw⟩ (mM_holdsSlots l dC dI cA a0 aR aM aW aP aS aC aO nW nE R f us P S sc li rc rn ro rd st (R a1.toNatClampNeg) _ h) (cwV 1 hw g_T_80 rfl rfl rfl (by decide +kernel) ⟨Nat.le_of_ble_eq_true rfl, Nat.le_of_ble_eq_true rfl⟩) (ro_PV (ci := 1) (q0 := 2) hK hP rfl rfl) rfl rfl hl.1 rfl (lv_room (Nat.le_of_ble_eq_true rfl)) d_T_kind_31 ⟨Nat.le_of_ble_eq_true rfl, Nat.le_of_ble_eq_true rfl⟩) (fun r31 h => ?_)
        refine lv_if_eq (tgt := 41) hx hb d_T_kind_34 (by decide) (fun c_34 => ?_) (fun c_34 => ?_)
        · have h := h.1 c_34
          refine lv_iconst (v := (3 : Int32)) hx hb d_T_kind_41 (by decide) ?_
          refine W.widen (k := 1) (n := 6) (Nat.le_of_ble_eq_true rfl) (Nat.le_of_ble_eq_true rfl) ?_
          exact vx_ret (W.iret (v := (3 : Int32)) hx hb hr9 (fun t ht hW => ⟨⟨_, (), rfl, h, by rw [ht]; exact hP, va_K.moved hW.alike hK, hD⟩, hS.F ht⟩) hS.2.2 d_T_kind_42)
        · have h := h.2 c_34
          refine lv_iconst (v := (2 : Int32)) hx hb d_T_kind_37 (by decide) ?_
          refine lv_goto (tgt := 42) hx hb d_T_kind_38 (by decide) ?_
          refine W.widen (k := 1) (n := 6) (Nat.le_of_ble_eq_true rfl) (Nat.le_of_ble_eq_true rfl) ?_
          exact vx_ret (W.iret (v := (2 : Int32)) hx hb hr9 (fun t ht hW => ⟨⟨_, (), rfl, h, by rw [ht]; exact hP, va_K.moved hW.alike hK, hD⟩, hS.F ht⟩) hS.2.2 d_T_kind_42)
      · have h := h.2 c_21
        refine lv_iconst (v := (1 : Int32)) hx hb d_T_kind_24 (by decide) ?_
        refine W.widen (k := 1) (n := 6) (Nat.le_of_ble_eq_true rfl) (Nat.le_of_ble_eq_true rfl) ?_
        exact vx_ret (W.iret (v := (1 : Int32)) hx hb hr9 (fun t ht hW => ⟨⟨_, (), rfl, h, by rw [ht]; exact hP, va_K.moved hW.alike hK, hD⟩, hS.F ht⟩) hS.2.2 d_T_kind_25)
    · have h := h.1 c_12
      refine lv_iconst (v := (0 : Int32)) hx hb d_T_kind_15 (by decide) ?_
      refine W.widen (k := 1) (n := 6) (Nat.le_of_ble_eq_true rfl) (Nat.le_of_ble_eq_true rfl) ?_
      exact vx_ret (W.iret (v := (0 : Int32)) hx hb hr9 (fun t ht hW => ⟨⟨_, (), rfl, h, by rw [ht]; exact hP, va_K.moved hW.alike hK, hD⟩, hS.F ht⟩) hS.2.2 d_T_kind_16)
def wqT_value (nW : Nat) (nE : Nat) (R : Nat → Int32) (f : Nat → Int32) (P : Nat → Int32) (a1 : Int32) (post : Int32 → Prop) (px : String → Prop) : Prop :=
  wqT_needRegister a1 (vp_in a1 32 ∧ (((R a1.toNatClampNeg) = 0 → (post (0 : Int32))) ∧ (¬ ((R a1.toNatClampNeg) = 0) → (wqV_isNumber (R a1.toNatClampNeg) (fun r18 => (r18 = 0 → (wqM_identity nW nE f P (R a1.toNatClampNeg) (fun r36 => post r36))) ∧ (¬ (r18 = 0) → (wqV_toNumber (R a1.toNatClampNeg) (fun r25 => post r25)))))))) (fun E => px E)
set_option maxHeartbeats 4000000 in
set_option maxRecDepth 100000 in
theorem mT_value (l : Launch) (hlT : l.stackTraces = false) (sa : Nat → Nat) (dC : Nat → ClassId) (dI : Nat → Nat → Nat) (cA : ClassId) (a0 : Nat) (aR : Nat) (aM : Nat) (aW : Nat) (aP : Nat) (aS : Nat) (aC : Nat) (aO : Nat) (nW : Nat) (nE : Nat) (sz : Nat) (R : Nat → Int32) (f : Nat → Int32) (us : Int32) (P : Nat → Int32) (S : Nat → Int32) (sc : Int32) (li : Int32) (rc : Nat → Int32) (rn : Int32) (ro : Nat → Int32) (rd : Int32) (st : Int32) (a1 : Int32) (post : Int32 → Prop) (px : String → Prop) (h : wqT_value nW nE R f P a1 post px) : vx_Met l y_T_value ws_T_value ({ frames := 7, cells := 1, slots := 6, locals := 120 }) (xw_P (dC, dI) vwCl (TSw cA a0 aR aM aW aP aS aC aO nW nE R f us P S sc li rc rn ro rd st) [(cA, .int)] sz sa [.ref a0, .int a1]) (va_Qi (fun (r : Int32) (u : Unit) => post r) (rw_B (dC, dI) vwCl [(cA, .int)] (va_A (TSw cA a0 aR aM aW aP aS aC aO nW nE R f us P S sc li rc rn ro rd st) sz) (fun u : Unit => TSw cA a0 aR aM aW aP aS aC aO nW nE R f us P S sc li rc rn ro rd st)) (va_A (TSw cA a0 aR aM aW aP aS aC aO nW nE R f us P S sc li rc rn ro rd st) sz)) (rw_X (dC, dI) vwCl [(cA, .int)] (va_A (TSw cA a0 aR aM aW aP aS aC aO nW nE R f us P S sc li rc rn ro rd st) sz) (fun u : Unit => TSw cA a0 aR aM aW aP aS aC aO nW nE R f us P S sc li rc rn ro rd st) (fun (E : String) (u : Unit) => px E)) 1 6 (va_A (TSw cA a0 aR aM aW aP aS aC aO nW nE R f us P S sc li rc rn ro rd st) sz) := by
  refine vx_ofW (cc := c_T_value) (maxL := 3) (ret := (some .int)) (by decide) rfl ?_
  intro p e s m args below meth c s₁ B hml hEx hv
  obtain ⟨rfl, hsz, hP, hK, hD0, hXT⟩ := hv
  have hx := B.exec
  have hb := B.bytes
  have hr9 := B.returns
  have hts := atoms_spec (ws := ws_T_value) B.pre
  have hw : ∀ w ∈ WB_, w.before _ s = true := fun w h => hts w (List.mem_cons_of_mem _ h)
  have hown : s.vm.findClass R_T = some m.cls := findClass_of_methodNamed B.named
  have hlocks := B.notSynchronized
  subst hsz
  have hD := hD0.self (sz := s.heap.size)
  generalize hAe : va_A (TSw cA a0 aR aM aW aP aS aC aO nW nE R f us P S sc li rc rn ro rd st) s.heap.size = A at hD hXT ⊢
  have hA : ∀ q : Nat, s.heap.size ≤ q → A q := fun q h => by rw [← hAe]; exact Or.inr h
  have hS : va_S A s.heap s.heap [] := va_S.rf
  have hl := lv_entry ([.ref a0, .int a1]) (n := 3) (Nat.le_of_ble_eq_true rfl)
  rw [lg_entry_eq]
  generalize (lg_sl ([.ref a0, .int a1]) ++ List.replicate (3 - (lg_sl ([.ref a0, .int a1])).length) Slot.unset).toArray = ls at hl ⊢
  have hl : lv_has ls 3 [(0, .ref a0), (1, .int a1)] := hl
  unfold wqT_value at h
  refine lv_iload_n hx hb d_T_value_0 rfl (lv_at hl 1 rfl) ?_
  refine rx_callv (vx_runS (As := [.int a1]) (rest := []) ⟨hx, hb, hml, hown, hw⟩ (mT_needRegister l hlT sa a1 _ _ h) (va_cwS 1 hw g_T_27 rfl rfl rfl (by decide +kernel) ⟨Nat.le_of_ble_eq_true rfl, Nat.le_of_ble_eq_true rfl⟩) (xs_PS (xt_at hXT hS)) rfl rfl hl.1 rfl (lv_room (Nat.le_of_ble_eq_true rfl)) d_T_value_1 ⟨Nat.le_of_ble_eq_true rfl, Nat.le_of_ble_eq_true rfl⟩) (fun E9 ce q9 H1 h hz hk hce hcv hcl => ?_) (fun h => ?_)
  · exact rx_out () rfl hEx hlocks hK hP hD hS h hz hk hce hcv hcl (Nat.le_of_ble_eq_true rfl) (Nat.le_of_ble_eq_true rfl)
  · refine lv_aload_n hx hb d_T_value_4 rfl (lv_at hl 0 rfl) ?_
    refine va_get (D := (dC, dI)) (ci := 0) (v := .ref aR) (C := R_T) (T := T_T) (N := 2) hx hb hw in_T hown hK hP 0 rfl rfl 0 (by decide) (hw _ wd_98) (fun _ h9 => h9) rfl d_T_value_5 ?_
    refine lv_iload_n hx hb d_T_value_8 rfl (lv_at hl 1 rfl) ?_
    refine va_iald hx hb hK hP 1 0 rfl rfl h.1 d_T_value_9 ?_
    have h := h.2
    refine lv_istore_n (lv' := [(2, .int (R a1.toNatClampNeg)), (0, .ref a0), (1, .int a1)]) hx hb d_T_value_10 rfl hl (by decide) rfl (fun ls hl => ?_)
    refine lv_iload_n hx hb d_T_value_11 rfl (lv_at hl 0 rfl) ?_
    refine lv_if_ne (tgt := 17) hx hb d_T_value_12 (by decide) (fun c_12 => ?_) (fun c_12 => ?_)
    · have h := h.2 c_12
      refine lv_iload_n hx hb d_T_value_17 rfl (lv_at hl 0 rfl) ?_
      refine rq_calli (W.runS (As := [.int (R a1.toNatClampNeg)]) (rest := []) ⟨hx, hb, hml, hown, hw⟩ (mV_isNumber l (R a1.toNatClampNeg) _ h) (va_cwS 1 hw g_T_107 rfl rfl rfl (by decide +kernel) ⟨Nat.le_of_ble_eq_true rfl, Nat.le_of_ble_eq_true rfl⟩) preEq rfl rfl hl.1 rfl (lv_room (Nat.le_of_ble_eq_true rfl)) d_T_value_18 ⟨Nat.le_of_ble_eq_true rfl, Nat.le_of_ble_eq_true rfl⟩) (fun r18 h => ?_)
      refine lv_if_eq (tgt := 31) hx hb d_T_value_21 (by decide) (fun c_21 => ?_) (fun c_21 => ?_)
      · have h := h.1 c_21
        refine lv_aload_n hx hb d_T_value_31 rfl (lv_at hl 1 rfl) ?_
        refine va_get (D := (dC, dI)) (ci := 0) (v := .ref aM) (C := R_T) (T := T_T) (N := 2) hx hb hw in_T hown hK hP 0 rfl rfl 1 (by decide) (hw _ wd_99) (fun _ h9 => h9) rfl d_T_value_32 ?_
        refine lv_iload_n hx hb d_T_value_35 rfl (lv_at hl 0 rfl) ?_
        refine rq_calli (W.runV (As := [.int (R a1.toNatClampNeg)]) (rest := []) ⟨hx, hb, hml, hown, hw⟩ (mM_identity l dC dI cA a0 aR aM aW aP aS aC aO nW nE R f us P S sc li rc rn ro rd st (R a1.toNatClampNeg) _ h) (cwV 1 hw g_T_57 rfl rfl rfl (by decide +kernel) ⟨Nat.le_of_ble_eq_true rfl, Nat.le_of_ble_eq_true rfl⟩) (ro_PV (ci := 1) (q0 := 2) hK hP rfl rfl) rfl rfl hl.1 rfl (lv_room (Nat.le_of_ble_eq_true rfl)) d_T_value_36 ⟨Nat.le_of_ble_eq_true rfl, Nat.le_of_ble_eq_true rfl⟩) (fun r36 h => ?_)
        refine W.widen (k := 1) (n := 6) (Nat.le_of_ble_eq_true rfl) (Nat.le_of_ble_eq_true rfl) ?_
        exact vx_ret (W.iret (v := r36) hx hb hr9 (fun t ht hW => ⟨⟨_, (), rfl, h, by rw [ht]; exact hP, va_K.moved hW.alike hK, hD⟩, hS.F ht⟩) hS.2.2 d_T_value_39)
      · have h := h.2 c_21
        refine lv_iload_n hx hb d_T_value_24 rfl (lv_at hl 0 rfl) ?_
        refine rq_calli (W.runS (As := [.int (R a1.toNatClampNeg)]) (rest := []) ⟨hx, hb, hml, hown, hw⟩ (mV_toNumber l (R a1.toNatClampNeg) _ h) (va_cwS 1 hw g_T_110 rfl rfl rfl (by decide +kernel) ⟨Nat.le_of_ble_eq_true rfl, Nat.le_of_ble_eq_true rfl⟩) preEq rfl rfl hl.1 rfl (lv_room (Nat.le_of_ble_eq_true rfl)) d_T_value_25 ⟨Nat.le_of_ble_eq_true rfl, Nat.le_of_ble_eq_true rfl⟩) (fun r25 h => ?_)
        refine lv_goto (tgt := 39) hx hb d_T_value_28 (by decide) ?_
        refine W.widen (k := 1) (n := 6) (Nat.le_of_ble_eq_true rfl) (Nat.le_of_ble_eq_true rfl) ?_
        exact vx_ret (W.iret (v := r25) hx hb hr9 (fun t ht hW => ⟨⟨_, (), rfl, h, by rw [ht]; exact hP, va_K.moved hW.alike hK, hD⟩, hS.F ht⟩) hS.2.2 d_T_value_39)
    · have h := h.1 c_12
      refine lv_iconst (v := (0 : Int32)) hx hb d_T_value_15 (by decide) ?_
      refine W.widen (k := 1) (n := 6) (Nat.le_of_ble_eq_true rfl) (Nat.le_of_ble_eq_true rfl) ?_
      exact vx_ret (W.iret (v := (0 : Int32)) hx hb hr9 (fun t ht hW => ⟨⟨_, (), rfl, h, by rw [ht]; exact hP, va_K.moved hW.alike hK, hD⟩, hS.F ht⟩) hS.2.2 d_T_value_16)
def wqT_size (nW : Nat) (nE : Nat) (R : Nat → Int32) (f : Nat → Int32) (P : Nat → Int32) (a1 : Int32) (post : Int32 → Prop) (px : String → Prop) : Prop :=
  wqT_needRegister a1 (vp_in a1 32 ∧ (wqV_isObject (R a1.toNatClampNeg) (fun r10 => (r10 = 0 → (post (0 : Int32))) ∧ (¬ (r10 = 0) → (vp_in a1 32 ∧ (wqM_count nW nE f P (R a1.toNatClampNeg) (fun r26 => post r26))))))) (fun E => px E)
set_option maxHeartbeats 4000000 in
set_option maxRecDepth 100000 in
theorem mT_size (l : Launch) (hlT : l.stackTraces = false) (sa : Nat → Nat) (dC : Nat → ClassId) (dI : Nat → Nat → Nat) (cA : ClassId) (a0 : Nat) (aR : Nat) (aM : Nat) (aW : Nat) (aP : Nat) (aS : Nat) (aC : Nat) (aO : Nat) (nW : Nat) (nE : Nat) (sz : Nat) (R : Nat → Int32) (f : Nat → Int32) (us : Int32) (P : Nat → Int32) (S : Nat → Int32) (sc : Int32) (li : Int32) (rc : Nat → Int32) (rn : Int32) (ro : Nat → Int32) (rd : Int32) (st : Int32) (a1 : Int32) (post : Int32 → Prop) (px : String → Prop) (h : wqT_size nW nE R f P a1 post px) : vx_Met l y_T_size ws_T_size ({ frames := 7, cells := 1, slots := 6, locals := 120 }) (xw_P (dC, dI) vwCl (TSw cA a0 aR aM aW aP aS aC aO nW nE R f us P S sc li rc rn ro rd st) [(cA, .int)] sz sa [.ref a0, .int a1]) (va_Qi (fun (r : Int32) (u : Unit) => post r) (rw_B (dC, dI) vwCl [(cA, .int)] (va_A (TSw cA a0 aR aM aW aP aS aC aO nW nE R f us P S sc li rc rn ro rd st) sz) (fun u : Unit => TSw cA a0 aR aM aW aP aS aC aO nW nE R f us P S sc li rc rn ro rd st)) (va_A (TSw cA a0 aR aM aW aP aS aC aO nW nE R f us P S sc li rc rn ro rd st) sz)) (rw_X (dC, dI) vwCl [(cA, .int)] (va_A (TSw cA a0 aR aM aW aP aS aC aO nW nE R f us P S sc li rc rn ro rd st) sz) (fun u : Unit => TSw cA a0 aR aM aW aP aS aC aO nW nE R f us P S sc li rc rn ro rd st) (fun (E : String) (u : Unit) => px E)) 1 6 (va_A (TSw cA a0 aR aM aW aP aS aC aO nW nE R f us P S sc li rc rn ro rd st) sz) := by
  refine vx_ofW (cc := c_T_size) (maxL := 2) (ret := (some .int)) (by decide) rfl ?_
  intro p e s m args below meth c s₁ B hml hEx hv
  obtain ⟨rfl, hsz, hP, hK, hD0, hXT⟩ := hv
  have hx := B.exec
  have hb := B.bytes
  have hr9 := B.returns
  have hts := atoms_spec (ws := ws_T_size) B.pre
  have hw : ∀ w ∈ WB_, w.before _ s = true := fun w h => hts w (List.mem_cons_of_mem _ h)
  have hown : s.vm.findClass R_T = some m.cls := findClass_of_methodNamed B.named
  have hlocks := B.notSynchronized
  subst hsz
  have hD := hD0.self (sz := s.heap.size)
  generalize hAe : va_A (TSw cA a0 aR aM aW aP aS aC aO nW nE R f us P S sc li rc rn ro rd st) s.heap.size = A at hD hXT ⊢
  have hA : ∀ q : Nat, s.heap.size ≤ q → A q := fun q h => by rw [← hAe]; exact Or.inr h
  have hS : va_S A s.heap s.heap [] := va_S.rf
  have hl := lv_entry ([.ref a0, .int a1]) (n := 2) (Nat.le_of_ble_eq_true rfl)
  rw [lg_entry_eq]
  generalize (lg_sl ([.ref a0, .int a1]) ++ List.replicate (2 - (lg_sl ([.ref a0, .int a1])).length) Slot.unset).toArray = ls at hl ⊢
  have hl : lv_has ls 2 [(0, .ref a0), (1, .int a1)] := hl
  unfold wqT_size at h
  refine lv_iload_n hx hb d_T_size_0 rfl (lv_at hl 1 rfl) ?_
  refine rx_callv (vx_runS (As := [.int a1]) (rest := []) ⟨hx, hb, hml, hown, hw⟩ (mT_needRegister l hlT sa a1 _ _ h) (va_cwS 1 hw g_T_27 rfl rfl rfl (by decide +kernel) ⟨Nat.le_of_ble_eq_true rfl, Nat.le_of_ble_eq_true rfl⟩) (xs_PS (xt_at hXT hS)) rfl rfl hl.1 rfl (lv_room (Nat.le_of_ble_eq_true rfl)) d_T_size_1 ⟨Nat.le_of_ble_eq_true rfl, Nat.le_of_ble_eq_true rfl⟩) (fun E9 ce q9 H1 h hz hk hce hcv hcl => ?_) (fun h => ?_)
  · exact rx_out () rfl hEx hlocks hK hP hD hS h hz hk hce hcv hcl (Nat.le_of_ble_eq_true rfl) (Nat.le_of_ble_eq_true rfl)
  · refine lv_aload_n hx hb d_T_size_4 rfl (lv_at hl 0 rfl) ?_
    refine va_get (D := (dC, dI)) (ci := 0) (v := .ref aR) (C := R_T) (T := T_T) (N := 2) hx hb hw in_T hown hK hP 0 rfl rfl 0 (by decide) (hw _ wd_98) (fun _ h9 => h9) rfl d_T_size_5 ?_
    refine lv_iload_n hx hb d_T_size_8 rfl (lv_at hl 1 rfl) ?_
    refine va_iald hx hb hK hP 1 0 rfl rfl h.1 d_T_size_9 ?_
    have h := h.2
    refine rq_calli (W.runS (As := [.int (R a1.toNatClampNeg)]) (rest := []) ⟨hx, hb, hml, hown, hw⟩ (mV_isObject l (R a1.toNatClampNeg) _ h) (va_cwS 1 hw g_T_113 rfl rfl rfl (by decide +kernel) ⟨Nat.le_of_ble_eq_true rfl, Nat.le_of_ble_eq_true rfl⟩) preEq rfl rfl hl.1 rfl (lv_room (Nat.le_of_ble_eq_true rfl)) d_T_size_10 ⟨Nat.le_of_ble_eq_true rfl, Nat.le_of_ble_eq_true rfl⟩) (fun r10 h => ?_)
    refine lv_if_eq (tgt := 32) hx hb d_T_size_13 (by decide) (fun c_13 => ?_) (fun c_13 => ?_)
    · have h := h.1 c_13
      refine lv_iconst (v := (0 : Int32)) hx hb d_T_size_32 (by decide) ?_
      refine W.widen (k := 1) (n := 6) (Nat.le_of_ble_eq_true rfl) (Nat.le_of_ble_eq_true rfl) ?_
      exact vx_ret (W.iret (v := (0 : Int32)) hx hb hr9 (fun t ht hW => ⟨⟨_, (), rfl, h, by rw [ht]; exact hP, va_K.moved hW.alike hK, hD⟩, hS.F ht⟩) hS.2.2 d_T_size_33)
    · have h := h.2 c_13
      refine lv_aload_n hx hb d_T_size_16 rfl (lv_at hl 0 rfl) ?_
      refine va_get (D := (dC, dI)) (ci := 0) (v := .ref aM) (C := R_T) (T := T_T) (N := 2) hx hb hw in_T hown hK hP 0 rfl rfl 1 (by decide) (hw _ wd_99) (fun _ h9 => h9) rfl d_T_size_17 ?_
      refine lv_aload_n hx hb d_T_size_20 rfl (lv_at hl 0 rfl) ?_
      refine va_get (D := (dC, dI)) (ci := 0) (v := .ref aR) (C := R_T) (T := T_T) (N := 2) hx hb hw in_T hown hK hP 0 rfl rfl 0 (by decide) (hw _ wd_98) (fun _ h9 => h9) rfl d_T_size_21 ?_
      refine lv_iload_n hx hb d_T_size_24 rfl (lv_at hl 1 rfl) ?_
      refine va_iald hx hb hK hP 1 0 rfl rfl h.1 d_T_size_25 ?_
      have h := h.2
      refine rq_calli (W.runV (As := [.int (R a1.toNatClampNeg)]) (rest := []) ⟨hx, hb, hml, hown, hw⟩ (mM_count l dC dI cA a0 aR aM aW aP aS aC aO nW nE R f us P S sc li rc rn ro rd st (R a1.toNatClampNeg) _ h) (cwV 1 hw g_T_84 rfl rfl rfl (by decide +kernel) ⟨Nat.le_of_ble_eq_true rfl, Nat.le_of_ble_eq_true rfl⟩) (ro_PV (ci := 1) (q0 := 2) hK hP rfl rfl) rfl rfl hl.1 rfl (lv_room (Nat.le_of_ble_eq_true rfl)) d_T_size_26 ⟨Nat.le_of_ble_eq_true rfl, Nat.le_of_ble_eq_true rfl⟩) (fun r26 h => ?_)
      refine lv_goto (tgt := 33) hx hb d_T_size_29 (by decide) ?_
      refine W.widen (k := 1) (n := 6) (Nat.le_of_ble_eq_true rfl) (Nat.le_of_ble_eq_true rfl) ?_
      exact vx_ret (W.iret (v := r26) hx hb hr9 (fun t ht hW => ⟨⟨_, (), rfl, h, by rw [ht]; exact hP, va_K.moved hW.alike hK, hD⟩, hS.F ht⟩) hS.2.2 d_T_size_33)
def wqT_become (nW : Nat) (nE : Nat) (R : Nat → Int32) (f : Nat → Int32) (P : Nat → Int32) (a1 : Int32) (a2 : Int32) (post : (Nat → Int32) → (Nat → Int32) → Prop) (px : String → (Nat → Int32) → (Nat → Int32) → Prop) : Prop :=
  wqT_needObject nW nE R a1 (wqT_needObject nW nE R a2 (vp_in a1 32 ∧ (vp_in a2 32 ∧ (wqM_swap nW nE f P (R a1.toNatClampNeg) (R a2.toNatClampNeg) (fun f_26 P_26 => post f_26 P_26)))) (fun E => px E f P)) (fun E => px E f P)
set_option maxHeartbeats 4000000 in
set_option maxRecDepth 100000 in
theorem mT_become (l : Launch) (hlT : l.stackTraces = false) (sa : Nat → Nat) (dC : Nat → ClassId) (dI : Nat → Nat → Nat) (cA : ClassId) (a0 : Nat) (aR : Nat) (aM : Nat) (aW : Nat) (aP : Nat) (aS : Nat) (aC : Nat) (aO : Nat) (nW : Nat) (nE : Nat) (sz : Nat) (R : Nat → Int32) (f : Nat → Int32) (us : Int32) (P : Nat → Int32) (S : Nat → Int32) (sc : Int32) (li : Int32) (rc : Nat → Int32) (rn : Int32) (ro : Nat → Int32) (rd : Int32) (st : Int32) (a1 : Int32) (a2 : Int32) (post : (Nat → Int32) → (Nat → Int32) → Prop) (px : String → (Nat → Int32) → (Nat → Int32) → Prop) (h : wqT_become nW nE R f P a1 a2 post px) : vx_Met l y_T_become ws_T_become ({ frames := 8, cells := 4, slots := 24, locals := 141 }) (xw_P (dC, dI) vwCl (TSw cA a0 aR aM aW aP aS aC aO nW nE R f us P S sc li rc rn ro rd st) [(cA, .int)] sz sa [.ref a0, .int a1, .int a2]) (va_Qv (fun u : (Nat → Int32) × (Nat → Int32) => post u.1 u.2) (rw_B (dC, dI) vwCl [(cA, .int)] (va_A (TSw cA a0 aR aM aW aP aS aC aO nW nE R f us P S sc li rc rn ro rd st) sz) (fun u : (Nat → Int32) × (Nat → Int32) => TSw cA a0 aR aM aW aP aS aC aO nW nE R u.1 us u.2 S sc li rc rn ro rd st)) (va_A (TSw cA a0 aR aM aW aP aS aC aO nW nE R f us P S sc li rc rn ro rd st) sz)) (rw_X (dC, dI) vwCl [(cA, .int)] (va_A (TSw cA a0 aR aM aW aP aS aC aO nW nE R f us P S sc li rc rn ro rd st) sz) (fun u : (Nat → Int32) × (Nat → Int32) => TSw cA a0 aR aM aW aP aS aC aO nW nE R u.1 us u.2 S sc li rc rn ro rd st) (fun (E : String) (u : (Nat → Int32) × (Nat → Int32)) => px E u.1 u.2)) 4 24 (va_A (TSw cA a0 aR aM aW aP aS aC aO nW nE R f us P S sc li rc rn ro rd st) sz) := by
  refine vx_ofW (cc := c_T_become) (maxL := 3) (ret := none) (by decide) rfl ?_
  intro p e s m args below meth c s₁ B hml hEx hv
  obtain ⟨rfl, hsz, hP, hK, hD0, hXT⟩ := hv
  have hx := B.exec
  have hb := B.bytes
  have hr9 := B.returns
  have hts := atoms_spec (ws := ws_T_become) B.pre
  have hw : ∀ w ∈ WB_, w.before _ s = true := fun w h => hts w (List.mem_cons_of_mem _ h)
  have hown : s.vm.findClass R_T = some m.cls := findClass_of_methodNamed B.named
  have hlocks := B.notSynchronized
  subst hsz
  have hD := hD0.self (sz := s.heap.size)
  generalize hAe : va_A (TSw cA a0 aR aM aW aP aS aC aO nW nE R f us P S sc li rc rn ro rd st) s.heap.size = A at hD hXT ⊢
  have hA : ∀ q : Nat, s.heap.size ≤ q → A q := fun q h => by rw [← hAe]; exact Or.inr h
  have hS : va_S A s.heap s.heap [] := va_S.rf
  have hl := lv_entry ([.ref a0, .int a1, .int a2]) (n := 3) (Nat.le_of_ble_eq_true rfl)
  rw [lg_entry_eq]
  generalize (lg_sl ([.ref a0, .int a1, .int a2]) ++ List.replicate (3 - (lg_sl ([.ref a0, .int a1, .int a2])).length) Slot.unset).toArray = ls at hl ⊢
  have hl : lv_has ls 3 [(0, .ref a0), (1, .int a1), (2, .int a2)] := hl
  unfold wqT_become at h
  refine lv_aload_n hx hb d_T_become_0 rfl (lv_at hl 0 rfl) ?_
  refine lv_iload_n hx hb d_T_become_1 rfl (lv_at hl 1 rfl) ?_
  refine rx_callv (vx_runV (As := [.int a1]) (rest := []) ⟨hx, hb, hml, hown, hw⟩ (mT_needObject l hlT sa dC dI cA a0 aR aM aW aP aS aC aO nW nE R f us P S sc li rc rn ro rd st a1 _ _ h) (cwV 1 hw g_T_60 rfl rfl rfl (by decide +kernel) ⟨Nat.le_of_ble_eq_true rfl, Nat.le_of_ble_eq_true rfl⟩) (xo_PV (ci := 0) (q0 := 0) hK hP (xt_at hXT hS) rfl rfl) rfl rfl hl.1 rfl (lv_room (Nat.le_of_ble_eq_true rfl)) d_T_become_2 ⟨Nat.le_of_ble_eq_true rfl, Nat.le_of_ble_eq_true rfl⟩) (fun E9 ce q9 H1 h hz hk hce hcv hcl => ?_) (fun h => ?_)
  · exact rx_out (f, P) rfl hEx hlocks hK hP hD hS h hz hk hce hcv hcl (Nat.le_of_ble_eq_true rfl) (Nat.le_of_ble_eq_true rfl)
  · refine lv_aload_n hx hb d_T_become_5 rfl (lv_at hl 0 rfl) ?_
    refine lv_iload_n hx hb d_T_become_6 rfl (lv_at hl 2 rfl) ?_
    refine rx_callv (vx_runV (As := [.int a2]) (rest := []) ⟨hx, hb, hml, hown, hw⟩ (mT_needObject l hlT sa dC dI cA a0 aR aM aW aP aS aC aO nW nE R f us P S sc li rc rn ro rd st a2 _ _ h) (cwV 1 hw g_T_60 rfl rfl rfl (by decide +kernel) ⟨Nat.le_of_ble_eq_true rfl, Nat.le_of_ble_eq_true rfl⟩) (xo_PV (ci := 0) (q0 := 0) hK hP (xt_at hXT hS) rfl rfl) rfl rfl hl.1 rfl (lv_room (Nat.le_of_ble_eq_true rfl)) d_T_become_7 ⟨Nat.le_of_ble_eq_true rfl, Nat.le_of_ble_eq_true rfl⟩) (fun E9 ce q9 H1 h hz hk hce hcv hcl => ?_) (fun h => ?_)
    · exact rx_out (f, P) rfl hEx hlocks hK hP hD hS h hz hk hce hcv hcl (Nat.le_of_ble_eq_true rfl) (Nat.le_of_ble_eq_true rfl)
    · refine lv_aload_n hx hb d_T_become_10 rfl (lv_at hl 0 rfl) ?_
      refine va_get (D := (dC, dI)) (ci := 0) (v := .ref aM) (C := R_T) (T := T_T) (N := 2) hx hb hw in_T hown hK hP 0 rfl rfl 1 (by decide) (hw _ wd_99) (fun _ h9 => h9) rfl d_T_become_11 ?_
      refine lv_aload_n hx hb d_T_become_14 rfl (lv_at hl 0 rfl) ?_
      refine va_get (D := (dC, dI)) (ci := 0) (v := .ref aR) (C := R_T) (T := T_T) (N := 2) hx hb hw in_T hown hK hP 0 rfl rfl 0 (by decide) (hw _ wd_98) (fun _ h9 => h9) rfl d_T_become_15 ?_
      refine lv_iload_n hx hb d_T_become_18 rfl (lv_at hl 1 rfl) ?_
      refine va_iald hx hb hK hP 1 0 rfl rfl h.1 d_T_become_19 ?_
      have h := h.2
      refine lv_aload_n hx hb d_T_become_20 rfl (lv_at hl 0 rfl) ?_
      refine va_get (D := (dC, dI)) (ci := 0) (v := .ref aR) (C := R_T) (T := T_T) (N := 2) hx hb hw in_T hown hK hP 0 rfl rfl 0 (by decide) (hw _ wd_98) (fun _ h9 => h9) rfl d_T_become_21 ?_
      refine lv_iload_n hx hb d_T_become_24 rfl (lv_at hl 2 rfl) ?_
      refine va_iald hx hb hK hP 1 0 rfl rfl h.1 d_T_become_25 ?_
      have h := h.2
      have hFc := va_free (wc := TSw cA a0 aR aM aW aP aS aC aO nW nE R f us P S sc li rc rn ro rd st) hD hS hA [0, 1, 2, 3, 4, 5, 6, 7] rfl
      refine va_callv (va_runV (As := [.int (R a1.toNatClampNeg), .int (R a2.toNatClampNeg)]) (rest := []) ⟨hx, hb, hml, hown, hw⟩ (mM_swap l dC dI cA a0 aR aM aW aP aS aC aO nW nE s.heap.size R f us P S sc li rc rn ro rd st (R a1.toNatClampNeg) (R a2.toNatClampNeg) _ h) (cwV 2 hw g_T_116 rfl rfl rfl (by decide +kernel) ⟨Nat.le_of_ble_eq_true rfl, Nat.le_of_ble_eq_true rfl⟩) (rw_PV (ci := 1) (q0 := 2) hK hP hD rfl rfl) rfl rfl hl.1 rfl (lv_room (Nat.le_of_ble_eq_true rfl)) d_T_become_26 ⟨Nat.le_of_ble_eq_true rfl, Nat.le_of_ble_eq_true rfl⟩) hS (fun q _ h => hFc q h) hFc (fun u t H locs ht hvm h hB hz1 hk1 hS => ?_)
      obtain ⟨f_26, P_26⟩ := u
      obtain ⟨hP, hK1, hD1⟩ := hB
      rw [ht] at hP
      have hD := hD1.weaken (fun _ _ _ q => hFc _ q)
      clear hFc hD1 hK1
      try dsimp only at h
      have hP : va_P (dC, dI) vwCl (TSw cA a0 aR aM aW aP aS aC aO nW nE R f_26 us P_26 S sc li rc rn ro rd st) H := hP
      have hD : va_D A (TSw cA a0 aR aM aW aP aS aC aO nW nE R f_26 us P_26 S sc li rc rn ro rd st) := hD
      refine W.widen (k := 4) (n := 24) (Nat.le_of_ble_eq_true rfl) (Nat.le_of_ble_eq_true rfl) ?_
      exact vx_ret (W.vret hx hb hr9 (fun t ht hW => ⟨⟨(f_26, P_26), rfl, h, by rw [ht]; exact hP, va_K.moved hW.alike hK, hD⟩, hS.F ht⟩) hS.2.2 d_T_become_29)
def wqT_words (nW : Nat) (nE : Nat) (R : Nat → Int32) (f : Nat → Int32) (us : Int32) (P : Nat → Int32) (S : Nat → Int32) (sc : Int32) (rc : Nat → Int32) (rn : Int32) (ro : Nat → Int32) (rd : Int32) (st : Int32) (post : Int32 → (Nat → Int32) → Int32 → (Nat → Int32) → (Nat → Int32) → Int32 → (Nat → Int32) → Int32 → (Nat → Int32) → Int32 → Int32 → Prop) : Prop :=
  wqM_settle nW nE R f us P S sc rc rn ro rd st (fun f_8 us_8 P_8 S_8 sc_8 rc_8 rn_8 ro_8 rd_8 st_8 => wqM_freeWords nW nE us_8 (fun r15 => post r15 f_8 us_8 P_8 S_8 sc_8 rc_8 rn_8 ro_8 rd_8 st_8))
set_option maxHeartbeats 4000000 in
set_option maxRecDepth 100000 in
theorem mT_words (l : Launch) (dC : Nat → ClassId) (dI : Nat → Nat → Nat) (cA : ClassId) (a0 : Nat) (aR : Nat) (aM : Nat) (aW : Nat) (aP : Nat) (aS : Nat) (aC : Nat) (aO : Nat) (nW : Nat) (nE : Nat) (sz : Nat) (R : Nat → Int32) (f : Nat → Int32) (us : Int32) (P : Nat → Int32) (S : Nat → Int32) (sc : Int32) (li : Int32) (rc : Nat → Int32) (rn : Int32) (ro : Nat → Int32) (rd : Int32) (st : Int32) (post : Int32 → (Nat → Int32) → Int32 → (Nat → Int32) → (Nat → Int32) → Int32 → (Nat → Int32) → Int32 → (Nat → Int32) → Int32 → Int32 → Prop) (h : wqT_words nW nE R f us P S sc rc rn ro rd st post) : Met l y_T_words ws_T_words ({ frames := 5, cells := 0, slots := 0, locals := 112 }) (rw_P (dC, dI) vwCl (TSw cA a0 aR aM aW aP aS aC aO nW nE R f us P S sc li rc rn ro rd st) [(cA, .int)] sz [.ref a0]) (va_Qi (fun (r : Int32) (u : (Nat → Int32) × Int32 × (Nat → Int32) × (Nat → Int32) × Int32 × (Nat → Int32) × Int32 × (Nat → Int32) × Int32 × Int32) => post r u.1 u.2.1 u.2.2.1 u.2.2.2.1 u.2.2.2.2.1 u.2.2.2.2.2.1 u.2.2.2.2.2.2.1 u.2.2.2.2.2.2.2.1 u.2.2.2.2.2.2.2.2.1 u.2.2.2.2.2.2.2.2.2) (rw_B (dC, dI) vwCl [(cA, .int)] (va_A (TSw cA a0 aR aM aW aP aS aC aO nW nE R f us P S sc li rc rn ro rd st) sz) (fun u : (Nat → Int32) × Int32 × (Nat → Int32) × (Nat → Int32) × Int32 × (Nat → Int32) × Int32 × (Nat → Int32) × Int32 × Int32 => TSw cA a0 aR aM aW aP aS aC aO nW nE R u.1 u.2.1 u.2.2.1 u.2.2.2.1 u.2.2.2.2.1 li u.2.2.2.2.2.1 u.2.2.2.2.2.2.1 u.2.2.2.2.2.2.2.1 u.2.2.2.2.2.2.2.2.1 u.2.2.2.2.2.2.2.2.2)) (va_A (TSw cA a0 aR aM aW aP aS aC aO nW nE R f us P S sc li rc rn ro rd st) sz)) 0 0 (va_A (TSw cA a0 aR aM aW aP aS aC aO nW nE R f us P S sc li rc rn ro rd st) sz) := by
  refine Met.ofW (cc := c_T_words) (maxL := 1) (ret := (some .int)) (by decide) rfl ?_
  intro p e s m args below meth c s₁ B hml hv
  obtain ⟨rfl, hsz, hP, hK, hD0⟩ := hv
  have hx := B.exec
  have hb := B.bytes
  have hr9 := B.returns
  have hts := atoms_spec (ws := ws_T_words) B.pre
  have hw : ∀ w ∈ WB_, w.before _ s = true := fun w h => hts w (List.mem_cons_of_mem _ h)
  have hown : s.vm.findClass R_T = some m.cls := findClass_of_methodNamed B.named
  have hlocks := B.notSynchronized
  subst hsz
  have hD := hD0.self (sz := s.heap.size)
  generalize hAe : va_A (TSw cA a0 aR aM aW aP aS aC aO nW nE R f us P S sc li rc rn ro rd st) s.heap.size = A at hD ⊢
  have hA : ∀ q : Nat, s.heap.size ≤ q → A q := fun q h => by rw [← hAe]; exact Or.inr h
  have hS : va_S A s.heap s.heap [] := va_S.rf
  have hl := lv_entry ([.ref a0]) (n := 1) (Nat.le_of_ble_eq_true rfl)
  rw [lg_entry_eq]
  generalize (lg_sl ([.ref a0]) ++ List.replicate (1 - (lg_sl ([.ref a0])).length) Slot.unset).toArray = ls at hl ⊢
  have hl : lv_has ls 1 [(0, .ref a0)] := hl
  unfold wqT_words at h
  refine lv_aload_n hx hb d_T_words_0 rfl (lv_at hl 0 rfl) ?_
  refine va_get (D := (dC, dI)) (ci := 0) (v := .ref aM) (C := R_T) (T := T_T) (N := 2) hx hb hw in_T hown hK hP 0 rfl rfl 1 (by decide) (hw _ wd_99) (fun _ h9 => h9) rfl d_T_words_1 ?_
  refine lv_aload_n hx hb d_T_words_4 rfl (lv_at hl 0 rfl) ?_
  refine va_get (D := (dC, dI)) (ci := 0) (v := .ref aR) (C := R_T) (T := T_T) (N := 2) hx hb hw in_T hown hK hP 0 rfl rfl 0 (by decide) (hw _ wd_98) (fun _ h9 => h9) rfl d_T_words_5 ?_
  have hFc := va_free (wc := TSw cA a0 aR aM aW aP aS aC aO nW nE R f us P S sc li rc rn ro rd st) hD hS hA [0, 1, 2, 3, 4, 5, 6, 7] rfl
  refine va_callv (va_runV (As := [.ref aR]) (rest := []) ⟨hx, hb, hml, hown, hw⟩ (mM_settle l dC dI cA a0 aR aM aW aP aS aC aO nW nE s.heap.size R f us P S sc li rc rn ro rd st _ h) (cwV 1 hw g_T_119 rfl rfl rfl (by decide +kernel) ⟨Nat.le_of_ble_eq_true rfl, Nat.le_of_ble_eq_true rfl⟩) (rw_PV (ci := 1) (q0 := 2) hK hP hD rfl rfl) rfl rfl hl.1 rfl (lv_room (Nat.le_of_ble_eq_true rfl)) d_T_words_8 ⟨Nat.le_of_ble_eq_true rfl, Nat.le_of_ble_eq_true rfl⟩) hS (fun q _ h => hFc q h) hFc (fun u t H locs ht hvm h hB hz1 hk1 hS => ?_)
  obtain ⟨f_8, us_8, P_8, S_8, sc_8, rc_8, rn_8, ro_8, rd_8, st_8⟩ := u
  obtain ⟨hP, hK1, hD1⟩ := hB
  rw [ht] at hP
  have hD := hD1.weaken (fun _ _ _ q => hFc _ q)
  clear hFc hD1 hK1
  try dsimp only at h
  have hP : va_P (dC, dI) vwCl (TSw cA a0 aR aM aW aP aS aC aO nW nE R f_8 us_8 P_8 S_8 sc_8 li rc_8 rn_8 ro_8 rd_8 st_8) H := hP
  have hD : va_D A (TSw cA a0 aR aM aW aP aS aC aO nW nE R f_8 us_8 P_8 S_8 sc_8 li rc_8 rn_8 ro_8 rd_8 st_8) := hD
  refine lv_aload_n hx hb d_T_words_11 rfl (lv_at hl 0 rfl) ?_
  refine va_get (D := (dC, dI)) (ci := 0) (v := .ref aM) (C := R_T) (T := T_T) (N := 2) hx hb hw in_T hown hK hP 0 rfl rfl 1 (by decide) (hw _ wd_99) (fun _ h9 => h9) rfl d_T_words_12 ?_
  refine rq_calli (W.runV (As := []) (rest := []) ⟨hx, hb, hml, hown, hw⟩ (mM_freeWords l dC dI cA a0 aR aM aW aP aS aC aO nW nE R f_8 us_8 P_8 S_8 sc_8 li rc_8 rn_8 ro_8 rd_8 st_8 _ h) (cwV 0 hw g_T_123 rfl rfl rfl (by decide +kernel) ⟨Nat.le_of_ble_eq_true rfl, Nat.le_of_ble_eq_true rfl⟩) (ro_PV (ci := 1) (q0 := 2) hK hP rfl rfl) rfl rfl hl.1 rfl (lv_room (Nat.le_of_ble_eq_true rfl)) d_T_words_15 ⟨Nat.le_of_ble_eq_true rfl, Nat.le_of_ble_eq_true rfl⟩) (fun r15 h => ?_)
  exact W.iret (v := r15) hx hb hr9 (fun t ht hW => ⟨⟨_, (f_8, us_8, P_8, S_8, sc_8, rc_8, rn_8, ro_8, rd_8, st_8), rfl, h, by rw [ht]; exact hP, va_K.moved hW.alike hK, hD⟩, hS.F ht⟩) hS.2.2 d_T_words_18
def wqT_entries (nW : Nat) (nE : Nat) (R : Nat → Int32) (f : Nat → Int32) (us : Int32) (P : Nat → Int32) (S : Nat → Int32) (sc : Int32) (rc : Nat → Int32) (rn : Int32) (ro : Nat → Int32) (rd : Int32) (st : Int32) (post : Int32 → (Nat → Int32) → Int32 → (Nat → Int32) → (Nat → Int32) → Int32 → (Nat → Int32) → Int32 → (Nat → Int32) → Int32 → Int32 → Prop) : Prop :=
  wqM_settle nW nE R f us P S sc rc rn ro rd st (fun f_8 us_8 P_8 S_8 sc_8 rc_8 rn_8 ro_8 rd_8 st_8 => wqM_freeEntries nW nE sc_8 (fun r15 => post r15 f_8 us_8 P_8 S_8 sc_8 rc_8 rn_8 ro_8 rd_8 st_8))
set_option maxHeartbeats 4000000 in
set_option maxRecDepth 100000 in
theorem mT_entries (l : Launch) (dC : Nat → ClassId) (dI : Nat → Nat → Nat) (cA : ClassId) (a0 : Nat) (aR : Nat) (aM : Nat) (aW : Nat) (aP : Nat) (aS : Nat) (aC : Nat) (aO : Nat) (nW : Nat) (nE : Nat) (sz : Nat) (R : Nat → Int32) (f : Nat → Int32) (us : Int32) (P : Nat → Int32) (S : Nat → Int32) (sc : Int32) (li : Int32) (rc : Nat → Int32) (rn : Int32) (ro : Nat → Int32) (rd : Int32) (st : Int32) (post : Int32 → (Nat → Int32) → Int32 → (Nat → Int32) → (Nat → Int32) → Int32 → (Nat → Int32) → Int32 → (Nat → Int32) → Int32 → Int32 → Prop) (h : wqT_entries nW nE R f us P S sc rc rn ro rd st post) : Met l y_T_entries ws_T_entries ({ frames := 5, cells := 0, slots := 0, locals := 112 }) (rw_P (dC, dI) vwCl (TSw cA a0 aR aM aW aP aS aC aO nW nE R f us P S sc li rc rn ro rd st) [(cA, .int)] sz [.ref a0]) (va_Qi (fun (r : Int32) (u : (Nat → Int32) × Int32 × (Nat → Int32) × (Nat → Int32) × Int32 × (Nat → Int32) × Int32 × (Nat → Int32) × Int32 × Int32) => post r u.1 u.2.1 u.2.2.1 u.2.2.2.1 u.2.2.2.2.1 u.2.2.2.2.2.1 u.2.2.2.2.2.2.1 u.2.2.2.2.2.2.2.1 u.2.2.2.2.2.2.2.2.1 u.2.2.2.2.2.2.2.2.2) (rw_B (dC, dI) vwCl [(cA, .int)] (va_A (TSw cA a0 aR aM aW aP aS aC aO nW nE R f us P S sc li rc rn ro rd st) sz) (fun u : (Nat → Int32) × Int32 × (Nat → Int32) × (Nat → Int32) × Int32 × (Nat → Int32) × Int32 × (Nat → Int32) × Int32 × Int32 => TSw cA a0 aR aM aW aP aS aC aO nW nE R u.1 u.2.1 u.2.2.1 u.2.2.2.1 u.2.2.2.2.1 li u.2.2.2.2.2.1 u.2.2.2.2.2.2.1 u.2.2.2.2.2.2.2.1 u.2.2.2.2.2.2.2.2.1 u.2.2.2.2.2.2.2.2.2)) (va_A (TSw cA a0 aR aM aW aP aS aC aO nW nE R f us P S sc li rc rn ro rd st) sz)) 0 0 (va_A (TSw cA a0 aR aM aW aP aS aC aO nW nE R f us P S sc li rc rn ro rd st) sz) := by
  refine Met.ofW (cc := c_T_entries) (maxL := 1) (ret := (some .int)) (by decide) rfl ?_
  intro p e s m args below meth c s₁ B hml hv
  obtain ⟨rfl, hsz, hP, hK, hD0⟩ := hv
  have hx := B.exec
  have hb := B.bytes
  have hr9 := B.returns
  have hts := atoms_spec (ws := ws_T_entries) B.pre
  have hw : ∀ w ∈ WB_, w.before _ s = true := fun w h => hts w (List.mem_cons_of_mem _ h)
  have hown : s.vm.findClass R_T = some m.cls := findClass_of_methodNamed B.named
  have hlocks := B.notSynchronized
  subst hsz
  have hD := hD0.self (sz := s.heap.size)
  generalize hAe : va_A (TSw cA a0 aR aM aW aP aS aC aO nW nE R f us P S sc li rc rn ro rd st) s.heap.size = A at hD ⊢
  have hA : ∀ q : Nat, s.heap.size ≤ q → A q := fun q h => by rw [← hAe]; exact Or.inr h
  have hS : va_S A s.heap s.heap [] := va_S.rf
  have hl := lv_entry ([.ref a0]) (n := 1) (Nat.le_of_ble_eq_true rfl)
  rw [lg_entry_eq]
  generalize (lg_sl ([.ref a0]) ++ List.replicate (1 - (lg_sl ([.ref a0])).length) Slot.unset).toArray = ls at hl ⊢
  have hl : lv_has ls 1 [(0, .ref a0)] := hl
  unfold wqT_entries at h
  refine lv_aload_n hx hb d_T_entries_0 rfl (lv_at hl 0 rfl) ?_
  refine va_get (D := (dC, dI)) (ci := 0) (v := .ref aM) (C := R_T) (T := T_T) (N := 2) hx hb hw in_T hown hK hP 0 rfl rfl 1 (by decide) (hw _ wd_99) (fun _ h9 => h9) rfl d_T_entries_1 ?_
  refine lv_aload_n hx hb d_T_entries_4 rfl (lv_at hl 0 rfl) ?_
  refine va_get (D := (dC, dI)) (ci := 0) (v := .ref aR) (C := R_T) (T := T_T) (N := 2) hx hb hw in_T hown hK hP 0 rfl rfl 0 (by decide) (hw _ wd_98) (fun _ h9 => h9) rfl d_T_entries_5 ?_
  have hFc := va_free (wc := TSw cA a0 aR aM aW aP aS aC aO nW nE R f us P S sc li rc rn ro rd st) hD hS hA [0, 1, 2, 3, 4, 5, 6, 7] rfl
  refine va_callv (va_runV (As := [.ref aR]) (rest := []) ⟨hx, hb, hml, hown, hw⟩ (mM_settle l dC dI cA a0 aR aM aW aP aS aC aO nW nE s.heap.size R f us P S sc li rc rn ro rd st _ h) (cwV 1 hw g_T_119 rfl rfl rfl (by decide +kernel) ⟨Nat.le_of_ble_eq_true rfl, Nat.le_of_ble_eq_true rfl⟩) (rw_PV (ci := 1) (q0 := 2) hK hP hD rfl rfl) rfl rfl hl.1 rfl (lv_room (Nat.le_of_ble_eq_true rfl)) d_T_entries_8 ⟨Nat.le_of_ble_eq_true rfl, Nat.le_of_ble_eq_true rfl⟩) hS (fun q _ h => hFc q h) hFc (fun u t H locs ht hvm h hB hz1 hk1 hS => ?_)
  obtain ⟨f_8, us_8, P_8, S_8, sc_8, rc_8, rn_8, ro_8, rd_8, st_8⟩ := u
  obtain ⟨hP, hK1, hD1⟩ := hB
  rw [ht] at hP
  have hD := hD1.weaken (fun _ _ _ q => hFc _ q)
  clear hFc hD1 hK1
  try dsimp only at h
  have hP : va_P (dC, dI) vwCl (TSw cA a0 aR aM aW aP aS aC aO nW nE R f_8 us_8 P_8 S_8 sc_8 li rc_8 rn_8 ro_8 rd_8 st_8) H := hP
  have hD : va_D A (TSw cA a0 aR aM aW aP aS aC aO nW nE R f_8 us_8 P_8 S_8 sc_8 li rc_8 rn_8 ro_8 rd_8 st_8) := hD
  refine lv_aload_n hx hb d_T_entries_11 rfl (lv_at hl 0 rfl) ?_
  refine va_get (D := (dC, dI)) (ci := 0) (v := .ref aM) (C := R_T) (T := T_T) (N := 2) hx hb hw in_T hown hK hP 0 rfl rfl 1 (by decide) (hw _ wd_99) (fun _ h9 => h9) rfl d_T_entries_12 ?_
  refine rq_calli (W.runV (As := []) (rest := []) ⟨hx, hb, hml, hown, hw⟩ (mM_freeEntries l dC dI cA a0 aR aM aW aP aS aC aO nW nE R f_8 us_8 P_8 S_8 sc_8 li rc_8 rn_8 ro_8 rd_8 st_8 _ h) (cwV 0 hw g_T_127 rfl rfl rfl (by decide +kernel) ⟨Nat.le_of_ble_eq_true rfl, Nat.le_of_ble_eq_true rfl⟩) (ro_PV (ci := 1) (q0 := 2) hK hP rfl rfl) rfl rfl hl.1 rfl (lv_room (Nat.le_of_ble_eq_true rfl)) d_T_entries_15 ⟨Nat.le_of_ble_eq_true rfl, Nat.le_of_ble_eq_true rfl⟩) (fun r15 h => ?_)
  exact W.iret (v := r15) hx hb hr9 (fun t ht hW => ⟨⟨_, (f_8, us_8, P_8, S_8, sc_8, rc_8, rn_8, ro_8, rd_8, st_8), rfl, h, by rw [ht]; exact hP, va_K.moved hW.alike hK, hD⟩, hS.F ht⟩) hS.2.2 d_T_entries_18
def wqT_instance (nW : Nat) (nE : Nat) (R : Nat → Int32) (f : Nat → Int32) (us : Int32) (P : Nat → Int32) (S : Nat → Int32) (sc : Int32) (rc : Nat → Int32) (rn : Int32) (ro : Nat → Int32) (rd : Int32) (st : Int32) (a1 : Int32) (a2 : Int32) (a3 : Int32) (post : Int32 → (Nat → Int32) → (Nat → Int32) → Int32 → (Nat → Int32) → (Nat → Int32) → Int32 → (Nat → Int32) → Int32 → (Nat → Int32) → Int32 → Int32 → Prop) (px : String → (Nat → Int32) → (Nat → Int32) → Int32 → (Nat → Int32) → (Nat → Int32) → Int32 → (Nat → Int32) → Int32 → (Nat → Int32) → Int32 → Int32 → Prop) : Prop :=
  wqT_needRegister a1 (wqT_needRegister a2 (wqT_needBetween a3 (0 : Int32) (2147483647 : Int32) (wqM_settle nW nE R f us P S sc rc rn ro rd st (fun f_23 us_23 P_23 S_23 sc_23 rc_23 rn_23 ro_23 rd_23 st_23 => vp_in a2 32 ∧ (wqM_findOfClass nW nE f_23 us_23 (R a2.toNatClampNeg) a3 (fun r37 => (r37 = 0 → (post (0 : Int32) R f_23 us_23 P_23 S_23 sc_23 rc_23 rn_23 ro_23 rd_23 st_23)) ∧ (¬ (r37 = 0) → (wqT_setRegister nW nE R st_23 a1 r37 (fun R_53 st_53 => wqM_identity nW nE f_23 P_23 r37 (fun r62 => post r62 R_53 f_23 us_23 P_23 S_23 sc_23 rc_23 rn_23 ro_23 rd_23 st_53)))))))) (fun E => px E R f us P S sc rc rn ro rd st)) (fun E => px E R f us P S sc rc rn ro rd st)) (fun E => px E R f us P S sc rc rn ro rd st)
set_option maxHeartbeats 4000000 in
set_option maxRecDepth 100000 in
theorem mT_instance (l : Launch) (hlT : l.stackTraces = false) (sa : Nat → Nat) (dC : Nat → ClassId) (dI : Nat → Nat → Nat) (cA : ClassId) (a0 : Nat) (aR : Nat) (aM : Nat) (aW : Nat) (aP : Nat) (aS : Nat) (aC : Nat) (aO : Nat) (nW : Nat) (nE : Nat) (sz : Nat) (R : Nat → Int32) (f : Nat → Int32) (us : Int32) (P : Nat → Int32) (S : Nat → Int32) (sc : Int32) (li : Int32) (rc : Nat → Int32) (rn : Int32) (ro : Nat → Int32) (rd : Int32) (st : Int32) (a1 : Int32) (a2 : Int32) (a3 : Int32) (post : Int32 → (Nat → Int32) → (Nat → Int32) → Int32 → (Nat → Int32) → (Nat → Int32) → Int32 → (Nat → Int32) → Int32 → (Nat → Int32) → Int32 → Int32 → Prop) (px : String → (Nat → Int32) → (Nat → Int32) → Int32 → (Nat → Int32) → (Nat → Int32) → Int32 → (Nat → Int32) → Int32 → (Nat → Int32) → Int32 → Int32 → Prop) (h : wqT_instance nW nE R f us P S sc rc rn ro rd st a1 a2 a3 post px) : vx_Met l y_T_instance ws_T_instance ({ frames := 7, cells := 3, slots := 18, locals := 122 }) (xw_P (dC, dI) vwCl (TSw cA a0 aR aM aW aP aS aC aO nW nE R f us P S sc li rc rn ro rd st) [(cA, .int)] sz sa [.ref a0, .int a1, .int a2, .int a3]) (va_Qi (fun (r : Int32) (u : (Nat → Int32) × (Nat → Int32) × Int32 × (Nat → Int32) × (Nat → Int32) × Int32 × (Nat → Int32) × Int32 × (Nat → Int32) × Int32 × Int32) => post r u.1 u.2.1 u.2.2.1 u.2.2.2.1 u.2.2.2.2.1 u.2.2.2.2.2.1 u.2.2.2.2.2.2.1 u.2.2.2.2.2.2.2.1 u.2.2.2.2.2.2.2.2.1 u.2.2.2.2.2.2.2.2.2.1 u.2.2.2.2.2.2.2.2.2.2) (rw_B (dC, dI) vwCl [(cA, .int)] (va_A (TSw cA a0 aR aM aW aP aS aC aO nW nE R f us P S sc li rc rn ro rd st) sz) (fun u : (Nat → Int32) × (Nat → Int32) × Int32 × (Nat → Int32) × (Nat → Int32) × Int32 × (Nat → Int32) × Int32 × (Nat → Int32) × Int32 × Int32 => TSw cA a0 aR aM aW aP aS aC aO nW nE u.1 u.2.1 u.2.2.1 u.2.2.2.1 u.2.2.2.2.1 u.2.2.2.2.2.1 li u.2.2.2.2.2.2.1 u.2.2.2.2.2.2.2.1 u.2.2.2.2.2.2.2.2.1 u.2.2.2.2.2.2.2.2.2.1 u.2.2.2.2.2.2.2.2.2.2)) (va_A (TSw cA a0 aR aM aW aP aS aC aO nW nE R f us P S sc li rc rn ro rd st) sz)) (rw_X (dC, dI) vwCl [(cA, .int)] (va_A (TSw cA a0 aR aM aW aP aS aC aO nW nE R f us P S sc li rc rn ro rd st) sz) (fun u : (Nat → Int32) × (Nat → Int32) × Int32 × (Nat → Int32) × (Nat → Int32) × Int32 × (Nat → Int32) × Int32 × (Nat → Int32) × Int32 × Int32 => TSw cA a0 aR aM aW aP aS aC aO nW nE u.1 u.2.1 u.2.2.1 u.2.2.2.1 u.2.2.2.2.1 u.2.2.2.2.2.1 li u.2.2.2.2.2.2.1 u.2.2.2.2.2.2.2.1 u.2.2.2.2.2.2.2.2.1 u.2.2.2.2.2.2.2.2.2.1 u.2.2.2.2.2.2.2.2.2.2) (fun (E : String) (u : (Nat → Int32) × (Nat → Int32) × Int32 × (Nat → Int32) × (Nat → Int32) × Int32 × (Nat → Int32) × Int32 × (Nat → Int32) × Int32 × Int32) => px E u.1 u.2.1 u.2.2.1 u.2.2.2.1 u.2.2.2.2.1 u.2.2.2.2.2.1 u.2.2.2.2.2.2.1 u.2.2.2.2.2.2.2.1 u.2.2.2.2.2.2.2.2.1 u.2.2.2.2.2.2.2.2.2.1 u.2.2.2.2.2.2.2.2.2.2)) 3 18 (va_A (TSw cA a0 aR aM aW aP aS aC aO nW nE R f us P S sc li rc rn ro rd st) sz) := by
  refine vx_ofW (cc := c_T_instance) (maxL := 5) (ret := (some .int)) (by decide) rfl ?_
  intro p e s m args below meth c s₁ B hml hEx hv
  obtain ⟨rfl, hsz, hP, hK, hD0, hXT⟩ := hv
  have hx := B.exec
  have hb := B.bytes
  have hr9 := B.returns
  have hts := atoms_spec (ws := ws_T_instance) B.pre
  have hw : ∀ w ∈ WB_, w.before _ s = true := fun w h => hts w (List.mem_cons_of_mem _ h)
  have hown : s.vm.findClass R_T = some m.cls := findClass_of_methodNamed B.named
  have hlocks := B.notSynchronized
  subst hsz
  have hD := hD0.self (sz := s.heap.size)
  generalize hAe : va_A (TSw cA a0 aR aM aW aP aS aC aO nW nE R f us P S sc li rc rn ro rd st) s.heap.size = A at hD hXT ⊢
  have hA : ∀ q : Nat, s.heap.size ≤ q → A q := fun q h => by rw [← hAe]; exact Or.inr h
  have hS : va_S A s.heap s.heap [] := va_S.rf
  have hl := lv_entry ([.ref a0, .int a1, .int a2, .int a3]) (n := 5) (Nat.le_of_ble_eq_true rfl)
  rw [lg_entry_eq]
  generalize (lg_sl ([.ref a0, .int a1, .int a2, .int a3]) ++ List.replicate (5 - (lg_sl ([.ref a0, .int a1, .int a2, .int a3])).length) Slot.unset).toArray = ls at hl ⊢
  have hl : lv_has ls 5 [(0, .ref a0), (1, .int a1), (2, .int a2), (3, .int a3)] := hl
  unfold wqT_instance at h
  refine lv_iload_n hx hb d_T_instance_0 rfl (lv_at hl 1 rfl) ?_
  refine rx_callv (vx_runS (As := [.int a1]) (rest := []) ⟨hx, hb, hml, hown, hw⟩ (mT_needRegister l hlT sa a1 _ _ h) (va_cwS 1 hw g_T_27 rfl rfl rfl (by decide +kernel) ⟨Nat.le_of_ble_eq_true rfl, Nat.le_of_ble_eq_true rfl⟩) (xs_PS (xt_at hXT hS)) rfl rfl hl.1 rfl (lv_room (Nat.le_of_ble_eq_true rfl)) d_T_instance_1 ⟨Nat.le_of_ble_eq_true rfl, Nat.le_of_ble_eq_true rfl⟩) (fun E9 ce q9 H1 h hz hk hce hcv hcl => ?_) (fun h => ?_)
  · exact rx_out (R, f, us, P, S, sc, rc, rn, ro, rd, st) rfl hEx hlocks hK hP hD hS h hz hk hce hcv hcl (Nat.le_of_ble_eq_true rfl) (Nat.le_of_ble_eq_true rfl)
  · refine lv_iload_n hx hb d_T_instance_4 rfl (lv_at hl 2 rfl) ?_
    refine rx_callv (vx_runS (As := [.int a2]) (rest := []) ⟨hx, hb, hml, hown, hw⟩ (mT_needRegister l hlT sa a2 _ _ h) (va_cwS 1 hw g_T_27 rfl rfl rfl (by decide +kernel) ⟨Nat.le_of_ble_eq_true rfl, Nat.le_of_ble_eq_true rfl⟩) (xs_PS (xt_at hXT hS)) rfl rfl hl.1 rfl (lv_room (Nat.le_of_ble_eq_true rfl)) d_T_instance_5 ⟨Nat.le_of_ble_eq_true rfl, Nat.le_of_ble_eq_true rfl⟩) (fun E9 ce q9 H1 h hz hk hce hcv hcl => ?_) (fun h => ?_)
    · exact rx_out (R, f, us, P, S, sc, rc, rn, ro, rd, st) rfl hEx hlocks hK hP hD hS h hz hk hce hcv hcl (Nat.le_of_ble_eq_true rfl) (Nat.le_of_ble_eq_true rfl)
    · refine lv_iload_n hx hb d_T_instance_8 rfl (lv_at hl 3 rfl) ?_
      refine lv_iconst (v := (0 : Int32)) hx hb d_T_instance_9 (by decide) ?_
      refine lv_ldc (v := (2147483647 : Int32)) hx hb hown (hw _ wd_535) d_T_instance_10 ?_
      refine rx_callv (vx_runS (As := [.int a3, .int (0 : Int32), .int (2147483647 : Int32)]) (rest := []) ⟨hx, hb, hml, hown, hw⟩ (mT_needBetween l hlT sa a3 (0 : Int32) (2147483647 : Int32) _ _ h) (va_cwS 3 hw g_T_33 rfl rfl rfl (by decide +kernel) ⟨Nat.le_of_ble_eq_true rfl, Nat.le_of_ble_eq_true rfl⟩) (xs_PS (xt_at hXT hS)) rfl rfl hl.1 rfl (lv_room (Nat.le_of_ble_eq_true rfl)) d_T_instance_12 ⟨Nat.le_of_ble_eq_true rfl, Nat.le_of_ble_eq_true rfl⟩) (fun E9 ce q9 H1 h hz hk hce hcv hcl => ?_) (fun h => ?_)
      · exact rx_out (R, f, us, P, S, sc, rc, rn, ro, rd, st) rfl hEx hlocks hK hP hD hS h hz hk hce hcv hcl (Nat.le_of_ble_eq_true rfl) (Nat.le_of_ble_eq_true rfl)
      · refine lv_aload_n hx hb d_T_instance_15 rfl (lv_at hl 0 rfl) ?_
        refine va_get (D := (dC, dI)) (ci := 0) (v := .ref aM) (C := R_T) (T := T_T) (N := 2) hx hb hw in_T hown hK hP 0 rfl rfl 1 (by decide) (hw _ wd_99) (fun _ h9 => h9) rfl d_T_instance_16 ?_
        refine lv_aload_n hx hb d_T_instance_19 rfl (lv_at hl 0 rfl) ?_
        refine va_get (D := (dC, dI)) (ci := 0) (v := .ref aR) (C := R_T) (T := T_T) (N := 2) hx hb hw in_T hown hK hP 0 rfl rfl 0 (by decide) (hw _ wd_98) (fun _ h9 => h9) rfl d_T_instance_20 ?_
        have hFc := va_free (wc := TSw cA a0 aR aM aW aP aS aC aO nW nE R f us P S sc li rc rn ro rd st) hD hS hA [0, 1, 2, 3, 4, 5, 6, 7] rfl
        refine va_callv (va_runV (As := [.ref aR]) (rest := []) ⟨hx, hb, hml, hown, hw⟩ (mM_settle l dC dI cA a0 aR aM aW aP aS aC aO nW nE s.heap.size R f us P S sc li rc rn ro rd st _ h) (cwV 1 hw g_T_119 rfl rfl rfl (by decide +kernel) ⟨Nat.le_of_ble_eq_true rfl, Nat.le_of_ble_eq_true rfl⟩) (rw_PV (ci := 1) (q0 := 2) hK hP hD rfl rfl) rfl rfl hl.1 rfl (lv_room (Nat.le_of_ble_eq_true rfl)) d_T_instance_23 ⟨Nat.le_of_ble_eq_true rfl, Nat.le_of_ble_eq_true rfl⟩) hS (fun q _ h => hFc q h) hFc (fun u t H locs ht hvm h hB hz1 hk1 hS => ?_)
        obtain ⟨f_23, us_23, P_23, S_23, sc_23, rc_23, rn_23, ro_23, rd_23, st_23⟩ := u
        obtain ⟨hP, hK1, hD1⟩ := hB
        rw [ht] at hP
        have hD := hD1.weaken (fun _ _ _ q => hFc _ q)
        clear hFc hD1 hK1
        try dsimp only at h
        have hP : va_P (dC, dI) vwCl (TSw cA a0 aR aM aW aP aS aC aO nW nE R f_23 us_23 P_23 S_23 sc_23 li rc_23 rn_23 ro_23 rd_23 st_23) H := hP
        have hD : va_D A (TSw cA a0 aR aM aW aP aS aC aO nW nE R f_23 us_23 P_23 S_23 sc_23 li rc_23 rn_23 ro_23 rd_23 st_23) := hD
        refine lv_aload_n hx hb d_T_instance_26 rfl (lv_at hl 0 rfl) ?_
        refine va_get (D := (dC, dI)) (ci := 0) (v := .ref aM) (C := R_T) (T := T_T) (N := 2) hx hb hw in_T hown hK hP 0 rfl rfl 1 (by decide) (hw _ wd_99) (fun _ h9 => h9) rfl d_T_instance_27 ?_
        refine lv_aload_n hx hb d_T_instance_30 rfl (lv_at hl 0 rfl) ?_
        refine va_get (D := (dC, dI)) (ci := 0) (v := .ref aR) (C := R_T) (T := T_T) (N := 2) hx hb hw in_T hown hK hP 0 rfl rfl 0 (by decide) (hw _ wd_98) (fun _ h9 => h9) rfl d_T_instance_31 ?_
        refine lv_iload_n hx hb d_T_instance_34 rfl (lv_at hl 2 rfl) ?_
        refine va_iald hx hb hK hP 1 0 rfl rfl h.1 d_T_instance_35 ?_
        have h := h.2
        refine lv_iload_n hx hb d_T_instance_36 rfl (lv_at hl 3 rfl) ?_
        refine rq_calli (W.runV (As := [.int (R a2.toNatClampNeg), .int a3]) (rest := []) ⟨hx, hb, hml, hown, hw⟩ (mM_findOfClass l dC dI cA a0 aR aM aW aP aS aC aO nW nE R f_23 us_23 P_23 S_23 sc_23 li rc_23 rn_23 ro_23 rd_23 st_23 (R a2.toNatClampNeg) a3 _ h) (cwV 2 hw g_T_133 rfl rfl rfl (by decide +kernel) ⟨Nat.le_of_ble_eq_true rfl, Nat.le_of_ble_eq_true rfl⟩) (ro_PV (ci := 1) (q0 := 2) hK hP rfl rfl) rfl rfl hl.1 rfl (lv_room (Nat.le_of_ble_eq_true rfl)) d_T_instance_37 ⟨Nat.le_of_ble_eq_true rfl, Nat.le_of_ble_eq_true rfl⟩) (fun r37 h => ?_)
        refine lv_istore (lv' := [(4, .int r37), (0, .ref a0), (1, .int a1), (2, .int a2), (3, .int a3)]) hx hb d_T_instance_40 hl (by decide) rfl (fun ls hl => ?_)
        refine lv_iload hx hb d_T_instance_42 (lv_at hl 0 rfl) ?_
        refine lv_if_ne (tgt := 49) hx hb d_T_instance_44 (by decide) (fun c_44 => ?_) (fun c_44 => ?_)
        · have h := h.2 c_44
          refine lv_aload_n hx hb d_T_instance_49 rfl (lv_at hl 1 rfl) ?_
          refine lv_iload_n hx hb d_T_instance_50 rfl (lv_at hl 2 rfl) ?_
          refine lv_iload hx hb d_T_instance_51 (lv_at hl 0 rfl) ?_
          have hFc := va_free (wc := TSw cA a0 aR aM aW aP aS aC aO nW nE R f_23 us_23 P_23 S_23 sc_23 li rc_23 rn_23 ro_23 rd_23 st_23) hD hS hA [0, 1, 2, 3, 4, 5, 6, 7] rfl
          refine va_callv (va_runV (As := [.int a1, .int r37]) (rest := []) ⟨hx, hb, hml, hown, hw⟩ (mT_setRegister l dC dI cA a0 aR aM aW aP aS aC aO nW nE H.size R f_23 us_23 P_23 S_23 sc_23 li rc_23 rn_23 ro_23 rd_23 st_23 a1 r37 _ h) (cwV 2 hw g_T_43 rfl rfl rfl (by decide +kernel) ⟨Nat.le_of_ble_eq_true rfl, Nat.le_of_ble_eq_true rfl⟩) (rw_PV (ci := 0) (q0 := 0) hK hP hD rfl rfl) rfl rfl hl.1 rfl (lv_room (Nat.le_of_ble_eq_true rfl)) d_T_instance_53 ⟨Nat.le_of_ble_eq_true rfl, Nat.le_of_ble_eq_true rfl⟩) hS (fun q _ h => hFc q h) hFc (fun u t H locs ht hvm h hB hz1 hk1 hS => ?_)
          obtain ⟨R_53, st_53⟩ := u
          obtain ⟨hP, hK1, hD1⟩ := hB
          rw [ht] at hP
          have hD := hD1.weaken (fun _ _ _ q => hFc _ q)
          clear hFc hD1 hK1
          try dsimp only at h
          have hP : va_P (dC, dI) vwCl (TSw cA a0 aR aM aW aP aS aC aO nW nE R_53 f_23 us_23 P_23 S_23 sc_23 li rc_23 rn_23 ro_23 rd_23 st_53) H := hP
          have hD : va_D A (TSw cA a0 aR aM aW aP aS aC aO nW nE R_53 f_23 us_23 P_23 S_23 sc_23 li rc_23 rn_23 ro_23 rd_23 st_53) := hD
          refine lv_aload_n hx hb d_T_instance_56 rfl (lv_at hl 1 rfl) ?_
          refine va_get (D := (dC, dI)) (ci := 0) (v := .ref aM) (C := R_T) (T := T_T) (N := 2) hx hb hw in_T hown hK hP 0 rfl rfl 1 (by decide) (hw _ wd_99) (fun _ h9 => h9) rfl d_T_instance_57 ?_
          refine lv_iload hx hb d_T_instance_60 (lv_at hl 0 rfl) ?_
          refine rq_calli (W.runV (As := [.int r37]) (rest := []) ⟨hx, hb, hml, hown, hw⟩ (mM_identity l dC dI cA a0 aR aM aW aP aS aC aO nW nE R_53 f_23 us_23 P_23 S_23 sc_23 li rc_23 rn_23 ro_23 rd_23 st_53 r37 _ h) (cwV 1 hw g_T_57 rfl rfl rfl (by decide +kernel) ⟨Nat.le_of_ble_eq_true rfl, Nat.le_of_ble_eq_true rfl⟩) (ro_PV (ci := 1) (q0 := 2) hK hP rfl rfl) rfl rfl hl.1 rfl (lv_room (Nat.le_of_ble_eq_true rfl)) d_T_instance_62 ⟨Nat.le_of_ble_eq_true rfl, Nat.le_of_ble_eq_true rfl⟩) (fun r62 h => ?_)
          refine W.widen (k := 3) (n := 18) (Nat.le_of_ble_eq_true rfl) (Nat.le_of_ble_eq_true rfl) ?_
          exact vx_ret (W.iret (v := r62) hx hb hr9 (fun t ht hW => ⟨⟨_, (R_53, f_23, us_23, P_23, S_23, sc_23, rc_23, rn_23, ro_23, rd_23, st_53), rfl, h, by rw [ht]; exact hP, va_K.moved hW.alike hK, hD⟩, hS.F ht⟩) hS.2.2 d_T_instance_65)
        · have h := h.1 c_44
          refine lv_iconst (v := (0 : Int32)) hx hb d_T_instance_47 (by decide) ?_
          refine W.widen (k := 3) (n := 18) (Nat.le_of_ble_eq_true rfl) (Nat.le_of_ble_eq_true rfl) ?_
          exact vx_ret (W.iret (v := (0 : Int32)) hx hb hr9 (fun t ht hW => ⟨⟨_, (R, f_23, us_23, P_23, S_23, sc_23, rc_23, rn_23, ro_23, rd_23, st_23), rfl, h, by rw [ht]; exact hP, va_K.moved hW.alike hK, hD⟩, hS.F ht⟩) hS.2.2 d_T_instance_48)
def wqT_owners_45 (nW : Nat) (nE : Nat) (R : Nat → Int32) (y1_45 : Int32) (y2_45 : Int32) (y5_45 : Int32) (ff_45 : Nat → Int32) (usf_45 : Int32) (Pf_45 : Nat → Int32) (Sf_45 : Nat → Int32) (scf_45 : Int32) (rcf_45 : Nat → Int32) (rnf_45 : Int32) (rof_45 : Nat → Int32) (rdf_45 : Int32) (stf_45 : Int32) (post : Int32 → (Nat → Int32) → Int32 → (Nat → Int32) → (Nat → Int32) → Int32 → (Nat → Int32) → Int32 → (Nat → Int32) → Int32 → Int32 → Prop) (px : String → (Nat → Int32) → Int32 → (Nat → Int32) → (Nat → Int32) → Int32 → (Nat → Int32) → Int32 → (Nat → Int32) → Int32 → Int32 → Prop) (kx : Int32 → Int32 → Prop) : Nat → Int32 → Int32 → Prop
  | 0, _, _ => False
  | n + 1, x3_45, x6_45 =>
    (y5_45 ≤ x6_45 → (kx x3_45 x6_45)) ∧ (¬ (y5_45 ≤ x6_45) → (vp_in x6_45 32 ∧ (((R x6_45.toNatClampNeg) = y2_45 → (wqT_owners_45 nW nE R y1_45 y2_45 y5_45 ff_45 usf_45 Pf_45 Sf_45 scf_45 rcf_45 rnf_45 rof_45 rdf_45 stf_45 post px kx n (x3_45 + (1 : Int32)) (x6_45 + (1 : Int32)))) ∧ (¬ ((R x6_45.toNatClampNeg) = y2_45) → (wqT_owners_45 nW nE R y1_45 y2_45 y5_45 ff_45 usf_45 Pf_45 Sf_45 scf_45 rcf_45 rnf_45 rof_45 rdf_45 stf_45 post px kx n x3_45 (x6_45 + (1 : Int32)))))))
def wqT_owners (nW : Nat) (nE : Nat) (R : Nat → Int32) (f : Nat → Int32) (us : Int32) (P : Nat → Int32) (S : Nat → Int32) (sc : Int32) (rc : Nat → Int32) (rn : Int32) (ro : Nat → Int32) (rd : Int32) (st : Int32) (a1 : Int32) (post : Int32 → (Nat → Int32) → Int32 → (Nat → Int32) → (Nat → Int32) → Int32 → (Nat → Int32) → Int32 → (Nat → Int32) → Int32 → Int32 → Prop) (px : String → (Nat → Int32) → Int32 → (Nat → Int32) → (Nat → Int32) → Int32 → (Nat → Int32) → Int32 → (Nat → Int32) → Int32 → Int32 → Prop) : Prop :=
  wqT_needRegister a1 (vp_in a1 32 ∧ (wqM_settle nW nE R f us P S sc rc rn ro rd st (fun f_19 us_19 P_19 S_19 sc_19 rc_19 rn_19 ro_19 rd_19 st_19 => wqM_countHolders nW nE f_19 us_19 (R a1.toNatClampNeg) (fun r27 => ∃ k_45, wqT_owners_45 nW nE R a1 (R a1.toNatClampNeg) (nI 32) f_19 us_19 P_19 S_19 sc_19 rc_19 rn_19 ro_19 rd_19 st_19 post px (fun z3_45 z6_45 => post z3_45 f_19 us_19 P_19 S_19 sc_19 rc_19 rn_19 ro_19 rd_19 st_19) k_45 r27 (0 : Int32))))) (fun E => px E f us P S sc rc rn ro rd st)
set_option maxHeartbeats 4000000 in
set_option maxRecDepth 100000 in
theorem mT_owners (l : Launch) (hlT : l.stackTraces = false) (sa : Nat → Nat) (dC : Nat → ClassId) (dI : Nat → Nat → Nat) (cA : ClassId) (a0 : Nat) (aR : Nat) (aM : Nat) (aW : Nat) (aP : Nat) (aS : Nat) (aC : Nat) (aO : Nat) (nW : Nat) (nE : Nat) (sz : Nat) (R : Nat → Int32) (f : Nat → Int32) (us : Int32) (P : Nat → Int32) (S : Nat → Int32) (sc : Int32) (li : Int32) (rc : Nat → Int32) (rn : Int32) (ro : Nat → Int32) (rd : Int32) (st : Int32) (a1 : Int32) (post : Int32 → (Nat → Int32) → Int32 → (Nat → Int32) → (Nat → Int32) → Int32 → (Nat → Int32) → Int32 → (Nat → Int32) → Int32 → Int32 → Prop) (px : String → (Nat → Int32) → Int32 → (Nat → Int32) → (Nat → Int32) → Int32 → (Nat → Int32) → Int32 → (Nat → Int32) → Int32 → Int32 → Prop) (h : wqT_owners nW nE R f us P S sc rc rn ro rd st a1 post px) : vx_Met l y_T_owners ws_T_owners ({ frames := 7, cells := 1, slots := 6, locals := 120 }) (xw_P (dC, dI) vwCl (TSw cA a0 aR aM aW aP aS aC aO nW nE R f us P S sc li rc rn ro rd st) [(cA, .int)] sz sa [.ref a0, .int a1]) (va_Qi (fun (r : Int32) (u : (Nat → Int32) × Int32 × (Nat → Int32) × (Nat → Int32) × Int32 × (Nat → Int32) × Int32 × (Nat → Int32) × Int32 × Int32) => post r u.1 u.2.1 u.2.2.1 u.2.2.2.1 u.2.2.2.2.1 u.2.2.2.2.2.1 u.2.2.2.2.2.2.1 u.2.2.2.2.2.2.2.1 u.2.2.2.2.2.2.2.2.1 u.2.2.2.2.2.2.2.2.2) (rw_B (dC, dI) vwCl [(cA, .int)] (va_A (TSw cA a0 aR aM aW aP aS aC aO nW nE R f us P S sc li rc rn ro rd st) sz) (fun u : (Nat → Int32) × Int32 × (Nat → Int32) × (Nat → Int32) × Int32 × (Nat → Int32) × Int32 × (Nat → Int32) × Int32 × Int32 => TSw cA a0 aR aM aW aP aS aC aO nW nE R u.1 u.2.1 u.2.2.1 u.2.2.2.1 u.2.2.2.2.1 li u.2.2.2.2.2.1 u.2.2.2.2.2.2.1 u.2.2.2.2.2.2.2.1 u.2.2.2.2.2.2.2.2.1 u.2.2.2.2.2.2.2.2.2)) (va_A (TSw cA a0 aR aM aW aP aS aC aO nW nE R f us P S sc li rc rn ro rd st) sz)) (rw_X (dC, dI) vwCl [(cA, .int)] (va_A (TSw cA a0 aR aM aW aP aS aC aO nW nE R f us P S sc li rc rn ro rd st) sz) (fun u : (Nat → Int32) × Int32 × (Nat → Int32) × (Nat → Int32) × Int32 × (Nat → Int32) × Int32 × (Nat → Int32) × Int32 × Int32 => TSw cA a0 aR aM aW aP aS aC aO nW nE R u.1 u.2.1 u.2.2.1 u.2.2.2.1 u.2.2.2.2.1 li u.2.2.2.2.2.1 u.2.2.2.2.2.2.1 u.2.2.2.2.2.2.2.1 u.2.2.2.2.2.2.2.2.1 u.2.2.2.2.2.2.2.2.2) (fun (E : String) (u : (Nat → Int32) × Int32 × (Nat → Int32) × (Nat → Int32) × Int32 × (Nat → Int32) × Int32 × (Nat → Int32) × Int32 × Int32) => px E u.1 u.2.1 u.2.2.1 u.2.2.2.1 u.2.2.2.2.1 u.2.2.2.2.2.1 u.2.2.2.2.2.2.1 u.2.2.2.2.2.2.2.1 u.2.2.2.2.2.2.2.2.1 u.2.2.2.2.2.2.2.2.2)) 1 6 (va_A (TSw cA a0 aR aM aW aP aS aC aO nW nE R f us P S sc li rc rn ro rd st) sz) := by
  refine vx_ofW (cc := c_T_owners) (maxL := 8) (ret := (some .int)) (by decide) rfl ?_
  intro p e s m args below meth c s₁ B hml hEx hv
  obtain ⟨rfl, hsz, hP, hK, hD0, hXT⟩ := hv
  have hx := B.exec
  have hb := B.bytes
  have hr9 := B.returns
  have hts := atoms_spec (ws := ws_T_owners) B.pre
  have hw : ∀ w ∈ WB_, w.before _ s = true := fun w h => hts w (List.mem_cons_of_mem _ h)
  have hown : s.vm.findClass R_T = some m.cls := findClass_of_methodNamed B.named
  have hlocks := B.notSynchronized
  subst hsz
  have hD := hD0.self (sz := s.heap.size)
  generalize hAe : va_A (TSw cA a0 aR aM aW aP aS aC aO nW nE R f us P S sc li rc rn ro rd st) s.heap.size = A at hD hXT ⊢
  have hA : ∀ q : Nat, s.heap.size ≤ q → A q := fun q h => by rw [← hAe]; exact Or.inr h
  have hS : va_S A s.heap s.heap [] := va_S.rf
  have hl := lv_entry ([.ref a0, .int a1]) (n := 8) (Nat.le_of_ble_eq_true rfl)
  rw [lg_entry_eq]
  generalize (lg_sl ([.ref a0, .int a1]) ++ List.replicate (8 - (lg_sl ([.ref a0, .int a1])).length) Slot.unset).toArray = ls at hl ⊢
  have hl : lv_has ls 8 [(0, .ref a0), (1, .int a1)] := hl
  have lp_45 : ∀ (y1_45 : Int32) (y2_45 : Int32) (y5_45 : Int32) (ff_45 : Nat → Int32) (usf_45 : Int32) (Pf_45 : Nat → Int32) (Sf_45 : Nat → Int32) (scf_45 : Int32) (rcf_45 : Nat → Int32) (rnf_45 : Int32) (rof_45 : Nat → Int32) (rdf_45 : Int32) (stf_45 : Int32) (kx : Int32 → Int32 → Prop), (∀ (z3_45 : Int32) (z6_45 : Int32) (H : Heap) (locs : List Loc) (ls : Array Slot), va_P (dC, dI) vwCl (TSw cA a0 aR aM aW aP aS aC aO nW nE R ff_45 usf_45 Pf_45 Sf_45 scf_45 li rcf_45 rnf_45 rof_45 rdf_45 stf_45) H → va_D A (TSw cA a0 aR aM aW aP aS aC aO nW nE R ff_45 usf_45 Pf_45 Sf_45 scf_45 li rcf_45 rnf_45 rof_45 rdf_45 stf_45) → va_S A s.heap H locs → lv_has ls 8 [(0, .ref a0), (1, .int y1_45), (2, .int y2_45), (3, .int z3_45), (4, .ref aR), (5, .int y5_45), (6, .int z6_45)] → kx z3_45 z6_45 → W p l e (headSpec ws_T_owners ({ frames := 7, cells := 1, slots := 6, locals := 120 })).room s m ([.ref a0, .int a1] : List Value).toArray below meth c H locs 1 6 (vx_MQ below (va_Qi (fun (r : Int32) (u : (Nat → Int32) × Int32 × (Nat → Int32) × (Nat → Int32) × Int32 × (Nat → Int32) × Int32 × (Nat → Int32) × Int32 × Int32) => post r u.1 u.2.1 u.2.2.1 u.2.2.2.1 u.2.2.2.2.1 u.2.2.2.2.2.1 u.2.2.2.2.2.2.1 u.2.2.2.2.2.2.2.1 u.2.2.2.2.2.2.2.2.1 u.2.2.2.2.2.2.2.2.2) (rw_B (dC, dI) vwCl [(cA, .int)] A (fun u : (Nat → Int32) × Int32 × (Nat → Int32) × (Nat → Int32) × Int32 × (Nat → Int32) × Int32 × (Nat → Int32) × Int32 × Int32 => TSw cA a0 aR aM aW aP aS aC aO nW nE R u.1 u.2.1 u.2.2.1 u.2.2.2.1 u.2.2.2.2.1 li u.2.2.2.2.2.1 u.2.2.2.2.2.2.1 u.2.2.2.2.2.2.2.1 u.2.2.2.2.2.2.2.2.1 u.2.2.2.2.2.2.2.2.2)) A) (rw_X (dC, dI) vwCl [(cA, .int)] A (fun u : (Nat → Int32) × Int32 × (Nat → Int32) × (Nat → Int32) × Int32 × (Nat → Int32) × Int32 × (Nat → Int32) × Int32 × Int32 => TSw cA a0 aR aM aW aP aS aC aO nW nE R u.1 u.2.1 u.2.2.1 u.2.2.2.1 u.2.2.2.2.1 li u.2.2.2.2.2.1 u.2.2.2.2.2.2.1 u.2.2.2.2.2.2.2.1 u.2.2.2.2.2.2.2.2.1 u.2.2.2.2.2.2.2.2.2) (fun (E : String) (u : (Nat → Int32) × Int32 × (Nat → Int32) × (Nat → Int32) × Int32 × (Nat → Int32) × Int32 × (Nat → Int32) × Int32 × Int32) => px E u.1 u.2.1 u.2.2.1 u.2.2.2.1 u.2.2.2.2.1 u.2.2.2.2.2.1 u.2.2.2.2.2.2.1 u.2.2.2.2.2.2.2.1 u.2.2.2.2.2.2.2.2.1 u.2.2.2.2.2.2.2.2.2)) ([.ref a0, .int a1] : List Value).toArray s 1 6 A) (F0 m 74 ls [])) → ∀ (n : Nat) (x3_45 : Int32) (x6_45 : Int32) (H : Heap) (locs : List Loc) (ls : Array Slot), va_P (dC, dI) vwCl (TSw cA a0 aR aM aW aP aS aC aO nW nE R ff_45 usf_45 Pf_45 Sf_45 scf_45 li rcf_45 rnf_45 rof_45 rdf_45 stf_45) H → va_D A (TSw cA a0 aR aM aW aP aS aC aO nW nE R ff_45 usf_45 Pf_45 Sf_45 scf_45 li rcf_45 rnf_45 rof_45 rdf_45 stf_45) → va_S A s.heap H locs → lv_has ls 8 [(0, .ref a0), (1, .int y1_45), (2, .int y2_45), (3, .int x3_45), (4, .ref aR), (5, .int y5_45), (6, .int x6_45)] → wqT_owners_45 nW nE R y1_45 y2_45 y5_45 ff_45 usf_45 Pf_45 Sf_45 scf_45 rcf_45 rnf_45 rof_45 rdf_45 stf_45 post px kx n x3_45 x6_45 → W p l e (headSpec ws_T_owners ({ frames := 7, cells := 1, slots := 6, locals := 120 })).room s m ([.ref a0, .int a1] : List Value).toArray below meth c H locs 1 6 (vx_MQ below (va_Qi (fun (r : Int32) (u : (Nat → Int32) × Int32 × (Nat → Int32) × (Nat → Int32) × Int32 × (Nat → Int32) × Int32 × (Nat → Int32) × Int32 × Int32) => post r u.1 u.2.1 u.2.2.1 u.2.2.2.1 u.2.2.2.2.1 u.2.2.2.2.2.1 u.2.2.2.2.2.2.1 u.2.2.2.2.2.2.2.1 u.2.2.2.2.2.2.2.2.1 u.2.2.2.2.2.2.2.2.2) (rw_B (dC, dI) vwCl [(cA, .int)] A (fun u : (Nat → Int32) × Int32 × (Nat → Int32) × (Nat → Int32) × Int32 × (Nat → Int32) × Int32 × (Nat → Int32) × Int32 × Int32 => TSw cA a0 aR aM aW aP aS aC aO nW nE R u.1 u.2.1 u.2.2.1 u.2.2.2.1 u.2.2.2.2.1 li u.2.2.2.2.2.1 u.2.2.2.2.2.2.1 u.2.2.2.2.2.2.2.1 u.2.2.2.2.2.2.2.2.1 u.2.2.2.2.2.2.2.2.2)) A) (rw_X (dC, dI) vwCl [(cA, .int)] A (fun u : (Nat → Int32) × Int32 × (Nat → Int32) × (Nat → Int32) × Int32 × (Nat → Int32) × Int32 × (Nat → Int32) × Int32 × Int32 => TSw cA a0 aR aM aW aP aS aC aO nW nE R u.1 u.2.1 u.2.2.1 u.2.2.2.1 u.2.2.2.2.1 li u.2.2.2.2.2.1 u.2.2.2.2.2.2.1 u.2.2.2.2.2.2.2.1 u.2.2.2.2.2.2.2.2.1 u.2.2.2.2.2.2.2.2.2) (fun (E : String) (u : (Nat → Int32) × Int32 × (Nat → Int32) × (Nat → Int32) × Int32 × (Nat → Int32) × Int32 × (Nat → Int32) × Int32 × Int32) => px E u.1 u.2.1 u.2.2.1 u.2.2.2.1 u.2.2.2.2.1 u.2.2.2.2.2.1 u.2.2.2.2.2.2.1 u.2.2.2.2.2.2.2.1 u.2.2.2.2.2.2.2.2.1 u.2.2.2.2.2.2.2.2.2)) ([.ref a0, .int a1] : List Value).toArray s 1 6 A) (F0 m 45 ls []) := by
    intro y1_45 y2_45 y5_45 ff_45 usf_45 Pf_45 Sf_45 scf_45 rcf_45 rnf_45 rof_45 rdf_45 stf_45 kx K n
    induction n with
    | zero => intro x3_45 x6_45 H locs ls hP hD hS hl h; exact h.elim
    | succ n ih =>
      intro x3_45 x6_45 H locs ls hP hD hS hl h
      refine lv_iload hx hb d_T_owners_45 (lv_at hl 6 rfl) ?_
      refine lv_iload hx hb d_T_owners_47 (lv_at hl 5 rfl) ?_
      refine lv_icmp_ge (tgt := 74) hx hb d_T_owners_49 (by decide) (fun c_49 => ?_) (fun c_49 => ?_)
      · have h := h.1 c_49
        exact K x3_45 x6_45 H locs ls hP hD hS (lv_sub hl [0, 1, 2, 3, 4, 5, 6] rfl) h
      · have h := h.2 c_49
        refine lv_aload hx hb d_T_owners_52 (lv_at hl 4 rfl) ?_
        refine lv_iload hx hb d_T_owners_54 (lv_at hl 6 rfl) ?_
        refine va_iald hx hb hK hP 1 0 rfl rfl h.1 d_T_owners_56 ?_
        have h := h.2
        refine lv_istore (lv' := [(7, .int (R x6_45.toNatClampNeg)), (0, .ref a0), (1, .int y1_45), (2, .int y2_45), (3, .int x3_45), (4, .ref aR), (5, .int y5_45), (6, .int x6_45)]) hx hb d_T_owners_57 hl (by decide) rfl (fun ls hl => ?_)
        refine lv_iload hx hb d_T_owners_59 (lv_at hl 0 rfl) ?_
        refine lv_iload_n hx hb d_T_owners_61 rfl (lv_at hl 3 rfl) ?_
        refine lv_icmp_ne (tgt := 68) hx hb d_T_owners_62 (by decide) (fun c_62 => ?_) (fun c_62 => ?_)
        · have h := h.2 c_62
          refine lv_iinc (v := x6_45 + (1 : Int32)) (lv' := [(6, .int (x6_45 + (1 : Int32))), (7, .int (R x6_45.toNatClampNeg)), (0, .ref a0), (1, .int y1_45), (2, .int y2_45), (3, .int x3_45), (4, .ref aR), (5, .int y5_45)]) hx hb d_T_owners_68 hl (k := 7) rfl rfl (by decide) rfl (fun ls hl => ?_)
          refine lv_goto (tgt := 45) hx hb d_T_owners_71 (by decide) ?_
          exact ih x3_45 (x6_45 + (1 : Int32)) H locs ls hP hD hS (lv_sub hl [2, 3, 4, 5, 6, 7, 0] rfl) h
        · have h := h.1 c_62
          refine lv_iinc (v := x3_45 + (1 : Int32)) (lv' := [(3, .int (x3_45 + (1 : Int32))), (7, .int (R x6_45.toNatClampNeg)), (0, .ref a0), (1, .int y1_45), (2, .int y2_45), (4, .ref aR), (5, .int y5_45), (6, .int x6_45)]) hx hb d_T_owners_65 hl (k := 4) rfl rfl (by decide) rfl (fun ls hl => ?_)
          refine lv_iinc (v := x6_45 + (1 : Int32)) (lv' := [(6, .int (x6_45 + (1 : Int32))), (3, .int (x3_45 + (1 : Int32))), (7, .int (R x6_45.toNatClampNeg)), (0, .ref a0), (1, .int y1_45), (2, .int y2_45), (4, .ref aR), (5, .int y5_45)]) hx hb d_T_owners_68 hl (k := 7) rfl rfl (by decide) rfl (fun ls hl => ?_)
          refine lv_goto (tgt := 45) hx hb d_T_owners_71 (by decide) ?_
          exact ih (x3_45 + (1 : Int32)) (x6_45 + (1 : Int32)) H locs ls hP hD hS (lv_sub hl [3, 4, 5, 1, 6, 7, 0] rfl) h
  unfold wqT_owners at h
  refine lv_iload_n hx hb d_T_owners_0 rfl (lv_at hl 1 rfl) ?_
  refine rx_callv (vx_runS (As := [.int a1]) (rest := []) ⟨hx, hb, hml, hown, hw⟩ (mT_needRegister l hlT sa a1 _ _ h) (va_cwS 1 hw g_T_27 rfl rfl rfl (by decide +kernel) ⟨Nat.le_of_ble_eq_true rfl, Nat.le_of_ble_eq_true rfl⟩) (xs_PS (xt_at hXT hS)) rfl rfl hl.1 rfl (lv_room (Nat.le_of_ble_eq_true rfl)) d_T_owners_1 ⟨Nat.le_of_ble_eq_true rfl, Nat.le_of_ble_eq_true rfl⟩) (fun E9 ce q9 H1 h hz hk hce hcv hcl => ?_) (fun h => ?_)
  · exact rx_out (f, us, P, S, sc, rc, rn, ro, rd, st) rfl hEx hlocks hK hP hD hS h hz hk hce hcv hcl (Nat.le_of_ble_eq_true rfl) (Nat.le_of_ble_eq_true rfl)
  · refine lv_aload_n hx hb d_T_owners_4 rfl (lv_at hl 0 rfl) ?_
    refine va_get (D := (dC, dI)) (ci := 0) (v := .ref aR) (C := R_T) (T := T_T) (N := 2) hx hb hw in_T hown hK hP 0 rfl rfl 0 (by decide) (hw _ wd_98) (fun _ h9 => h9) rfl d_T_owners_5 ?_
    refine lv_iload_n hx hb d_T_owners_8 rfl (lv_at hl 1 rfl) ?_
    refine va_iald hx hb hK hP 1 0 rfl rfl h.1 d_T_owners_9 ?_
    have h := h.2
    refine lv_istore_n (lv' := [(2, .int (R a1.toNatClampNeg)), (0, .ref a0), (1, .int a1)]) hx hb d_T_owners_10 rfl hl (by decide) rfl (fun ls hl => ?_)
    refine lv_aload_n hx hb d_T_owners_11 rfl (lv_at hl 1 rfl) ?_
    refine va_get (D := (dC, dI)) (ci := 0) (v := .ref aM) (C := R_T) (T := T_T) (N := 2) hx hb hw in_T hown hK hP 0 rfl rfl 1 (by decide) (hw _ wd_99) (fun _ h9 => h9) rfl d_T_owners_12 ?_
    refine lv_aload_n hx hb d_T_owners_15 rfl (lv_at hl 1 rfl) ?_
    refine va_get (D := (dC, dI)) (ci := 0) (v := .ref aR) (C := R_T) (T := T_T) (N := 2) hx hb hw in_T hown hK hP 0 rfl rfl 0 (by decide) (hw _ wd_98) (fun _ h9 => h9) rfl d_T_owners_16 ?_
    have hFc := va_free (wc := TSw cA a0 aR aM aW aP aS aC aO nW nE R f us P S sc li rc rn ro rd st) hD hS hA [0, 1, 2, 3, 4, 5, 6, 7] rfl
    refine va_callv (va_runV (As := [.ref aR]) (rest := []) ⟨hx, hb, hml, hown, hw⟩ (mM_settle l dC dI cA a0 aR aM aW aP aS aC aO nW nE s.heap.size R f us P S sc li rc rn ro rd st _ h) (cwV 1 hw g_T_119 rfl rfl rfl (by decide +kernel) ⟨Nat.le_of_ble_eq_true rfl, Nat.le_of_ble_eq_true rfl⟩) (rw_PV (ci := 1) (q0 := 2) hK hP hD rfl rfl) rfl rfl hl.1 rfl (lv_room (Nat.le_of_ble_eq_true rfl)) d_T_owners_19 ⟨Nat.le_of_ble_eq_true rfl, Nat.le_of_ble_eq_true rfl⟩) hS (fun q _ h => hFc q h) hFc (fun u t H locs ht hvm h hB hz1 hk1 hS => ?_)
    obtain ⟨f_19, us_19, P_19, S_19, sc_19, rc_19, rn_19, ro_19, rd_19, st_19⟩ := u
    obtain ⟨hP, hK1, hD1⟩ := hB
    rw [ht] at hP
    have hD := hD1.weaken (fun _ _ _ q => hFc _ q)
    clear hFc hD1 hK1
    try dsimp only at h
    have hP : va_P (dC, dI) vwCl (TSw cA a0 aR aM aW aP aS aC aO nW nE R f_19 us_19 P_19 S_19 sc_19 li rc_19 rn_19 ro_19 rd_19 st_19) H := hP
    have hD : va_D A (TSw cA a0 aR aM aW aP aS aC aO nW nE R f_19 us_19 P_19 S_19 sc_19 li rc_19 rn_19 ro_19 rd_19 st_19) := hD
    refine lv_aload_n hx hb d_T_owners_22 rfl (lv_at hl 1 rfl) ?_
    refine va_get (D := (dC, dI)) (ci := 0) (v := .ref aM) (C := R_T) (T := T_T) (N := 2) hx hb hw in_T hown hK hP 0 rfl rfl 1 (by decide) (hw _ wd_99) (fun _ h9 => h9) rfl d_T_owners_23 ?_
    refine lv_iload_n hx hb d_T_owners_26 rfl (lv_at hl 0 rfl) ?_
    refine rq_calli (W.runV (As := [.int (R a1.toNatClampNeg)]) (rest := []) ⟨hx, hb, hml, hown, hw⟩ (mM_countHolders l dC dI cA a0 aR aM aW aP aS aC aO nW nE R f_19 us_19 P_19 S_19 sc_19 li rc_19 rn_19 ro_19 rd_19 st_19 (R a1.toNatClampNeg) _ h) (cwV 1 hw g_T_136 rfl rfl rfl (by decide +kernel) ⟨Nat.le_of_ble_eq_true rfl, Nat.le_of_ble_eq_true rfl⟩) (ro_PV (ci := 1) (q0 := 2) hK hP rfl rfl) rfl rfl hl.1 rfl (lv_room (Nat.le_of_ble_eq_true rfl)) d_T_owners_27 ⟨Nat.le_of_ble_eq_true rfl, Nat.le_of_ble_eq_true rfl⟩) (fun r27 h => ?_)
    refine lv_istore_n (lv' := [(3, .int r27), (2, .int (R a1.toNatClampNeg)), (0, .ref a0), (1, .int a1)]) hx hb d_T_owners_30 rfl hl (by decide) rfl (fun ls hl => ?_)
    refine lv_aload_n hx hb d_T_owners_31 rfl (lv_at hl 2 rfl) ?_
    refine va_get (D := (dC, dI)) (ci := 0) (v := .ref aR) (C := R_T) (T := T_T) (N := 2) hx hb hw in_T hown hK hP 0 rfl rfl 0 (by decide) (hw _ wd_98) (fun _ h9 => h9) rfl d_T_owners_32 ?_
    refine lv_astore (lv' := [(4, .ref aR), (3, .int r27), (2, .int (R a1.toNatClampNeg)), (0, .ref a0), (1, .int a1)]) hx hb d_T_owners_35 hl (by decide) rfl (fun ls hl => ?_)
    refine lv_aload hx hb d_T_owners_37 (lv_at hl 0 rfl) ?_
    refine va_alen (v := nI 32) hx hb hK hP 1 0 rfl rfl rfl d_T_owners_39 ?_
    refine lv_istore (lv' := [(5, .int (nI 32)), (4, .ref aR), (3, .int r27), (2, .int (R a1.toNatClampNeg)), (0, .ref a0), (1, .int a1)]) hx hb d_T_owners_40 hl (by decide) rfl (fun ls hl => ?_)
    refine lv_iconst (v := (0 : Int32)) hx hb d_T_owners_42 (by decide) ?_
    refine lv_istore (lv' := [(6, .int (0 : Int32)), (5, .int (nI 32)), (4, .ref aR), (3, .int r27), (2, .int (R a1.toNatClampNeg)), (0, .ref a0), (1, .int a1)]) hx hb d_T_owners_43 hl (by decide) rfl (fun ls hl => ?_)
    obtain ⟨n_45, h⟩ := h
    refine lp_45 a1 (R a1.toNatClampNeg) (nI 32) f_19 us_19 P_19 S_19 sc_19 rc_19 rn_19 ro_19 rd_19 st_19 _ (fun z3_45 z6_45 H locs ls hP hD hS hl h => ?_) n_45 r27 (0 : Int32) H locs ls hP hD hS (lv_sub hl [5, 6, 4, 3, 2, 1, 0] rfl) h
    refine lv_iload_n hx hb d_T_owners_74 rfl (lv_at hl 3 rfl) ?_
    refine W.widen (k := 1) (n := 6) (Nat.le_of_ble_eq_true rfl) (Nat.le_of_ble_eq_true rfl) ?_
    exact vx_ret (W.iret (v := z3_45) hx hb hr9 (fun t ht hW => ⟨⟨_, (f_19, us_19, P_19, S_19, sc_19, rc_19, rn_19, ro_19, rd_19, st_19), rfl, h, by rw [ht]; exact hP, va_K.moved hW.alike hK, hD⟩, hS.F ht⟩) hS.2.2 d_T_owners_75)
def wqT_reaches (nW : Nat) (nE : Nat) (R : Nat → Int32) (f : Nat → Int32) (P : Nat → Int32) (rc : Nat → Int32) (rn : Int32) (ro : Nat → Int32) (rd : Int32) (a1 : Int32) (a2 : Int32) (post : Int32 → (Nat → Int32) → Int32 → (Nat → Int32) → Int32 → Prop) (px : String → (Nat → Int32) → Int32 → (Nat → Int32) → Int32 → Prop) : Prop :=
  wqT_needObject nW nE R a1 (wqT_needObject nW nE R a2 (vp_in a1 32 ∧ (vp_in a2 32 ∧ (wqM_leadsTo nW nE f P rc rn ro rd (R a1.toNatClampNeg) (R a2.toNatClampNeg) (fun r26 rc_26 rn_26 ro_26 rd_26 => narrow .boolean (.int r26) = .int r26 ∧ post r26 rc_26 rn_26 ro_26 rd_26)))) (fun E => px E rc rn ro rd)) (fun E => px E rc rn ro rd)
set_option maxHeartbeats 4000000 in
set_option maxRecDepth 100000 in
theorem mT_reaches (l : Launch) (hlT : l.stackTraces = false) (sa : Nat → Nat) (dC : Nat → ClassId) (dI : Nat → Nat → Nat) (cA : ClassId) (a0 : Nat) (aR : Nat) (aM : Nat) (aW : Nat) (aP : Nat) (aS : Nat) (aC : Nat) (aO : Nat) (nW : Nat) (nE : Nat) (sz : Nat) (R : Nat → Int32) (f : Nat → Int32) (us : Int32) (P : Nat → Int32) (S : Nat → Int32) (sc : Int32) (li : Int32) (rc : Nat → Int32) (rn : Int32) (ro : Nat → Int32) (rd : Int32) (st : Int32) (a1 : Int32) (a2 : Int32) (post : Int32 → (Nat → Int32) → Int32 → (Nat → Int32) → Int32 → Prop) (px : String → (Nat → Int32) → Int32 → (Nat → Int32) → Int32 → Prop) (h : wqT_reaches nW nE R f P rc rn ro rd a1 a2 post px) : vx_Met l y_T_reaches ws_T_reaches ({ frames := 8, cells := 4, slots := 24, locals := 141 }) (xw_P (dC, dI) vwCl (TSw cA a0 aR aM aW aP aS aC aO nW nE R f us P S sc li rc rn ro rd st) [(cA, .int)] sz sa [.ref a0, .int a1, .int a2]) (va_Qi (fun (r : Int32) (u : (Nat → Int32) × Int32 × (Nat → Int32) × Int32) => post r u.1 u.2.1 u.2.2.1 u.2.2.2) (rw_B (dC, dI) vwCl [(cA, .int)] (va_A (TSw cA a0 aR aM aW aP aS aC aO nW nE R f us P S sc li rc rn ro rd st) sz) (fun u : (Nat → Int32) × Int32 × (Nat → Int32) × Int32 => TSw cA a0 aR aM aW aP aS aC aO nW nE R f us P S sc li u.1 u.2.1 u.2.2.1 u.2.2.2 st)) (va_A (TSw cA a0 aR aM aW aP aS aC aO nW nE R f us P S sc li rc rn ro rd st) sz)) (rw_X (dC, dI) vwCl [(cA, .int)] (va_A (TSw cA a0 aR aM aW aP aS aC aO nW nE R f us P S sc li rc rn ro rd st) sz) (fun u : (Nat → Int32) × Int32 × (Nat → Int32) × Int32 => TSw cA a0 aR aM aW aP aS aC aO nW nE R f us P S sc li u.1 u.2.1 u.2.2.1 u.2.2.2 st) (fun (E : String) (u : (Nat → Int32) × Int32 × (Nat → Int32) × Int32) => px E u.1 u.2.1 u.2.2.1 u.2.2.2)) 4 24 (va_A (TSw cA a0 aR aM aW aP aS aC aO nW nE R f us P S sc li rc rn ro rd st) sz) := by
  refine vx_ofW (cc := c_T_reaches) (maxL := 3) (ret := (some .boolean)) (by decide) rfl ?_
  intro p e s m args below meth c s₁ B hml hEx hv
  obtain ⟨rfl, hsz, hP, hK, hD0, hXT⟩ := hv
  have hx := B.exec
  have hb := B.bytes
  have hr9 := B.returns
  have hts := atoms_spec (ws := ws_T_reaches) B.pre
  have hw : ∀ w ∈ WB_, w.before _ s = true := fun w h => hts w (List.mem_cons_of_mem _ h)
  have hown : s.vm.findClass R_T = some m.cls := findClass_of_methodNamed B.named
  have hlocks := B.notSynchronized
  subst hsz
  have hD := hD0.self (sz := s.heap.size)
  generalize hAe : va_A (TSw cA a0 aR aM aW aP aS aC aO nW nE R f us P S sc li rc rn ro rd st) s.heap.size = A at hD hXT ⊢
  have hA : ∀ q : Nat, s.heap.size ≤ q → A q := fun q h => by rw [← hAe]; exact Or.inr h
  have hS : va_S A s.heap s.heap [] := va_S.rf
  have hl := lv_entry ([.ref a0, .int a1, .int a2]) (n := 3) (Nat.le_of_ble_eq_true rfl)
  rw [lg_entry_eq]
  generalize (lg_sl ([.ref a0, .int a1, .int a2]) ++ List.replicate (3 - (lg_sl ([.ref a0, .int a1, .int a2])).length) Slot.unset).toArray = ls at hl ⊢
  have hl : lv_has ls 3 [(0, .ref a0), (1, .int a1), (2, .int a2)] := hl
  unfold wqT_reaches at h
  refine lv_aload_n hx hb d_T_reaches_0 rfl (lv_at hl 0 rfl) ?_
  refine lv_iload_n hx hb d_T_reaches_1 rfl (lv_at hl 1 rfl) ?_
  refine rx_callv (vx_runV (As := [.int a1]) (rest := []) ⟨hx, hb, hml, hown, hw⟩ (mT_needObject l hlT sa dC dI cA a0 aR aM aW aP aS aC aO nW nE R f us P S sc li rc rn ro rd st a1 _ _ h) (cwV 1 hw g_T_60 rfl rfl rfl (by decide +kernel) ⟨Nat.le_of_ble_eq_true rfl, Nat.le_of_ble_eq_true rfl⟩) (xo_PV (ci := 0) (q0 := 0) hK hP (xt_at hXT hS) rfl rfl) rfl rfl hl.1 rfl (lv_room (Nat.le_of_ble_eq_true rfl)) d_T_reaches_2 ⟨Nat.le_of_ble_eq_true rfl, Nat.le_of_ble_eq_true rfl⟩) (fun E9 ce q9 H1 h hz hk hce hcv hcl => ?_) (fun h => ?_)
  · exact rx_out (rc, rn, ro, rd) rfl hEx hlocks hK hP hD hS h hz hk hce hcv hcl (Nat.le_of_ble_eq_true rfl) (Nat.le_of_ble_eq_true rfl)
  · refine lv_aload_n hx hb d_T_reaches_5 rfl (lv_at hl 0 rfl) ?_
    refine lv_iload_n hx hb d_T_reaches_6 rfl (lv_at hl 2 rfl) ?_
    refine rx_callv (vx_runV (As := [.int a2]) (rest := []) ⟨hx, hb, hml, hown, hw⟩ (mT_needObject l hlT sa dC dI cA a0 aR aM aW aP aS aC aO nW nE R f us P S sc li rc rn ro rd st a2 _ _ h) (cwV 1 hw g_T_60 rfl rfl rfl (by decide +kernel) ⟨Nat.le_of_ble_eq_true rfl, Nat.le_of_ble_eq_true rfl⟩) (xo_PV (ci := 0) (q0 := 0) hK hP (xt_at hXT hS) rfl rfl) rfl rfl hl.1 rfl (lv_room (Nat.le_of_ble_eq_true rfl)) d_T_reaches_7 ⟨Nat.le_of_ble_eq_true rfl, Nat.le_of_ble_eq_true rfl⟩) (fun E9 ce q9 H1 h hz hk hce hcv hcl => ?_) (fun h => ?_)
    · exact rx_out (rc, rn, ro, rd) rfl hEx hlocks hK hP hD hS h hz hk hce hcv hcl (Nat.le_of_ble_eq_true rfl) (Nat.le_of_ble_eq_true rfl)
    · refine lv_aload_n hx hb d_T_reaches_10 rfl (lv_at hl 0 rfl) ?_
      refine va_get (D := (dC, dI)) (ci := 0) (v := .ref aM) (C := R_T) (T := T_T) (N := 2) hx hb hw in_T hown hK hP 0 rfl rfl 1 (by decide) (hw _ wd_99) (fun _ h9 => h9) rfl d_T_reaches_11 ?_
      refine lv_aload_n hx hb d_T_reaches_14 rfl (lv_at hl 0 rfl) ?_
      refine va_get (D := (dC, dI)) (ci := 0) (v := .ref aR) (C := R_T) (T := T_T) (N := 2) hx hb hw in_T hown hK hP 0 rfl rfl 0 (by decide) (hw _ wd_98) (fun _ h9 => h9) rfl d_T_reaches_15 ?_
      refine lv_iload_n hx hb d_T_reaches_18 rfl (lv_at hl 1 rfl) ?_
      refine va_iald hx hb hK hP 1 0 rfl rfl h.1 d_T_reaches_19 ?_
      have h := h.2
      refine lv_aload_n hx hb d_T_reaches_20 rfl (lv_at hl 0 rfl) ?_
      refine va_get (D := (dC, dI)) (ci := 0) (v := .ref aR) (C := R_T) (T := T_T) (N := 2) hx hb hw in_T hown hK hP 0 rfl rfl 0 (by decide) (hw _ wd_98) (fun _ h9 => h9) rfl d_T_reaches_21 ?_
      refine lv_iload_n hx hb d_T_reaches_24 rfl (lv_at hl 2 rfl) ?_
      refine va_iald hx hb hK hP 1 0 rfl rfl h.1 d_T_reaches_25 ?_
      have h := h.2
      have hFc := va_free (wc := TSw cA a0 aR aM aW aP aS aC aO nW nE R f us P S sc li rc rn ro rd st) hD hS hA [0, 1, 2, 3, 4, 5, 6, 7] rfl
      refine va_calli (va_runV (As := [.int (R a1.toNatClampNeg), .int (R a2.toNatClampNeg)]) (rest := []) ⟨hx, hb, hml, hown, hw⟩ (mM_leadsTo l dC dI cA a0 aR aM aW aP aS aC aO nW nE s.heap.size R f us P S sc li rc rn ro rd st (R a1.toNatClampNeg) (R a2.toNatClampNeg) _ h) (cwV 2 hw g_T_139 rfl rfl rfl (by decide +kernel) ⟨Nat.le_of_ble_eq_true rfl, Nat.le_of_ble_eq_true rfl⟩) (rw_PV (ci := 1) (q0 := 2) hK hP hD rfl rfl) rfl rfl hl.1 rfl (lv_room (Nat.le_of_ble_eq_true rfl)) d_T_reaches_26 ⟨Nat.le_of_ble_eq_true rfl, Nat.le_of_ble_eq_true rfl⟩) hS (fun q _ h => hFc q h) hFc (fun r26 u t H locs ht hvm h hB hz1 hk1 hS => ?_)
      obtain ⟨rc_26, rn_26, ro_26, rd_26⟩ := u
      obtain ⟨hP, hK1, hD1⟩ := hB
      rw [ht] at hP
      have hD := hD1.weaken (fun _ _ _ q => hFc _ q)
      clear hFc hD1 hK1
      try dsimp only at h
      have hP : va_P (dC, dI) vwCl (TSw cA a0 aR aM aW aP aS aC aO nW nE R f us P S sc li rc_26 rn_26 ro_26 rd_26 st) H := hP
      have hD : va_D A (TSw cA a0 aR aM aW aP aS aC aO nW nE R f us P S sc li rc_26 rn_26 ro_26 rd_26 st) := hD
      refine W.widen (k := 4) (n := 24) (Nat.le_of_ble_eq_true rfl) (Nat.le_of_ble_eq_true rfl) ?_
      exact vx_ret (W.zret (v := r26) (ty := .boolean) hx hb hr9 h.1 (fun t ht hW => ⟨⟨_, (rc_26, rn_26, ro_26, rd_26), rfl, h.2, by rw [ht]; exact hP, va_K.moved hW.alike hK, hD⟩, hS.F ht⟩) hS.2.2 d_T_reaches_29)
def wqT_sum_40 (nW : Nat) (nE : Nat) (R : Nat → Int32) (f : Nat → Int32) (P : Nat → Int32) (y1_40 : Int32) (y2_40 : Int32) (y4_40 : Int32) (post : Int32 → Prop) (px : String → Prop) (kx : Int32 → Int32 → Prop) : Nat → Int32 → Int32 → Prop
  | 0, _, _ => False
  | n + 1, x3_40, x5_40 =>
    (y4_40 ≤ x5_40 → (kx x3_40 x5_40)) ∧ (¬ (y4_40 ≤ x5_40) → (wqM_oneByte nW nE f P y2_40 x5_40 (fun r58 => wqT_sum_40 nW nE R f P y1_40 y2_40 y4_40 post px kx n (((31 : Int32) * x3_40) + r58) (x5_40 + (1 : Int32)))))
def wqT_sum (nW : Nat) (nE : Nat) (R : Nat → Int32) (f : Nat → Int32) (P : Nat → Int32) (a1 : Int32) (post : Int32 → Prop) (px : String → Prop) : Prop :=
  wqT_needRegister a1 (vp_in a1 32 ∧ (wqM_holdsBytes nW nE f P (R a1.toNatClampNeg) (fun r16 => (r16 = 0 → (post (0 : Int32))) ∧ (¬ (r16 = 0) → (wqM_count nW nE f P (R a1.toNatClampNeg) (fun r32 => ∃ k_40, wqT_sum_40 nW nE R f P a1 (R a1.toNatClampNeg) r32 post px (fun z3_40 z5_40 => post z3_40) k_40 (7 : Int32) (0 : Int32))))))) (fun E => px E)
set_option maxHeartbeats 4000000 in
set_option maxRecDepth 100000 in
theorem mT_sum (l : Launch) (hlT : l.stackTraces = false) (sa : Nat → Nat) (dC : Nat → ClassId) (dI : Nat → Nat → Nat) (cA : ClassId) (a0 : Nat) (aR : Nat) (aM : Nat) (aW : Nat) (aP : Nat) (aS : Nat) (aC : Nat) (aO : Nat) (nW : Nat) (nE : Nat) (sz : Nat) (R : Nat → Int32) (f : Nat → Int32) (us : Int32) (P : Nat → Int32) (S : Nat → Int32) (sc : Int32) (li : Int32) (rc : Nat → Int32) (rn : Int32) (ro : Nat → Int32) (rd : Int32) (st : Int32) (a1 : Int32) (post : Int32 → Prop) (px : String → Prop) (h : wqT_sum nW nE R f P a1 post px) : vx_Met l y_T_sum ws_T_sum ({ frames := 7, cells := 1, slots := 6, locals := 120 }) (xw_P (dC, dI) vwCl (TSw cA a0 aR aM aW aP aS aC aO nW nE R f us P S sc li rc rn ro rd st) [(cA, .int)] sz sa [.ref a0, .int a1]) (va_Qi (fun (r : Int32) (u : Unit) => post r) (rw_B (dC, dI) vwCl [(cA, .int)] (va_A (TSw cA a0 aR aM aW aP aS aC aO nW nE R f us P S sc li rc rn ro rd st) sz) (fun u : Unit => TSw cA a0 aR aM aW aP aS aC aO nW nE R f us P S sc li rc rn ro rd st)) (va_A (TSw cA a0 aR aM aW aP aS aC aO nW nE R f us P S sc li rc rn ro rd st) sz)) (rw_X (dC, dI) vwCl [(cA, .int)] (va_A (TSw cA a0 aR aM aW aP aS aC aO nW nE R f us P S sc li rc rn ro rd st) sz) (fun u : Unit => TSw cA a0 aR aM aW aP aS aC aO nW nE R f us P S sc li rc rn ro rd st) (fun (E : String) (u : Unit) => px E)) 1 6 (va_A (TSw cA a0 aR aM aW aP aS aC aO nW nE R f us P S sc li rc rn ro rd st) sz) := by
  refine vx_ofW (cc := c_T_sum) (maxL := 6) (ret := (some .int)) (by decide) rfl ?_
  intro p e s m args below meth c s₁ B hml hEx hv
  obtain ⟨rfl, hsz, hP, hK, hD0, hXT⟩ := hv
  have hx := B.exec
  have hb := B.bytes
  have hr9 := B.returns
  have hts := atoms_spec (ws := ws_T_sum) B.pre
  have hw : ∀ w ∈ WB_, w.before _ s = true := fun w h => hts w (List.mem_cons_of_mem _ h)
  have hown : s.vm.findClass R_T = some m.cls := findClass_of_methodNamed B.named
  have hlocks := B.notSynchronized
  subst hsz
  have hD := hD0.self (sz := s.heap.size)
  generalize hAe : va_A (TSw cA a0 aR aM aW aP aS aC aO nW nE R f us P S sc li rc rn ro rd st) s.heap.size = A at hD hXT ⊢
  have hA : ∀ q : Nat, s.heap.size ≤ q → A q := fun q h => by rw [← hAe]; exact Or.inr h
  have hS : va_S A s.heap s.heap [] := va_S.rf
  have hl := lv_entry ([.ref a0, .int a1]) (n := 6) (Nat.le_of_ble_eq_true rfl)
  rw [lg_entry_eq]
  generalize (lg_sl ([.ref a0, .int a1]) ++ List.replicate (6 - (lg_sl ([.ref a0, .int a1])).length) Slot.unset).toArray = ls at hl ⊢
  have hl : lv_has ls 6 [(0, .ref a0), (1, .int a1)] := hl
  have lp_40 : ∀ (y1_40 : Int32) (y2_40 : Int32) (y4_40 : Int32) (kx : Int32 → Int32 → Prop), (∀ (z3_40 : Int32) (z5_40 : Int32) (H : Heap) (locs : List Loc) (ls : Array Slot), va_P (dC, dI) vwCl (TSw cA a0 aR aM aW aP aS aC aO nW nE R f us P S sc li rc rn ro rd st) H → va_D A (TSw cA a0 aR aM aW aP aS aC aO nW nE R f us P S sc li rc rn ro rd st) → va_S A s.heap H locs → lv_has ls 6 [(0, .ref a0), (1, .int y1_40), (2, .int y2_40), (3, .int z3_40), (4, .int y4_40), (5, .int z5_40)] → kx z3_40 z5_40 → W p l e (headSpec ws_T_sum ({ frames := 7, cells := 1, slots := 6, locals := 120 })).room s m ([.ref a0, .int a1] : List Value).toArray below meth c H locs 1 6 (vx_MQ below (va_Qi (fun (r : Int32) (u : Unit) => post r) (rw_B (dC, dI) vwCl [(cA, .int)] A (fun u : Unit => TSw cA a0 aR aM aW aP aS aC aO nW nE R f us P S sc li rc rn ro rd st)) A) (rw_X (dC, dI) vwCl [(cA, .int)] A (fun u : Unit => TSw cA a0 aR aM aW aP aS aC aO nW nE R f us P S sc li rc rn ro rd st) (fun (E : String) (u : Unit) => px E)) ([.ref a0, .int a1] : List Value).toArray s 1 6 A) (F0 m 69 ls [])) → ∀ (n : Nat) (x3_40 : Int32) (x5_40 : Int32) (H : Heap) (locs : List Loc) (ls : Array Slot), va_P (dC, dI) vwCl (TSw cA a0 aR aM aW aP aS aC aO nW nE R f us P S sc li rc rn ro rd st) H → va_D A (TSw cA a0 aR aM aW aP aS aC aO nW nE R f us P S sc li rc rn ro rd st) → va_S A s.heap H locs → lv_has ls 6 [(0, .ref a0), (1, .int y1_40), (2, .int y2_40), (3, .int x3_40), (4, .int y4_40), (5, .int x5_40)] → wqT_sum_40 nW nE R f P y1_40 y2_40 y4_40 post px kx n x3_40 x5_40 → W p l e (headSpec ws_T_sum ({ frames := 7, cells := 1, slots := 6, locals := 120 })).room s m ([.ref a0, .int a1] : List Value).toArray below meth c H locs 1 6 (vx_MQ below (va_Qi (fun (r : Int32) (u : Unit) => post r) (rw_B (dC, dI) vwCl [(cA, .int)] A (fun u : Unit => TSw cA a0 aR aM aW aP aS aC aO nW nE R f us P S sc li rc rn ro rd st)) A) (rw_X (dC, dI) vwCl [(cA, .int)] A (fun u : Unit => TSw cA a0 aR aM aW aP aS aC aO nW nE R f us P S sc li rc rn ro rd st) (fun (E : String) (u : Unit) => px E)) ([.ref a0, .int a1] : List Value).toArray s 1 6 A) (F0 m 40 ls []) := by
    intro y1_40 y2_40 y4_40 kx K n
    induction n with
    | zero => intro x3_40 x5_40 H locs ls hP hD hS hl h; exact h.elim
    | succ n ih =>
      intro x3_40 x5_40 H locs ls hP hD hS hl h
      refine lv_iload hx hb d_T_sum_40 (lv_at hl 5 rfl) ?_
      refine lv_iload hx hb d_T_sum_42 (lv_at hl 4 rfl) ?_
      refine lv_icmp_ge (tgt := 69) hx hb d_T_sum_44 (by decide) (fun c_44 => ?_) (fun c_44 => ?_)
      · have h := h.1 c_44
        exact K x3_40 x5_40 H locs ls hP hD hS (lv_sub hl [0, 1, 2, 3, 4, 5] rfl) h
      · have h := h.2 c_44
        refine lv_bipush (v := (31 : Int32)) hx hb d_T_sum_47 (by decide) ?_
        refine lv_iload_n hx hb d_T_sum_49 rfl (lv_at hl 3 rfl) ?_
        refine lv_imul hx hb d_T_sum_50 ?_
        refine lv_aload_n hx hb d_T_sum_51 rfl (lv_at hl 0 rfl) ?_
        refine va_get (D := (dC, dI)) (ci := 0) (v := .ref aM) (C := R_T) (T := T_T) (N := 2) hx hb hw in_T hown hK hP 0 rfl rfl 1 (by decide) (hw _ wd_99) (fun _ h9 => h9) rfl d_T_sum_52 ?_
        refine lv_iload_n hx hb d_T_sum_55 rfl (lv_at hl 2 rfl) ?_
        refine lv_iload hx hb d_T_sum_56 (lv_at hl 5 rfl) ?_
        refine rq_calli (W.runV (As := [.int y2_40, .int x5_40]) (rest := [.int ((31 : Int32) * x3_40)]) ⟨hx, hb, hml, hown, hw⟩ (mM_oneByte l dC dI cA a0 aR aM aW aP aS aC aO nW nE R f us P S sc li rc rn ro rd st y2_40 x5_40 _ h) (cwV 2 hw g_T_96 rfl rfl rfl (by decide +kernel) ⟨Nat.le_of_ble_eq_true rfl, Nat.le_of_ble_eq_true rfl⟩) (ro_PV (ci := 1) (q0 := 2) hK hP rfl rfl) rfl rfl hl.1 rfl (lv_room (Nat.le_of_ble_eq_true rfl)) d_T_sum_58 ⟨Nat.le_of_ble_eq_true rfl, Nat.le_of_ble_eq_true rfl⟩) (fun r58 h => ?_)
        refine lv_iadd hx hb d_T_sum_61 ?_
        refine lv_istore_n (lv' := [(3, .int (((31 : Int32) * x3_40) + r58)), (0, .ref a0), (1, .int y1_40), (2, .int y2_40), (4, .int y4_40), (5, .int x5_40)]) hx hb d_T_sum_62 rfl hl (by decide) rfl (fun ls hl => ?_)
        refine lv_iinc (v := x5_40 + (1 : Int32)) (lv' := [(5, .int (x5_40 + (1 : Int32))), (3, .int (((31 : Int32) * x3_40) + r58)), (0, .ref a0), (1, .int y1_40), (2, .int y2_40), (4, .int y4_40)]) hx hb d_T_sum_63 hl (k := 5) rfl rfl (by decide) rfl (fun ls hl => ?_)
        refine lv_goto (tgt := 40) hx hb d_T_sum_66 (by decide) ?_
        exact ih (((31 : Int32) * x3_40) + r58) (x5_40 + (1 : Int32)) H locs ls hP hD hS (lv_sub hl [2, 3, 4, 1, 5, 0] rfl) h
  unfold wqT_sum at h
  refine lv_iload_n hx hb d_T_sum_0 rfl (lv_at hl 1 rfl) ?_
  refine rx_callv (vx_runS (As := [.int a1]) (rest := []) ⟨hx, hb, hml, hown, hw⟩ (mT_needRegister l hlT sa a1 _ _ h) (va_cwS 1 hw g_T_27 rfl rfl rfl (by decide +kernel) ⟨Nat.le_of_ble_eq_true rfl, Nat.le_of_ble_eq_true rfl⟩) (xs_PS (xt_at hXT hS)) rfl rfl hl.1 rfl (lv_room (Nat.le_of_ble_eq_true rfl)) d_T_sum_1 ⟨Nat.le_of_ble_eq_true rfl, Nat.le_of_ble_eq_true rfl⟩) (fun E9 ce q9 H1 h hz hk hce hcv hcl => ?_) (fun h => ?_)
  · exact rx_out () rfl hEx hlocks hK hP hD hS h hz hk hce hcv hcl (Nat.le_of_ble_eq_true rfl) (Nat.le_of_ble_eq_true rfl)
  · refine lv_aload_n hx hb d_T_sum_4 rfl (lv_at hl 0 rfl) ?_
    refine va_get (D := (dC, dI)) (ci := 0) (v := .ref aR) (C := R_T) (T := T_T) (N := 2) hx hb hw in_T hown hK hP 0 rfl rfl 0 (by decide) (hw _ wd_98) (fun _ h9 => h9) rfl d_T_sum_5 ?_
    refine lv_iload_n hx hb d_T_sum_8 rfl (lv_at hl 1 rfl) ?_
    refine va_iald hx hb hK hP 1 0 rfl rfl h.1 d_T_sum_9 ?_
    have h := h.2
    refine lv_istore_n (lv' := [(2, .int (R a1.toNatClampNeg)), (0, .ref a0), (1, .int a1)]) hx hb d_T_sum_10 rfl hl (by decide) rfl (fun ls hl => ?_)
    refine lv_aload_n hx hb d_T_sum_11 rfl (lv_at hl 1 rfl) ?_
    refine va_get (D := (dC, dI)) (ci := 0) (v := .ref aM) (C := R_T) (T := T_T) (N := 2) hx hb hw in_T hown hK hP 0 rfl rfl 1 (by decide) (hw _ wd_99) (fun _ h9 => h9) rfl d_T_sum_12 ?_
    refine lv_iload_n hx hb d_T_sum_15 rfl (lv_at hl 0 rfl) ?_
    refine rq_calli (W.runV (As := [.int (R a1.toNatClampNeg)]) (rest := []) ⟨hx, hb, hml, hown, hw⟩ (mM_holdsBytes l dC dI cA a0 aR aM aW aP aS aC aO nW nE R f us P S sc li rc rn ro rd st (R a1.toNatClampNeg) _ h) (cwV 1 hw g_T_143 rfl rfl rfl (by decide +kernel) ⟨Nat.le_of_ble_eq_true rfl, Nat.le_of_ble_eq_true rfl⟩) (ro_PV (ci := 1) (q0 := 2) hK hP rfl rfl) rfl rfl hl.1 rfl (lv_room (Nat.le_of_ble_eq_true rfl)) d_T_sum_16 ⟨Nat.le_of_ble_eq_true rfl, Nat.le_of_ble_eq_true rfl⟩) (fun r16 h => ?_)
    refine lv_if_ne (tgt := 24) hx hb d_T_sum_19 (by decide) (fun c_19 => ?_) (fun c_19 => ?_)
    · have h := h.2 c_19
      refine lv_bipush (v := (7 : Int32)) hx hb d_T_sum_24 (by decide) ?_
      refine lv_istore_n (lv' := [(3, .int (7 : Int32)), (2, .int (R a1.toNatClampNeg)), (0, .ref a0), (1, .int a1)]) hx hb d_T_sum_26 rfl hl (by decide) rfl (fun ls hl => ?_)
      refine lv_aload_n hx hb d_T_sum_27 rfl (lv_at hl 2 rfl) ?_
      refine va_get (D := (dC, dI)) (ci := 0) (v := .ref aM) (C := R_T) (T := T_T) (N := 2) hx hb hw in_T hown hK hP 0 rfl rfl 1 (by decide) (hw _ wd_99) (fun _ h9 => h9) rfl d_T_sum_28 ?_
      refine lv_iload_n hx hb d_T_sum_31 rfl (lv_at hl 1 rfl) ?_
      refine rq_calli (W.runV (As := [.int (R a1.toNatClampNeg)]) (rest := []) ⟨hx, hb, hml, hown, hw⟩ (mM_count l dC dI cA a0 aR aM aW aP aS aC aO nW nE R f us P S sc li rc rn ro rd st (R a1.toNatClampNeg) _ h) (cwV 1 hw g_T_84 rfl rfl rfl (by decide +kernel) ⟨Nat.le_of_ble_eq_true rfl, Nat.le_of_ble_eq_true rfl⟩) (ro_PV (ci := 1) (q0 := 2) hK hP rfl rfl) rfl rfl hl.1 rfl (lv_room (Nat.le_of_ble_eq_true rfl)) d_T_sum_32 ⟨Nat.le_of_ble_eq_true rfl, Nat.le_of_ble_eq_true rfl⟩) (fun r32 h => ?_)
      refine lv_istore (lv' := [(4, .int r32), (3, .int (7 : Int32)), (2, .int (R a1.toNatClampNeg)), (0, .ref a0), (1, .int a1)]) hx hb d_T_sum_35 hl (by decide) rfl (fun ls hl => ?_)
      refine lv_iconst (v := (0 : Int32)) hx hb d_T_sum_37 (by decide) ?_
      refine lv_istore (lv' := [(5, .int (0 : Int32)), (4, .int r32), (3, .int (7 : Int32)), (2, .int (R a1.toNatClampNeg)), (0, .ref a0), (1, .int a1)]) hx hb d_T_sum_38 hl (by decide) rfl (fun ls hl => ?_)
      obtain ⟨n_40, h⟩ := h
      refine lp_40 a1 (R a1.toNatClampNeg) r32 _ (fun z3_40 z5_40 H locs ls hP hD hS hl h => ?_) n_40 (7 : Int32) (0 : Int32) s.heap [] ls hP hD hS (lv_sub hl [4, 5, 3, 2, 1, 0] rfl) h
      refine lv_iload_n hx hb d_T_sum_69 rfl (lv_at hl 3 rfl) ?_
      refine W.widen (k := 1) (n := 6) (Nat.le_of_ble_eq_true rfl) (Nat.le_of_ble_eq_true rfl) ?_
      exact vx_ret (W.iret (v := z3_40) hx hb hr9 (fun t ht hW => ⟨⟨_, (), rfl, h, by rw [ht]; exact hP, va_K.moved hW.alike hK, hD⟩, hS.F ht⟩) hS.2.2 d_T_sum_70)
    · have h := h.1 c_19
      refine lv_iconst (v := (0 : Int32)) hx hb d_T_sum_22 (by decide) ?_
      refine W.widen (k := 1) (n := 6) (Nat.le_of_ble_eq_true rfl) (Nat.le_of_ble_eq_true rfl) ?_
      exact vx_ret (W.iret (v := (0 : Int32)) hx hb hr9 (fun t ht hW => ⟨⟨_, (), rfl, h, by rw [ht]; exact hP, va_K.moved hW.alike hK, hD⟩, hS.F ht⟩) hS.2.2 d_T_sum_23)
end

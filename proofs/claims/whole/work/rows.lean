section
-- ===== PART A: goes FIRST, ahead of the names: the tables' words, and 'selects' of the private methods out of them =====
/-- a private method of a class that the tables say can be made, by its rows of tables_1 -/
def lw_okq (q : MethodName × Nat) : Prop := (q.1.cls ≠ "java/lang/invoke/MethodHandle" ∧ q.1.cls ≠ "java/lang/invoke/VarHandle") ∧ Cond.instantiable q.1.cls q.2 ∈ tables_1 ∧ Cond.privateMethod q.1 ∈ tables_1 ∧ Cond.instanceMethod q.1 ∈ tables_1
theorem lw_p0 : lw_okq (⟨"TabledStore$Memory", "startRound", "()V"⟩, 11) := ⟨⟨by decide +kernel, by decide +kernel⟩, List.mem_of_getElem? (i := 22) (by decide +kernel), List.mem_of_getElem? (i := 82) (by decide +kernel), List.mem_of_getElem? (i := 83) (by decide +kernel)⟩
theorem lw_p1 : lw_okq (⟨"TabledStore$Memory", "reach", "(I)V"⟩, 11) := ⟨⟨by decide +kernel, by decide +kernel⟩, List.mem_of_getElem? (i := 22) (by decide +kernel), List.mem_of_getElem? (i := 86) (by decide +kernel), List.mem_of_getElem? (i := 87) (by decide +kernel)⟩
theorem lw_p2 : lw_okq (⟨"TabledStore$Memory", "isReached", "(I)Z"⟩, 11) := ⟨⟨by decide +kernel, by decide +kernel⟩, List.mem_of_getElem? (i := 22) (by decide +kernel), List.mem_of_getElem? (i := 99) (by decide +kernel), List.mem_of_getElem? (i := 100) (by decide +kernel)⟩
theorem lw_p3 : lw_okq (⟨"TabledStore$Memory", "spread", "()V"⟩, 11) := ⟨⟨by decide +kernel, by decide +kernel⟩, List.mem_of_getElem? (i := 22) (by decide +kernel), List.mem_of_getElem? (i := 103) (by decide +kernel), List.mem_of_getElem? (i := 104) (by decide +kernel)⟩
theorem lw_p4 : lw_okq (⟨"TabledStore$Memory", "endOfSlots", "(I)I"⟩, 11) := ⟨⟨by decide +kernel, by decide +kernel⟩, List.mem_of_getElem? (i := 22) (by decide +kernel), List.mem_of_getElem? (i := 107) (by decide +kernel), List.mem_of_getElem? (i := 108) (by decide +kernel)⟩
theorem lw_p5 : lw_okq (⟨"TabledStore$Memory", "slide", "()V"⟩, 11) := ⟨⟨by decide +kernel, by decide +kernel⟩, List.mem_of_getElem? (i := 22) (by decide +kernel), List.mem_of_getElem? (i := 117) (by decide +kernel), List.mem_of_getElem? (i := 118) (by decide +kernel)⟩
theorem lw_p6 : lw_okq (⟨"TabledStore$Memory", "bodyWordsAt", "(I)I"⟩, 11) := ⟨⟨by decide +kernel, by decide +kernel⟩, List.mem_of_getElem? (i := 22) (by decide +kernel), List.mem_of_getElem? (i := 121) (by decide +kernel), List.mem_of_getElem? (i := 122) (by decide +kernel)⟩
theorem lw_p7 : lw_okq (⟨"java/lang/Throwable", "fillInStackTrace", "(I)Ljava/lang/Throwable;"⟩, 6) := ⟨⟨by decide +kernel, by decide +kernel⟩, List.mem_of_getElem? (i := 192) (by decide +kernel), List.mem_of_getElem? (i := 190) (by decide +kernel), List.mem_of_getElem? (i := 191) (by decide +kernel)⟩
theorem lw_p8 : lw_okq (⟨"TabledStore", "setRegister", "(II)V"⟩, 2) := ⟨⟨by decide +kernel, by decide +kernel⟩, List.mem_of_getElem? (i := 14) (by decide +kernel), List.mem_of_getElem? (i := 231) (by decide +kernel), List.mem_of_getElem? (i := 232) (by decide +kernel)⟩
theorem lw_p9 : lw_okq (⟨"TabledStore$Memory", "fits", "(I)Z"⟩, 11) := ⟨⟨by decide +kernel, by decide +kernel⟩, List.mem_of_getElem? (i := 22) (by decide +kernel), List.mem_of_getElem? (i := 268) (by decide +kernel), List.mem_of_getElem? (i := 269) (by decide +kernel)⟩
theorem lw_p10 : lw_okq (⟨"TabledStore$Memory", "place", "(I)I"⟩, 11) := ⟨⟨by decide +kernel, by decide +kernel⟩, List.mem_of_getElem? (i := 22) (by decide +kernel), List.mem_of_getElem? (i := 300) (by decide +kernel), List.mem_of_getElem? (i := 301) (by decide +kernel)⟩
theorem lw_p11 : lw_okq (⟨"TabledStore", "needObject", "(I)V"⟩, 2) := ⟨⟨by decide +kernel, by decide +kernel⟩, List.mem_of_getElem? (i := 14) (by decide +kernel), List.mem_of_getElem? (i := 311) (by decide +kernel), List.mem_of_getElem? (i := 312) (by decide +kernel)⟩
theorem lw_p12 : lw_okq (⟨"TabledStore$Memory", "overwrite", "(II)V"⟩, 11) := ⟨⟨by decide +kernel, by decide +kernel⟩, List.mem_of_getElem? (i := 22) (by decide +kernel), List.mem_of_getElem? (i := 337) (by decide +kernel), List.mem_of_getElem? (i := 338) (by decide +kernel)⟩
theorem lw_p13 : lw_okq (⟨"TabledStore", "needSlots", "(I)V"⟩, 2) := ⟨⟨by decide +kernel, by decide +kernel⟩, List.mem_of_getElem? (i := 14) (by decide +kernel), List.mem_of_getElem? (i := 350) (by decide +kernel), List.mem_of_getElem? (i := 351) (by decide +kernel)⟩
theorem lw_p14 : lw_okq (⟨"TabledStore", "needIndex", "(II)V"⟩, 2) := ⟨⟨by decide +kernel, by decide +kernel⟩, List.mem_of_getElem? (i := 14) (by decide +kernel), List.mem_of_getElem? (i := 359) (by decide +kernel), List.mem_of_getElem? (i := 360) (by decide +kernel)⟩
theorem lw_p15 : lw_okq (⟨"TabledStore", "needBytes", "(I)V"⟩, 2) := ⟨⟨by decide +kernel, by decide +kernel⟩, List.mem_of_getElem? (i := 14) (by decide +kernel), List.mem_of_getElem? (i := 427) (by decide +kernel), List.mem_of_getElem? (i := 428) (by decide +kernel)⟩
def lw_privs_1 : List (MethodName × Nat) := [(⟨"TabledStore$Memory", "startRound", "()V"⟩, 11), (⟨"TabledStore$Memory", "reach", "(I)V"⟩, 11), (⟨"TabledStore$Memory", "isReached", "(I)Z"⟩, 11), (⟨"TabledStore$Memory", "spread", "()V"⟩, 11), (⟨"TabledStore$Memory", "endOfSlots", "(I)I"⟩, 11), (⟨"TabledStore$Memory", "slide", "()V"⟩, 11), (⟨"TabledStore$Memory", "bodyWordsAt", "(I)I"⟩, 11), (⟨"java/lang/Throwable", "fillInStackTrace", "(I)Ljava/lang/Throwable;"⟩, 6), (⟨"TabledStore", "setRegister", "(II)V"⟩, 2), (⟨"TabledStore$Memory", "fits", "(I)Z"⟩, 11), (⟨"TabledStore$Memory", "place", "(I)I"⟩, 11), (⟨"TabledStore", "needObject", "(I)V"⟩, 2), (⟨"TabledStore$Memory", "overwrite", "(II)V"⟩, 11), (⟨"TabledStore", "needSlots", "(I)V"⟩, 2), (⟨"TabledStore", "needIndex", "(II)V"⟩, 2), (⟨"TabledStore", "needBytes", "(I)V"⟩, 2)]
theorem lw_r1 : ∀ q ∈ lw_privs_1, lw_okq q := List.forall_mem_cons.mpr ⟨lw_p0, List.forall_mem_cons.mpr ⟨lw_p1, List.forall_mem_cons.mpr ⟨lw_p2, List.forall_mem_cons.mpr ⟨lw_p3, List.forall_mem_cons.mpr ⟨lw_p4, List.forall_mem_cons.mpr ⟨lw_p5, List.forall_mem_cons.mpr ⟨lw_p6, List.forall_mem_cons.mpr ⟨lw_p7, List.forall_mem_cons.mpr ⟨lw_p8, List.forall_mem_cons.mpr ⟨lw_p9, List.forall_mem_cons.mpr ⟨lw_p10, List.forall_mem_cons.mpr ⟨lw_p11, List.forall_mem_cons.mpr ⟨lw_p12, List.forall_mem_cons.mpr ⟨lw_p13, List.forall_mem_cons.mpr ⟨lw_p14, List.forall_mem_cons.mpr ⟨lw_p15, fun _ h => absurd h List.not_mem_nil⟩⟩⟩⟩⟩⟩⟩⟩⟩⟩⟩⟩⟩⟩⟩⟩
theorem lw_p16 : lw_okq (⟨"TabledStore$Memory", "seat", "(II)V"⟩, 11) := ⟨⟨by decide +kernel, by decide +kernel⟩, List.mem_of_getElem? (i := 22) (by decide +kernel), List.mem_of_getElem? (i := 493) (by decide +kernel), List.mem_of_getElem? (i := 494) (by decide +kernel)⟩
theorem lw_p17 : lw_okq (⟨"TabledStoreModel", "canMake", "(IZ)Z"⟩, 18) := ⟨⟨by decide +kernel, by decide +kernel⟩, List.mem_of_getElem? (i := 538) (by decide +kernel), List.mem_of_getElem? (i := 626) (by decide +kernel), List.mem_of_getElem? (i := 627) (by decide +kernel)⟩
theorem lw_p18 : lw_okq (⟨"TabledStoreModel", "reach", "()V"⟩, 18) := ⟨⟨by decide +kernel, by decide +kernel⟩, List.mem_of_getElem? (i := 538) (by decide +kernel), List.mem_of_getElem? (i := 630) (by decide +kernel), List.mem_of_getElem? (i := 631) (by decide +kernel)⟩
theorem lw_p19 : lw_okq (⟨"TabledStoreModel", "forget", "()V"⟩, 18) := ⟨⟨by decide +kernel, by decide +kernel⟩, List.mem_of_getElem? (i := 538) (by decide +kernel), List.mem_of_getElem? (i := 634) (by decide +kernel), List.mem_of_getElem? (i := 635) (by decide +kernel)⟩
theorem lw_p20 : lw_okq (⟨"TabledStoreModel", "meet", "(I)V"⟩, 18) := ⟨⟨by decide +kernel, by decide +kernel⟩, List.mem_of_getElem? (i := 538) (by decide +kernel), List.mem_of_getElem? (i := 638) (by decide +kernel), List.mem_of_getElem? (i := 639) (by decide +kernel)⟩
theorem lw_p21 : lw_okq (⟨"TabledStoreModel", "spread", "()V"⟩, 18) := ⟨⟨by decide +kernel, by decide +kernel⟩, List.mem_of_getElem? (i := 538) (by decide +kernel), List.mem_of_getElem? (i := 648) (by decide +kernel), List.mem_of_getElem? (i := 649) (by decide +kernel)⟩
theorem lw_p22 : lw_okq (⟨"TabledStoreModel", "giveBack", "()V"⟩, 18) := ⟨⟨by decide +kernel, by decide +kernel⟩, List.mem_of_getElem? (i := 538) (by decide +kernel), List.mem_of_getElem? (i := 655) (by decide +kernel), List.mem_of_getElem? (i := 656) (by decide +kernel)⟩
theorem lw_p23 : lw_okq (⟨"TabledStoreModel", "add", "(IIZ)I"⟩, 18) := ⟨⟨by decide +kernel, by decide +kernel⟩, List.mem_of_getElem? (i := 538) (by decide +kernel), List.mem_of_getElem? (i := 659) (by decide +kernel), List.mem_of_getElem? (i := 660) (by decide +kernel)⟩
theorem lw_p24 : lw_okq (⟨"TabledStoreModel", "has", "(I)Z"⟩, 18) := ⟨⟨by decide +kernel, by decide +kernel⟩, List.mem_of_getElem? (i := 538) (by decide +kernel), List.mem_of_getElem? (i := 670) (by decide +kernel), List.mem_of_getElem? (i := 671) (by decide +kernel)⟩
theorem lw_p25 : lw_okq (⟨"TabledStoreModel", "sizeOf", "(I)I"⟩, 18) := ⟨⟨by decide +kernel, by decide +kernel⟩, List.mem_of_getElem? (i := 538) (by decide +kernel), List.mem_of_getElem? (i := 674) (by decide +kernel), List.mem_of_getElem? (i := 675) (by decide +kernel)⟩
theorem lw_p26 : lw_okq (⟨"TabledStoreModel", "hasBytes", "(I)Z"⟩, 18) := ⟨⟨by decide +kernel, by decide +kernel⟩, List.mem_of_getElem? (i := 538) (by decide +kernel), List.mem_of_getElem? (i := 678) (by decide +kernel), List.mem_of_getElem? (i := 679) (by decide +kernel)⟩
theorem lw_p27 : lw_okq (⟨"TabledStoreModel", "hasSlots", "(I)Z"⟩, 18) := ⟨⟨by decide +kernel, by decide +kernel⟩, List.mem_of_getElem? (i := 538) (by decide +kernel), List.mem_of_getElem? (i := 690) (by decide +kernel), List.mem_of_getElem? (i := 691) (by decide +kernel)⟩
theorem lw_p28 : lw_okq (⟨"TabledStoreModel", "cellAt", "(II)I"⟩, 18) := ⟨⟨by decide +kernel, by decide +kernel⟩, List.mem_of_getElem? (i := 538) (by decide +kernel), List.mem_of_getElem? (i := 694) (by decide +kernel), List.mem_of_getElem? (i := 695) (by decide +kernel)⟩
theorem lw_p29 : lw_okq (⟨"TabledStoreModel", "byteOf", "(II)I"⟩, 18) := ⟨⟨by decide +kernel, by decide +kernel⟩, List.mem_of_getElem? (i := 538) (by decide +kernel), List.mem_of_getElem? (i := 718) (by decide +kernel), List.mem_of_getElem? (i := 719) (by decide +kernel)⟩
theorem lw_p30 : lw_okq (⟨"TabledStoreModel", "setByte", "(III)V"⟩, 18) := ⟨⟨by decide +kernel, by decide +kernel⟩, List.mem_of_getElem? (i := 538) (by decide +kernel), List.mem_of_getElem? (i := 727) (by decide +kernel), List.mem_of_getElem? (i := 728) (by decide +kernel)⟩
theorem lw_p31 : lw_okq (⟨"TabledStoreModel", "nextOf", "(II)I"⟩, 18) := ⟨⟨by decide +kernel, by decide +kernel⟩, List.mem_of_getElem? (i := 538) (by decide +kernel), List.mem_of_getElem? (i := 763) (by decide +kernel), List.mem_of_getElem? (i := 764) (by decide +kernel)⟩
def lw_privs_2 : List (MethodName × Nat) := [(⟨"TabledStore$Memory", "seat", "(II)V"⟩, 11), (⟨"TabledStoreModel", "canMake", "(IZ)Z"⟩, 18), (⟨"TabledStoreModel", "reach", "()V"⟩, 18), (⟨"TabledStoreModel", "forget", "()V"⟩, 18), (⟨"TabledStoreModel", "meet", "(I)V"⟩, 18), (⟨"TabledStoreModel", "spread", "()V"⟩, 18), (⟨"TabledStoreModel", "giveBack", "()V"⟩, 18), (⟨"TabledStoreModel", "add", "(IIZ)I"⟩, 18), (⟨"TabledStoreModel", "has", "(I)Z"⟩, 18), (⟨"TabledStoreModel", "sizeOf", "(I)I"⟩, 18), (⟨"TabledStoreModel", "hasBytes", "(I)Z"⟩, 18), (⟨"TabledStoreModel", "hasSlots", "(I)Z"⟩, 18), (⟨"TabledStoreModel", "cellAt", "(II)I"⟩, 18), (⟨"TabledStoreModel", "byteOf", "(II)I"⟩, 18), (⟨"TabledStoreModel", "setByte", "(III)V"⟩, 18), (⟨"TabledStoreModel", "nextOf", "(II)I"⟩, 18)]
theorem lw_r2 : ∀ q ∈ lw_privs_2, lw_okq q := List.forall_mem_cons.mpr ⟨lw_p16, List.forall_mem_cons.mpr ⟨lw_p17, List.forall_mem_cons.mpr ⟨lw_p18, List.forall_mem_cons.mpr ⟨lw_p19, List.forall_mem_cons.mpr ⟨lw_p20, List.forall_mem_cons.mpr ⟨lw_p21, List.forall_mem_cons.mpr ⟨lw_p22, List.forall_mem_cons.mpr ⟨lw_p23, List.forall_mem_cons.mpr ⟨lw_p24, List.forall_mem_cons.mpr ⟨lw_p25, List.forall_mem_cons.mpr ⟨lw_p26, List.forall_mem_cons.mpr ⟨lw_p27, List.forall_mem_cons.mpr ⟨lw_p28, List.forall_mem_cons.mpr ⟨lw_p29, List.forall_mem_cons.mpr ⟨lw_p30, List.forall_mem_cons.mpr ⟨lw_p31, fun _ h => absurd h List.not_mem_nil⟩⟩⟩⟩⟩⟩⟩⟩⟩⟩⟩⟩⟩⟩⟩⟩
def lw_privs : List (MethodName × Nat) := lw_privs_1 ++ (lw_privs_2)
def lw_tbl : List Cond := k2_sels lw_privs ++ tables_1
theorem lw_privs_ok : ∀ q ∈ lw_privs, lw_okq q := by
  show ∀ q ∈ lw_privs_1 ++ (lw_privs_2), lw_okq q
  exact List.forall_mem_append.mpr ⟨lw_r1, lw_r2⟩
end
section
/-! ===== BEGIN words of one list among another's, by their places ===== -/
theorem goodIn_r {big : List Cond} (ws : List Cond) (ps : List Nat) (hp : ws = ps.filterMap (fun i => big[i]?)) (h : ws.all goodWord = true) : GoodIn big ws := by
  intro w hw
  have h1 := List.all_eq_true.mp h w hw
  rw [hp] at hw
  obtain ⟨i, -, hi⟩ := List.mem_filterMap.mp hw
  have hm : w ∈ big := by first | exact List.mem_of_getElem? hi | exact List.getElem?_mem hi
  exact ⟨hm, good_of_word h1⟩
theorem goodIn_app {big a b : List Cond} (ha : GoodIn big a) (hb : GoodIn big b) : GoodIn big (a ++ b) := fun w h => (List.mem_append.mp h).elim (ha w) (hb w)
theorem goodIn_ca {big a b : List Cond} {c : Cond} (ha : GoodIn big (c :: a)) (hb : GoodIn big b) : GoodIn big (c :: (a ++ b)) := fun w h => (List.mem_cons.mp h).elim (fun e => ha w (List.mem_cons.mpr (Or.inl e))) (fun h => (List.mem_append.mp h).elim (fun h => ha w (List.mem_cons.mpr (Or.inr h))) (hb w))
theorem goodIn_sub {big ws : List Cond} (hm : ∀ w ∈ ws, w ∈ big) (h : ws.all goodWord = true) : GoodIn big ws := fun w hw => ⟨hm w hw, good_of_word (List.all_eq_true.mp h w hw)⟩
/-! ===== END ===== -/

/-! ===== BEGIN exceptions that leave a method, and their catching by the caller (launches without stack traces) ===== -/
section VXA
/-! The laws vx_back, vx_callV, vx_callS, vx_callSW, vx_throw0, vx_throwS follow proofs of the library, with one case more: JvmDerived/Free/Laws.lean (Back.of_free), Shelf42/LK1.lean (callV, callS), Shelf/KitTraced.lean (throwNew0V, throwNewS). -/
/-- where a method has thrown q: the class by its name, the cell, what was written, the world -/
def vx_T (XC : String → State → State → Prop) (st : State) (q : Addr) (t : State) (mc ms : Nat) (free : Addr → Prop) : Prop :=
  ∃ (E : String) (ce : Cell) (L : List Loc), XC E st t ∧ t.heap[q]? = some ce ∧ ce.vm = .none ∧ st.vm.findClass E = some ce.cls ∧ st.WarmedH t.vm ∧ st.sameButNew ({ t with vm := st.vm } : State) L mc ms ∧ ∀ z ∈ L, free z.base
def vx_Q (Qc : Array Value → State → Outcome → State → Prop) (XC : String → State → State → Prop) (mc ms : Nat) (free : Addr → Prop) : Array Value → State → Outcome → State → Prop := fun a st o t =>
  (Qc a st o t ∧ ∃ L, FrameEnd st o t L mc ms ∧ ∀ q ∈ L, free q.base) ∨ ∃ q, o = .threw q ∧ vx_T XC st q t mc ms free
/-- a callee that returns or throws -/
def vx_Met (l : Launch) (y : MethodName) (ws : List Cond) (rm : Room) (Pc : Array Value → State → Prop) (Qc : Array Value → State → Outcome → State → Prop) (XC : String → State → State → Prop) (mc ms : Nat) (free : Addr → Prop) : Prop :=
  MetFree l y (headSpec ws rm) Pc (fun _ _ _ _ _ => True) (vx_Q Qc XC mc ms free)
def vx_Post (XC : String → State → State → Prop) (mc ms : Nat) (free : Addr → Prop) : Pt → Array Value → Addr → Pt → Prop := fun A a q B =>
  ∃ (g : JFrame) (mk : MethodId) (t : State) (L : List Loc) (E : String) (ce : Cell), B.U.heap = t.heap ∧ B.U.vm = t.vm ∧ XC E (A.U.calling g mk a) t ∧ t.heap[q]? = some ce ∧ ce.vm = .none ∧ A.U.vm.findClass E = some ce.cls ∧ B.locs = A.locs ++ L ∧ (∀ z ∈ L, free z.base) ∧ B.cells = A.cells + mc ∧ B.slots = A.slots + ms
def vx_Back (l : Launch) (R : Room) (p : Program) (e : Env) (below : List Frame) (s : State) (sargs : Array Value) (y : MethodName) (len W9 : Nat)
    (Pre : Pt → Array Value → Prop) (Post : Pt → Array Value → Option Value → Pt → Prop) (PostX : Pt → Array Value → Addr → Pt → Prop) : Prop :=
  ∀ (m : MethodId) (meth : Method) (c : Code) (A : Pt) (g : JFrame) (ig : Instr) (mk : MethodId) (a : Array Value),
    Stand p l e R s m sargs below meth c A.U A.locs A.cells A.slots → g.method = m → g.locals.size = c.maxLocals → decode c.code g.pc = .ok (ig, len) →
    2 * g.monitorRoom + (g.stack.map fun v => v.category).sum ≤ W9 → A.U.methodNamed? y = some mk → Pre A a →
    (∃ (v : Option Value) (B : Pt), Stand p l e R s m sargs below meth c B.U B.locs B.cells B.slots ∧ Post A a v B ∧
      Steps p.tables e below (doInvoke e (A.U.setTop g) [] mk a).1 (B.U.setTop { g with pc := g.pc + len, stack := v.toList ++ g.stack })) ∨
    (∃ (q : Addr) (B : Pt), Stand p l e R s m sargs below meth c B.U B.locs B.cells B.slots ∧ PostX A a q B ∧
      Steps p.tables e below (doInvoke e (A.U.setTop g) [] mk a).1 ((B.U.setTop g).pushFrame (.throwing q)))
section Payer
variable {l : Launch} {R : Room} {p : Program} {e : Env} {below : List Frame} {s : State} {sargs : Array Value} {y : MethodName} {len W9 : Nat}
theorem vx_back {ws : List Cond} {rm : Room} {Pc : Array Value → State → Prop} {Qc : Array Value → State → Outcome → State → Prop} {XC : String → State → State → Prop} {mc ms : Nat} {free : Addr → Prop} {bytes : ByteArray} {maxL : Nat} {ret : Option FieldType}
    (hM : vx_Met l y ws rm Pc Qc XC mc ms free) (hblind : FrameBlind Pc) (hrc : rm.cells = mc) (hrs : rm.slots = ms)
    (hframes : rm.frames + 1 ≤ R.frames) (hlocals : W9 + (maxL + 11) + rm.locals ≤ R.locals)
    (hws : ∀ w ∈ ws, ∀ a' U, s.WarmedH U.vm → w.before a' U = true) (hcode : Cond.code y bytes maxL ret ∈ ws) (hinit : ∀ a' U, s.WarmedH U.vm → (Cond.initialized y.cls).before a' U = true) :
    vx_Back l R p e below s sargs y len W9 (PreOf R mc ms Pc) (PostOf Qc mc ms free) (vx_Post XC mc ms free) := by
  intro m meth c A g ig mk a X hg hsize hdg hW hn hp
  have h1 : (headSpec ws rm).pre.before a A.U = true := atoms_intro fun w hw => hws w hw _ _ X.warmed
  have h2 : (Cond.code y bytes maxL ret).before a A.U = true := hws _ hcode _ _ X.warmed
  have h3 : (Cond.initialized y.cls).before a A.U = true := hinit _ _ X.warmed
  have h4 : A.cells + (headSpec ws rm).room.cells ≤ R.cells := by rw [show (headSpec ws rm).room.cells = mc from hrc]; exact hp.1
  have h5 : A.slots + (headSpec ws rm).room.slots ≤ R.slots := by rw [show (headSpec ws rm).room.slots = ms from hrs]; exact hp.2.1
  have hPc : Pc a (A.U.calling g mk a) := hblind _ _ _ _ hp.2.2
  obtain ⟨U, Ls, c0, s0⟩ := A
  dsimp only [Pt.U, Pt.locs, Pt.cells, Pt.slots] at h1 h2 h3 h4 h5 X hn hPc ⊢
  obtain ⟨methY, cY, hmY, hcY, -, hlY, -, -, -, -⟩ := Cond.code_spec hn h2
  obtain ⟨kY, hkY, -⟩ := className_of_methodNamed hn
  have hinitY : kY.init = .initialized := Cond.initialized_spec (findClass_of_methodNamed hn) hkY h3
  have h : At U g.method c below := by rw [hg]; exact X.here
  have hlocals9 : W9 + (maxL + 11) + (headSpec ws rm).room.locals ≤ R.locals := hlocals
  have happ : (headSpec ws rm).appliesLoose y e.platform (U.calling g mk a) = true :=
    Spec.appliesLoose_calling (g := g) h hdg hn hkY hinitY
      (X.room_calling (g := g) (R' := (headSpec ws rm).room) hsize hmY hcY hframes (by rw [hlY]; omega) h4 h5) h1
  obtain ⟨mid, hmid⟩ := h.above
  have hfr : (U.setTop g).frames = (.java g :: mid) ++ below := by rw [State.frames_setTop' g h.top, hmid]; rfl
  obtain ⟨o, s₂, hsteps, -, hend, hq⟩ := Steps.callFree hM p X.admits X.cas X.clock (acts := []) hfr happ hPc trivial
  have hq' : vx_Q Qc XC mc ms free a (U.calling g mk a) o s₂ := hq
  rw [State.frames_setTop' g h.top] at hend
  obtain ⟨g₀, hg0⟩ := Option.isSome_iff_exists.mp h.top
  obtain ⟨r, hr⟩ := State.topJava?_eq_some.mp hg0
  have hr' : (({ U with heap := s₂.heap, slotsUsed := s₂.slotsUsed } : State).setVm s₂.vm).frames = .java g₀ :: r := hr
  rcases hq' with ⟨hqc, L, hfe, hL⟩ | ⟨q, rfl, E, ce, L, hx, hce, hcv, hcl, hW₂, hsm, hL⟩
  · obtain ⟨⟨v, rfl⟩, hW₂, e2, q2, q3, q4, q5, q6⟩ := id hfe
    have e3 : s₂ = ({ (U.calling g mk a).setFrames s₂.frames with heap := s₂.heap, slotsUsed := s₂.slotsUsed } : State).setVm s₂.vm := by
      have : s₂ = ({ s₂ with vm := (U.calling g mk a).vm } : State).setVm s₂.vm := rfl
      rw [e2] at this
      exact this
    obtain ⟨c₂, i₂, len₂, hc₂, hd₂, hf₂⟩ := hend
    have hW' : U.WarmedH s₂.vm := hW₂
    have hcc : c₂ = c := by
      have h1 : s₂.code? g.method = U.code? g.method := by
        rw [State.code?_eq, State.code?_eq, hW'.alike.method?]
      exact Option.some.inj (hc₂.symm.trans (h1.trans h.code))
    subst hcc
    have hlen : len₂ = len := by rw [hdg] at hd₂; cases hd₂; rfl
    subst hlen
    have hs₂ : s₂ = (({ U with heap := s₂.heap, slotsUsed := s₂.slotsUsed } : State).setVm s₂.vm).setTop { g with pc := g.pc + len₂, stack := v.toList ++ g.stack } := by
      refine e3.trans ?_
      rw [hf₂, State.calling_eq h.top, State.setFrames_setFrames, State.setTop_of_frames _ hr', hr]
      rfl
    have hsame : U.sameButNew ({ U with heap := s₂.heap, slotsUsed := s₂.slotsUsed } : State) L mc ms := by
      refine ⟨?_, q2, q3, q4, q5, q6⟩
      obtain ⟨t, ht, -⟩ := State.frames_cons hr
      show ({ U with heap := s₂.heap, slotsUsed := s₂.slotsUsed } : State) = { U.setFrames U.frames with heap := s₂.heap, slotsUsed := s₂.slotsUsed }
      rw [State.setFrames_self ht]
    subst hg
    refine Or.inl ⟨v, ⟨(({ U with heap := s₂.heap, slotsUsed := s₂.slotsUsed } : State).setVm s₂.vm), Ls ++ L, c0 + mc, s0 + ms⟩,
      ⟨X.admits, X.cas, X.clock, X.frames, X.room, X.hears, X.method, X.code, (X.here.setHeapUsed s₂.heap s₂.slotsUsed).setVm hW'.alike, X.tail, State.WarmedH.trans X.warmed hW', X.limits, X.bytes, X.same.trans (hsame.setVm s.vm)⟩,
      ⟨g, mk, s₂, L, rfl, rfl, hqc, rfl, hL, rfl, rfl⟩, ?_⟩
    show Steps p.tables e below _ ((({ U with heap := s₂.heap, slotsUsed := s₂.slotsUsed } : State).setVm s₂.vm).setTop { g with pc := g.pc + len₂, stack := v.toList ++ g.stack })
    rw [← hs₂]
    exact hsteps
  · obtain ⟨e2, q2, q3, q4, q5, q6⟩ := id hsm
    have e3 : s₂ = ({ (U.calling g mk a).setFrames s₂.frames with heap := s₂.heap, slotsUsed := s₂.slotsUsed } : State).setVm s₂.vm := by
      have : s₂ = ({ s₂ with vm := (U.calling g mk a).vm } : State).setVm s₂.vm := rfl
      rw [e2] at this
      exact this
    have hf₂ : s₂.frames = .throwing q :: .java g :: U.frames.tail := hend
    have hW' : U.WarmedH s₂.vm := hW₂
    have hs₂ : s₂ = ((({ U with heap := s₂.heap, slotsUsed := s₂.slotsUsed } : State).setVm s₂.vm).setTop g).pushFrame (.throwing q) := by
      refine e3.trans ?_
      rw [hf₂, State.calling_eq h.top, State.setFrames_setFrames, State.pushFrame, State.frames_setTop _ hr', State.setTop_of_frames _ hr', State.setFrames_setFrames, hr]
      rfl
    have hsame : U.sameButNew ({ U with heap := s₂.heap, slotsUsed := s₂.slotsUsed } : State) L mc ms := by
      refine ⟨?_, q2, q3, q4, q5, q6⟩
      obtain ⟨t, ht, -⟩ := State.frames_cons hr
      show ({ U with heap := s₂.heap, slotsUsed := s₂.slotsUsed } : State) = { U.setFrames U.frames with heap := s₂.heap, slotsUsed := s₂.slotsUsed }
      rw [State.setFrames_self ht]
    subst hg
    refine Or.inr ⟨q, ⟨(({ U with heap := s₂.heap, slotsUsed := s₂.slotsUsed } : State).setVm s₂.vm), Ls ++ L, c0 + mc, s0 + ms⟩,
      ⟨X.admits, X.cas, X.clock, X.frames, X.room, X.hears, X.method, X.code, (X.here.setHeapUsed s₂.heap s₂.slotsUsed).setVm hW'.alike, X.tail, State.WarmedH.trans X.warmed hW', X.limits, X.bytes, X.same.trans (hsame.setVm s.vm)⟩,
      ⟨g, mk, s₂, L, E, ce, rfl, rfl, hx, hce, hcv, hcl, rfl, hL, rfl, rfl⟩, ?_⟩
    show Steps p.tables e below _ (((({ U with heap := s₂.heap, slotsUsed := s₂.slotsUsed } : State).setVm s₂.vm).setTop g).pushFrame (.throwing q))
    rw [← hs₂]
    exact hsteps
end Payer
section Calls
variable {p : Program} {l : Launch} {e : Env} {R : Room} {s : State} {m : MethodId} {args : Array Value} {below : List Frame} {meth : Method} {c : Code} {T : State} {locs : List Loc} {cells slots : Nat}
theorem vx_callV (X : Stand p l e R s m args below meth c T locs cells slots) (hexec : p.tables.exec = Jvm.exec) {own C : String} {index : Nat} {y : MethodName} {bytes : ByteArray} {maxL : Nat} {ret : Option FieldType}
    (hown : s.vm.findClass own = some m.cls) (hlink : (Cond.methodLink own index y).before args s = true) (hinst : (Cond.instanceMethod y).before args s = true) (hsel : (Cond.selects C y y).before args s = true)
    (hcode : (Cond.code y bytes maxL ret).before args s = true) (hy : y.cls ≠ "java/lang/invoke/MethodHandle" ∧ y.cls ≠ "java/lang/invoke/VarHandle")
    {W9 : Nat} {Pre : Pt → Array Value → Prop} {Post : Pt → Array Value → Option Value → Pt → Prop} {PostX : Pt → Array Value → Addr → Pt → Prop} (hK : vx_Back l R p e below s args y 3 W9 Pre Post PostX)
    {b : Addr} {cellB : Cell} (hcell : T.heap[b]? = some cellB) (hobj : cellB.vm.isStatics = false) (hcls : s.vm.findClass C = some cellB.cls)
    {g : JFrame} (hg : g.method = m) (hsize : g.locals.size = c.maxLocals) {argsL rest : List Value} (hlen : ∀ sig, parseMethodDescriptor y.desc = some sig → argsL.length = sig.parameters.length)
    (hstack : g.stack = argsL.reverse ++ .ref b :: rest) (hW : 2 * g.monitorRoom + (rest.map fun v => v.category).sum ≤ W9) (hdg : decode c.code g.pc = .ok (.invokevirtual index, 3))
    (hpre : ∀ vm₁, s.WarmedH vm₁ → Pre ⟨T.setVm vm₁, locs, cells, slots⟩ (Value.ref b :: argsL).toArray) :
    (∃ (v : Option Value) (vm₁ : Vm) (B : Pt), s.WarmedH vm₁ ∧ Stand p l e R s m args below meth c B.U B.locs B.cells B.slots ∧ Post ⟨T.setVm vm₁, locs, cells, slots⟩ (Value.ref b :: argsL).toArray v B ∧
      ∀ target, Steps p.tables e below (B.U.setTop { g with pc := g.pc + 3, stack := v.toList ++ rest }) target → Steps p.tables e below (T.setTop g) target) ∨
    (∃ (q : Addr) (vm₁ : Vm) (B : Pt), s.WarmedH vm₁ ∧ Stand p l e R s m args below meth c B.U B.locs B.cells B.slots ∧ PostX ⟨T.setVm vm₁, locs, cells, slots⟩ (Value.ref b :: argsL).toArray q B ∧
      Steps p.tables e below (T.setTop g) ((B.U.setTop { g with stack := rest }).pushFrame (.throwing q))) := by
  obtain ⟨mk, methM, hnamed, hmethM, hstM, habM⟩ := Cond.instanceMethod_spec hinst
  obtain ⟨methM', cM, hmethM', -, -, -, -, -, -, hsigM⟩ := Cond.code_spec hnamed hcode
  cases hmethM.symm.trans hmethM'
  obtain ⟨c2, r2, m2, q1, q2, q3, q4, kP, hkP, hkPi⟩ := Cond.selects_spec hsel
  cases hcls.symm.trans q1
  cases (State.methodFound?_of_named hnamed hy).symm.trans q2
  cases hnamed.symm.trans q3
  have hselP : selectMethod e.platform s.vm cellB.cls mk = .method mk := by rw [Launch.admits_selectMethod X.admits]; exact q4
  obtain ⟨vm₁, X₁, hstep₁⟩ := X.invokevirtual hexec hown hlink hnamed hmethM hstM hkP hkPi hy (a := b) (cell := cellB) hcell
    (fun z h => by rw [h] at hobj; cases hobj) hselP hmethM habM hkP hkPi (g := g) hg (argsL := argsL) (rest := rest) (hlen _ hsigM) hstack hdg
  rcases hK m meth c ⟨T.setVm vm₁, locs, cells, slots⟩ { g with stack := rest } (.invokevirtual index) mk (Value.ref b :: argsL).toArray X₁ hg hsize hdg hW (X₁.named hnamed) (hpre vm₁ X₁.warmed) with ⟨v, B, X', hpost, hsteps⟩ | ⟨q, B, X', hpost, hsteps⟩
  · exact Or.inl ⟨v, vm₁, B, X₁.warmed, X', hpost, fun target h => hstep₁ _ fun acts => by rw [doInvoke_state]; exact hsteps.trans h⟩
  · exact Or.inr ⟨q, vm₁, B, X₁.warmed, X', hpost, hstep₁ _ fun acts => by rw [doInvoke_state]; exact hsteps⟩
theorem vx_callS (X : Stand p l e R s m args below meth c T locs cells slots) (hexec : p.tables.exec = Jvm.exec) {own : String} {index : Nat} {y : MethodName} {bytes : ByteArray} {maxL : Nat} {ret : Option FieldType}
    (hown : s.vm.findClass own = some m.cls) (hlink : (Cond.methodLink own index y).before args s = true) (hstat : (Cond.static y).before args s = true) (hinit : (Cond.initialized y.cls).before args s = true)
    (hcode : (Cond.code y bytes maxL ret).before args s = true) (hy : y.cls ≠ "java/lang/invoke/MethodHandle" ∧ y.cls ≠ "java/lang/invoke/VarHandle")
    {W9 : Nat} {Pre : Pt → Array Value → Prop} {Post : Pt → Array Value → Option Value → Pt → Prop} {PostX : Pt → Array Value → Addr → Pt → Prop} (hK : vx_Back l R p e below s args y 3 W9 Pre Post PostX)
    {g : JFrame} (hg : g.method = m) (hsize : g.locals.size = c.maxLocals) {argsL rest : List Value} (hlen : ∀ sig, parseMethodDescriptor y.desc = some sig → argsL.length = sig.parameters.length)
    (hstack : g.stack = argsL.reverse ++ rest) (hW : 2 * g.monitorRoom + (rest.map fun v => v.category).sum ≤ W9) (hdg : decode c.code g.pc = .ok (.invokestatic index, 3))
    (hpre : ∀ vm₁, s.WarmedH vm₁ → Pre ⟨T.setVm vm₁, locs, cells, slots⟩ argsL.toArray) :
    (∃ (v : Option Value) (vm₁ : Vm) (B : Pt), s.WarmedH vm₁ ∧ Stand p l e R s m args below meth c B.U B.locs B.cells B.slots ∧ Post ⟨T.setVm vm₁, locs, cells, slots⟩ argsL.toArray v B ∧
      ∀ target, Steps p.tables e below (B.U.setTop { g with pc := g.pc + 3, stack := v.toList ++ rest }) target → Steps p.tables e below (T.setTop g) target) ∨
    (∃ (q : Addr) (vm₁ : Vm) (B : Pt), s.WarmedH vm₁ ∧ Stand p l e R s m args below meth c B.U B.locs B.cells B.slots ∧ PostX ⟨T.setVm vm₁, locs, cells, slots⟩ argsL.toArray q B ∧
      Steps p.tables e below (T.setTop g) ((B.U.setTop { g with stack := rest }).pushFrame (.throwing q))) := by
  obtain ⟨mk, hnamed⟩ := Cond.code_named hcode
  obtain ⟨methM, cM, hmethM, -, -, -, -, -, -, hsigM⟩ := Cond.code_spec hnamed hcode
  have hstatic : methM.isStatic = true := Cond.static_spec hnamed hmethM hstat
  obtain ⟨kP, hkP, -⟩ := className_of_methodNamed hnamed
  have hinitP : kP.init = .initialized := Cond.initialized_spec (findClass_of_methodNamed hnamed) hkP hinit
  obtain ⟨vm₁, X₁, hstep₁⟩ := X.invokestatic hexec hown hlink hnamed hmethM hstatic hkP hinitP hy (g := g) hg (argsL := argsL) (rest := rest) (hlen _ hsigM) hstack hdg
  rcases hK m meth c ⟨T.setVm vm₁, locs, cells, slots⟩ { g with stack := rest } (.invokestatic index) mk argsL.toArray X₁ hg hsize hdg hW (X₁.named hnamed) (hpre vm₁ X₁.warmed) with ⟨v, B, X', hpost, hsteps⟩ | ⟨q, B, X', hpost, hsteps⟩
  · exact Or.inl ⟨v, vm₁, B, X₁.warmed, X', hpost, fun target h => hstep₁ _ fun acts => by rw [doInvoke_state]; exact hsteps.trans h⟩
  · exact Or.inr ⟨q, vm₁, B, X₁.warmed, X', hpost, hstep₁ _ fun acts => by rw [doInvoke_state]; exact hsteps⟩
end Calls
theorem vx_cls {s : State} {T : State} {vm₁ : Vm} {E : String} {k : ClassId} (hW : s.WarmedH vm₁) (h : (T.setVm vm₁).vm.findClass E = some k) : s.vm.findClass E = some k := by
  have h1 : vm₁.findClass E = some k := h
  rw [hW.alike.findClass] at h1
  exact h1
/-- the method's frame g, with q thrown over it -/
def vx_W (p : Program) (l : Launch) (e : Env) (R : Room) (s : State) (m : MethodId) (args : Array Value) (below : List Frame) (meth : Method) (c : Code) (H : Heap) (locs : List Loc) (cells slots : Nat) (Q : State → Prop) (g : JFrame) (q : Addr) : Prop :=
  ∀ T : State, T.heap = H → Stand p l e R s m args below meth c T locs cells slots → ∃ t, Steps p.tables e below ((T.setTop g).pushFrame (.throwing q)) t ∧ Q t
def vx_Run (p : Program) (l : Launch) (e : Env) (R : Room) (s : State) (m : MethodId) (args : Array Value) (below : List Frame) (meth : Method) (c : Code) (H : Heap) (locs : List Loc) (cells slots mc ms : Nat) (g : JFrame) (rest : List Value) (Qa : State → Outcome → State → Prop) (XC : String → State → State → Prop) (free : Addr → Prop) : Prop :=
  ∀ T : State, T.heap = H → Stand p l e R s m args below meth c T locs cells slots →
    (∃ (v : Option Value) (st₀ t T' : State) (L : List Loc), st₀.heap = H ∧ Stand p l e R s m args below meth c T' (locs ++ L) (cells + mc) (slots + ms) ∧ (∀ q ∈ L, free q.base) ∧ T'.heap = t.heap ∧ T'.vm = t.vm ∧ Qa st₀ (.returned v) t ∧
      Goes p e below T g T' { g with pc := g.pc + 3, stack := v.toList ++ rest }) ∨
    (∃ (q : Addr) (st₀ t T' : State) (L : List Loc) (E : String) (ce : Cell), st₀.heap = H ∧ Stand p l e R s m args below meth c T' (locs ++ L) (cells + mc) (slots + ms) ∧ (∀ z ∈ L, free z.base) ∧ T'.heap = t.heap ∧ T'.vm = t.vm ∧ XC E st₀ t ∧ t.heap[q]? = some ce ∧ ce.vm = .none ∧ s.vm.findClass E = some ce.cls ∧
      Steps p.tables e below (T.setTop g) ((T'.setTop { g with stack := rest }).pushFrame (.throwing q)))
def vx_X {S : Type} (px : S → Prop) (B : String → S → State → Prop) (A : Nat → Prop) : String → State → State → Prop := fun E st t => ∃ u : S, px u ∧ B E u t ∧ va_F A st t
section Runs
variable {p : Program} {l : Launch} {e : Env} {R : Room} {s : State} {m : MethodId} {args : Array Value} {below : List Frame} {meth : Method} {c : Code} {H : Heap} {locs : List Loc} {cells slots : Nat}
variable {y : MethodName} {bytes cc : ByteArray} {maxL nL mc ms n index : Nat} {ret : Option FieldType} {ws : List Cond} {rm : Room} {Pc : Array Value → State → Prop} {Qc : Array Value → State → Outcome → State → Prop} {XC : String → State → State → Prop} {free : Addr → Prop} {Ts : List Cond} {own C : String} {b : Addr} {As rest : List Value} {g : JFrame}
theorem vx_callBack (cb : CallB R s args own index y bytes maxL ret ws rm mc ms n) (hM : vx_Met l y ws rm Pc Qc XC mc ms free) (hbl : FrameBlind Pc) : vx_Back l R p e below s args y 3 8 (PreOf R mc ms Pc) (PostOf Qc mc ms free) (vx_Post XC mc ms free) := by
  obtain ⟨hrc, hrs, hfr, hlo, hws, hcw, -, hini, -⟩ := cb
  exact vx_back (bytes := bytes) (maxL := maxL) (ret := ret) hM hbl hrc hrs hfr hlo hws hcw (fun a' U hW => word_at hW (Or.inl (by first | rfl | simp [Cond.onTables, Cond.keeps, Cond.steady])) hini)
theorem vx_runV (S : CallFix p m c cc nL s args Ts own) (hM : vx_Met l y ws rm Pc Qc XC mc ms free) (cw : CallW R s args own C index y bytes maxL ret ws rm mc ms n) (hp : PreV s H C b Pc As)
    (hg : g.method = m) (hn : As.length = n) (hsize : g.locals.size = nL) (hstack : g.stack = As.reverse ++ .ref b :: rest) (hW : 2 * g.monitorRoom + (rest.map fun v => v.category).sum ≤ 8) (hdg : decode cc g.pc = .ok (.invokevirtual index, 3)) (hf : cells + mc ≤ R.cells ∧ slots + ms ≤ R.slots) :
    vx_Run p l e R s m args below meth c H locs cells slots mc ms g rest (Qc (Value.ref b :: As).toArray) XC free := by
  have hK : vx_Back l R p e below s args y 3 8 (PreOf R mc ms Pc) (PostOf Qc mc ms free) (vx_Post XC mc ms free) := vx_callBack cw.1 hM hp.1
  obtain ⟨⟨-, -, -, -, -, -, hcode, -, hy, hlen, hl⟩, hin, hse⟩ := cw
  obtain ⟨hx, hb, hml, ho, -⟩ := S
  obtain ⟨-, ⟨cellB, hcB, hoB, hclB⟩, hPc⟩ := hp
  intro T hT X
  rcases vx_callV X hx (C := C) (bytes := bytes) (maxL := maxL) (ret := ret) ho hl hin hse hcode hy hK (by rw [hT]; exact hcB) hoB hclB hg (hsize.trans hml.symm) (argsL := As) (rest := rest) (fun sig h => hn.trans (hlen sig h)) hstack hW (by rw [hb]; exact hdg)
    (fun vm₁ hW₁ => ⟨hf.1, hf.2, hPc (T.setVm vm₁) hT hW₁⟩) with ⟨v, vm₁, ⟨U', l2, c2, s2⟩, hW₁, X', ⟨g', mk, t, L, e1, e2, hq, h1, hL, h2, h3⟩, st⟩ | ⟨q, vm₁, ⟨U', l2, c2, s2⟩, hW₁, X', ⟨g', mk, t, L, E, ce, e1, e2, hq, hce, hcv, hcl, h1, hL, h2, h3⟩, st⟩
  · dsimp only [Pt.U, Pt.locs, Pt.cells, Pt.slots] at X' e1 e2 h1 h2 h3 st
    subst h1; subst h2; subst h3
    exact Or.inl ⟨v, (T.setVm vm₁).calling g' mk (Value.ref b :: As).toArray, t, U', L, hT, X', hL, e1, e2, hq, st⟩
  · dsimp only [Pt.U, Pt.locs, Pt.cells, Pt.slots] at X' e1 e2 h1 h2 h3 st hcl
    subst h1; subst h2; subst h3
    exact Or.inr ⟨q, (T.setVm vm₁).calling g' mk (Value.ref b :: As).toArray, t, U', L, E, ce, hT, X', hL, e1, e2, hq, hce, hcv, vx_cls hW₁ hcl, st⟩
theorem vx_runS (S : CallFix p m c cc nL s args Ts own) (hM : vx_Met l y ws rm Pc Qc XC mc ms free) (cw : CallB R s args own index y bytes maxL ret ws rm mc ms n ∧ (Cond.static y).before args s = true) (hp : PreS s H Pc As)
    (hg : g.method = m) (hn : As.length = n) (hsize : g.locals.size = nL) (hstack : g.stack = As.reverse ++ rest) (hW : 2 * g.monitorRoom + (rest.map fun v => v.category).sum ≤ 8) (hdg : decode cc g.pc = .ok (.invokestatic index, 3)) (hf : cells + mc ≤ R.cells ∧ slots + ms ≤ R.slots) :
    vx_Run p l e R s m args below meth c H locs cells slots mc ms g rest (Qc As.toArray) XC free := by
  have hK : vx_Back l R p e below s args y 3 8 (PreOf R mc ms Pc) (PostOf Qc mc ms free) (vx_Post XC mc ms free) := vx_callBack cw.1 hM hp.1
  obtain ⟨⟨-, -, -, -, -, -, hcode, hini, hy, hlen, hl⟩, hstt⟩ := cw
  obtain ⟨hx, hb, hml, ho, -⟩ := S
  intro T hT X
  rcases vx_callS X hx (bytes := bytes) (maxL := maxL) (ret := ret) ho hl hstt hini hcode hy hK hg (hsize.trans hml.symm) (argsL := As) (rest := rest) (fun sig h => hn.trans (hlen sig h)) hstack hW (by rw [hb]; exact hdg)
    (fun vm₁ hW₁ => ⟨hf.1, hf.2, hp.2 (T.setVm vm₁) hT hW₁⟩) with ⟨v, vm₁, ⟨U', l2, c2, s2⟩, hW₁, X', ⟨g', mk, t, L, e1, e2, hq, h1, hL, h2, h3⟩, st⟩ | ⟨q, vm₁, ⟨U', l2, c2, s2⟩, hW₁, X', ⟨g', mk, t, L, E, ce, e1, e2, hq, hce, hcv, hcl, h1, hL, h2, h3⟩, st⟩
  · dsimp only [Pt.U, Pt.locs, Pt.cells, Pt.slots] at X' e1 e2 h1 h2 h3 st
    subst h1; subst h2; subst h3
    exact Or.inl ⟨v, (T.setVm vm₁).calling g' mk As.toArray, t, U', L, hT, X', hL, e1, e2, hq, st⟩
  · dsimp only [Pt.U, Pt.locs, Pt.cells, Pt.slots] at X' e1 e2 h1 h2 h3 st hcl
    subst h1; subst h2; subst h3
    exact Or.inr ⟨q, (T.setVm vm₁).calling g' mk As.toArray, t, U', L, E, ce, hT, X', hL, e1, e2, hq, hce, hcv, vx_cls hW₁ hcl, st⟩
end Runs
section Rows
variable {p : Program} {l : Launch} {e : Env} {R : Room} {s : State} {m : MethodId} {args : Array Value} {below : List Frame} {meth : Method} {c : Code} {H : Heap} {locs : List Loc} {cells slots : Nat} {Q : State → Prop}
variable {mc ms : Nat} {free : Addr → Prop} {A0 A1 : Nat → Prop} {H0 : Heap} {a : Array Value} {pc : Nat} {ls : Array Slot} {st0 rest : List Value}
theorem vx_keep {st₀ t T' : State} {L : List Loc} (h0 : st₀.heap = H) (e1 : T'.heap = t.heap) (hS : va_S A0 H0 H locs) (hA : ∀ q, q < H.size → A1 q → A0 q) (hf : ∀ q, free q → A0 q) (hL : ∀ q ∈ L, free q.base) (hF : va_F A1 st₀ t) :
    H.size ≤ T'.heap.size ∧ (∀ q : Nat, q < H.size → ¬ A1 q → T'.heap[q]? = H[q]?) ∧ va_S A0 H0 T'.heap (locs ++ L) := by
  obtain ⟨hz, hk⟩ := hF
  rw [h0] at hz hk
  exact ⟨by rw [e1]; exact hz, fun q h1 h2 => by rw [e1]; exact hk q h1 h2,
    ⟨Nat.le_trans hS.1 (by rw [e1]; exact hz), fun q h1 h2 => by rw [e1, hk q (Nat.lt_of_lt_of_le h1 hS.1) (fun z => h2 (hA q (Nat.lt_of_lt_of_le h1 hS.1) z))]; exact hS.2.1 q h1 h2, fun q hq => by
      rcases List.mem_append.mp hq with h | h
      · exact hS.2.2 q h
      · exact hf _ (hL q h)⟩⟩
theorem vx_calli {S SX : Type} {post : Int32 → S → Prop} {px : SX → Prop} {B : S → State → Prop} {BX : String → SX → State → Prop} {AX : Nat → Prop} (hr : vx_Run p l e R s m args below meth c H locs cells slots mc ms (F0 m pc ls st0) rest (va_Qi post B A1 a) (vx_X px BX AX) free) (hS : va_S A0 H0 H locs) (hA : ∀ q, q < H.size → A1 q → A0 q) (hf : ∀ q, free q → A0 q) (hAX : ∀ q, q < H.size → AX q → A0 q)
    (kx : ∀ (E : String) (ce : Cell) (q9 : Addr) (u : SX) (t : State) (H1 : Heap) (locs1 : List Loc), t.heap = H1 → s.vm.Alike t.vm → px u → BX E u t → H.size ≤ H1.size → (∀ q : Nat, q < H.size → ¬ AX q → H1[q]? = H[q]?) → va_S A0 H0 H1 locs1 → H1[q9]? = some ce → ce.vm = .none → s.vm.findClass E = some ce.cls → vx_W p l e R s m args below meth c H1 locs1 (cells + mc) (slots + ms) Q (F0 m pc ls rest) q9)
    (kk : ∀ (r : Int32) (u : S) (t : State) (H1 : Heap) (locs1 : List Loc), t.heap = H1 → s.vm.Alike t.vm → post r u → B u t → H.size ≤ H1.size → (∀ q : Nat, q < H.size → ¬ A1 q → H1[q]? = H[q]?) → va_S A0 H0 H1 locs1 → W p l e R s m args below meth c H1 locs1 (cells + mc) (slots + ms) Q (F0 m (pc + 3) ls (.int r :: rest))) : W p l e R s m args below meth c H locs cells slots Q (F0 m pc ls st0) := by
  intro T hT X
  rcases hr T hT X with ⟨v, st₀, t, T', L, h0, X', hL, e1, e2, ⟨⟨r, u, hv, hp, hb⟩, hF⟩, st⟩ | ⟨q, st₀, t, T', L, E, ce, h0, X', hL, e1, e2, ⟨u, hp, hb, hF⟩, hce, hcv, hcl, st⟩
  · cases hv
    obtain ⟨k1, k2, k3⟩ := vx_keep h0 e1 hS hA hf hL hF
    obtain ⟨t2, a1, b1⟩ := kk r u t T'.heap (locs ++ L) e1.symm (by rw [← e2]; exact X'.warmed.alike) hp hb k1 k2 k3 T' rfl X'
    exact ⟨t2, st t2 a1, b1⟩
  · obtain ⟨k1, k2, k3⟩ := vx_keep h0 e1 hS hAX hf hL hF
    obtain ⟨t2, a1, b1⟩ := kx E ce q u t T'.heap (locs ++ L) e1.symm (by rw [← e2]; exact X'.warmed.alike) hp hb k1 k2 k3 (by rw [e1]; exact hce) hcv hcl T' rfl X'
    exact ⟨t2, st.trans a1, b1⟩
theorem vx_calll {S SX : Type} {post : Int64 → S → Prop} {px : SX → Prop} {B : S → State → Prop} {BX : String → SX → State → Prop} {AX : Nat → Prop} (hr : vx_Run p l e R s m args below meth c H locs cells slots mc ms (F0 m pc ls st0) rest (va_Ql post B A1 a) (vx_X px BX AX) free) (hS : va_S A0 H0 H locs) (hA : ∀ q, q < H.size → A1 q → A0 q) (hf : ∀ q, free q → A0 q) (hAX : ∀ q, q < H.size → AX q → A0 q)
    (kx : ∀ (E : String) (ce : Cell) (q9 : Addr) (u : SX) (t : State) (H1 : Heap) (locs1 : List Loc), t.heap = H1 → s.vm.Alike t.vm → px u → BX E u t → H.size ≤ H1.size → (∀ q : Nat, q < H.size → ¬ AX q → H1[q]? = H[q]?) → va_S A0 H0 H1 locs1 → H1[q9]? = some ce → ce.vm = .none → s.vm.findClass E = some ce.cls → vx_W p l e R s m args below meth c H1 locs1 (cells + mc) (slots + ms) Q (F0 m pc ls rest) q9)
    (kk : ∀ (r : Int64) (u : S) (t : State) (H1 : Heap) (locs1 : List Loc), t.heap = H1 → s.vm.Alike t.vm → post r u → B u t → H.size ≤ H1.size → (∀ q : Nat, q < H.size → ¬ A1 q → H1[q]? = H[q]?) → va_S A0 H0 H1 locs1 → W p l e R s m args below meth c H1 locs1 (cells + mc) (slots + ms) Q (F0 m (pc + 3) ls (.long r :: rest))) : W p l e R s m args below meth c H locs cells slots Q (F0 m pc ls st0) := by
  intro T hT X
  rcases hr T hT X with ⟨v, st₀, t, T', L, h0, X', hL, e1, e2, ⟨⟨r, u, hv, hp, hb⟩, hF⟩, st⟩ | ⟨q, st₀, t, T', L, E, ce, h0, X', hL, e1, e2, ⟨u, hp, hb, hF⟩, hce, hcv, hcl, st⟩
  · cases hv
    obtain ⟨k1, k2, k3⟩ := vx_keep h0 e1 hS hA hf hL hF
    obtain ⟨t2, a1, b1⟩ := kk r u t T'.heap (locs ++ L) e1.symm (by rw [← e2]; exact X'.warmed.alike) hp hb k1 k2 k3 T' rfl X'
    exact ⟨t2, st t2 a1, b1⟩
  · obtain ⟨k1, k2, k3⟩ := vx_keep h0 e1 hS hAX hf hL hF
    obtain ⟨t2, a1, b1⟩ := kx E ce q u t T'.heap (locs ++ L) e1.symm (by rw [← e2]; exact X'.warmed.alike) hp hb k1 k2 k3 (by rw [e1]; exact hce) hcv hcl T' rfl X'
    exact ⟨t2, st.trans a1, b1⟩
theorem vx_callf {S SX : Type} {post : UInt32 → S → Prop} {px : SX → Prop} {B : S → State → Prop} {BX : String → SX → State → Prop} {AX : Nat → Prop} (hr : vx_Run p l e R s m args below meth c H locs cells slots mc ms (F0 m pc ls st0) rest (va_Qf post B A1 a) (vx_X px BX AX) free) (hS : va_S A0 H0 H locs) (hA : ∀ q, q < H.size → A1 q → A0 q) (hf : ∀ q, free q → A0 q) (hAX : ∀ q, q < H.size → AX q → A0 q)
    (kx : ∀ (E : String) (ce : Cell) (q9 : Addr) (u : SX) (t : State) (H1 : Heap) (locs1 : List Loc), t.heap = H1 → s.vm.Alike t.vm → px u → BX E u t → H.size ≤ H1.size → (∀ q : Nat, q < H.size → ¬ AX q → H1[q]? = H[q]?) → va_S A0 H0 H1 locs1 → H1[q9]? = some ce → ce.vm = .none → s.vm.findClass E = some ce.cls → vx_W p l e R s m args below meth c H1 locs1 (cells + mc) (slots + ms) Q (F0 m pc ls rest) q9)
    (kk : ∀ (r : UInt32) (u : S) (t : State) (H1 : Heap) (locs1 : List Loc), t.heap = H1 → s.vm.Alike t.vm → post r u → B u t → H.size ≤ H1.size → (∀ q : Nat, q < H.size → ¬ A1 q → H1[q]? = H[q]?) → va_S A0 H0 H1 locs1 → W p l e R s m args below meth c H1 locs1 (cells + mc) (slots + ms) Q (F0 m (pc + 3) ls (.float r :: rest))) : W p l e R s m args below meth c H locs cells slots Q (F0 m pc ls st0) := by
  intro T hT X
  rcases hr T hT X with ⟨v, st₀, t, T', L, h0, X', hL, e1, e2, ⟨⟨r, u, hv, hp, hb⟩, hF⟩, st⟩ | ⟨q, st₀, t, T', L, E, ce, h0, X', hL, e1, e2, ⟨u, hp, hb, hF⟩, hce, hcv, hcl, st⟩
  · cases hv
    obtain ⟨k1, k2, k3⟩ := vx_keep h0 e1 hS hA hf hL hF
    obtain ⟨t2, a1, b1⟩ := kk r u t T'.heap (locs ++ L) e1.symm (by rw [← e2]; exact X'.warmed.alike) hp hb k1 k2 k3 T' rfl X'
    exact ⟨t2, st t2 a1, b1⟩
  · obtain ⟨k1, k2, k3⟩ := vx_keep h0 e1 hS hAX hf hL hF
    obtain ⟨t2, a1, b1⟩ := kx E ce q u t T'.heap (locs ++ L) e1.symm (by rw [← e2]; exact X'.warmed.alike) hp hb k1 k2 k3 (by rw [e1]; exact hce) hcv hcl T' rfl X'
    exact ⟨t2, st.trans a1, b1⟩
theorem vx_calld {S SX : Type} {post : UInt64 → S → Prop} {px : SX → Prop} {B : S → State → Prop} {BX : String → SX → State → Prop} {AX : Nat → Prop} (hr : vx_Run p l e R s m args below meth c H locs cells slots mc ms (F0 m pc ls st0) rest (va_Qd post B A1 a) (vx_X px BX AX) free) (hS : va_S A0 H0 H locs) (hA : ∀ q, q < H.size → A1 q → A0 q) (hf : ∀ q, free q → A0 q) (hAX : ∀ q, q < H.size → AX q → A0 q)
    (kx : ∀ (E : String) (ce : Cell) (q9 : Addr) (u : SX) (t : State) (H1 : Heap) (locs1 : List Loc), t.heap = H1 → s.vm.Alike t.vm → px u → BX E u t → H.size ≤ H1.size → (∀ q : Nat, q < H.size → ¬ AX q → H1[q]? = H[q]?) → va_S A0 H0 H1 locs1 → H1[q9]? = some ce → ce.vm = .none → s.vm.findClass E = some ce.cls → vx_W p l e R s m args below meth c H1 locs1 (cells + mc) (slots + ms) Q (F0 m pc ls rest) q9)
    (kk : ∀ (r : UInt64) (u : S) (t : State) (H1 : Heap) (locs1 : List Loc), t.heap = H1 → s.vm.Alike t.vm → post r u → B u t → H.size ≤ H1.size → (∀ q : Nat, q < H.size → ¬ A1 q → H1[q]? = H[q]?) → va_S A0 H0 H1 locs1 → W p l e R s m args below meth c H1 locs1 (cells + mc) (slots + ms) Q (F0 m (pc + 3) ls (.double r :: rest))) : W p l e R s m args below meth c H locs cells slots Q (F0 m pc ls st0) := by
  intro T hT X
  rcases hr T hT X with ⟨v, st₀, t, T', L, h0, X', hL, e1, e2, ⟨⟨r, u, hv, hp, hb⟩, hF⟩, st⟩ | ⟨q, st₀, t, T', L, E, ce, h0, X', hL, e1, e2, ⟨u, hp, hb, hF⟩, hce, hcv, hcl, st⟩
  · cases hv
    obtain ⟨k1, k2, k3⟩ := vx_keep h0 e1 hS hA hf hL hF
    obtain ⟨t2, a1, b1⟩ := kk r u t T'.heap (locs ++ L) e1.symm (by rw [← e2]; exact X'.warmed.alike) hp hb k1 k2 k3 T' rfl X'
    exact ⟨t2, st t2 a1, b1⟩
  · obtain ⟨k1, k2, k3⟩ := vx_keep h0 e1 hS hAX hf hL hF
    obtain ⟨t2, a1, b1⟩ := kx E ce q u t T'.heap (locs ++ L) e1.symm (by rw [← e2]; exact X'.warmed.alike) hp hb k1 k2 k3 (by rw [e1]; exact hce) hcv hcl T' rfl X'
    exact ⟨t2, st.trans a1, b1⟩
theorem vx_callv {S SX : Type} {post : S → Prop} {px : SX → Prop} {B : S → State → Prop} {BX : String → SX → State → Prop} {AX : Nat → Prop} (hr : vx_Run p l e R s m args below meth c H locs cells slots mc ms (F0 m pc ls st0) rest (va_Qv post B A1 a) (vx_X px BX AX) free) (hS : va_S A0 H0 H locs) (hA : ∀ q, q < H.size → A1 q → A0 q) (hf : ∀ q, free q → A0 q) (hAX : ∀ q, q < H.size → AX q → A0 q)
    (kx : ∀ (E : String) (ce : Cell) (q9 : Addr) (u : SX) (t : State) (H1 : Heap) (locs1 : List Loc), t.heap = H1 → s.vm.Alike t.vm → px u → BX E u t → H.size ≤ H1.size → (∀ q : Nat, q < H.size → ¬ AX q → H1[q]? = H[q]?) → va_S A0 H0 H1 locs1 → H1[q9]? = some ce → ce.vm = .none → s.vm.findClass E = some ce.cls → vx_W p l e R s m args below meth c H1 locs1 (cells + mc) (slots + ms) Q (F0 m pc ls rest) q9)
    (kk : ∀ (u : S) (t : State) (H1 : Heap) (locs1 : List Loc), t.heap = H1 → s.vm.Alike t.vm → post u → B u t → H.size ≤ H1.size → (∀ q : Nat, q < H.size → ¬ A1 q → H1[q]? = H[q]?) → va_S A0 H0 H1 locs1 → W p l e R s m args below meth c H1 locs1 (cells + mc) (slots + ms) Q (F0 m (pc + 3) ls (rest))) : W p l e R s m args below meth c H locs cells slots Q (F0 m pc ls st0) := by
  intro T hT X
  rcases hr T hT X with ⟨v, st₀, t, T', L, h0, X', hL, e1, e2, ⟨⟨u, hv, hp, hb⟩, hF⟩, st⟩ | ⟨q, st₀, t, T', L, E, ce, h0, X', hL, e1, e2, ⟨u, hp, hb, hF⟩, hce, hcv, hcl, st⟩
  · cases hv
    obtain ⟨k1, k2, k3⟩ := vx_keep h0 e1 hS hA hf hL hF
    obtain ⟨t2, a1, b1⟩ := kk u t T'.heap (locs ++ L) e1.symm (by rw [← e2]; exact X'.warmed.alike) hp hb k1 k2 k3 T' rfl X'
    exact ⟨t2, st t2 a1, b1⟩
  · obtain ⟨k1, k2, k3⟩ := vx_keep h0 e1 hS hAX hf hL hF
    obtain ⟨t2, a1, b1⟩ := kx E ce q u t T'.heap (locs ++ L) e1.symm (by rw [← e2]; exact X'.warmed.alike) hp hb k1 k2 k3 (by rw [e1]; exact hce) hcv hcl T' rfl X'
    exact ⟨t2, st.trans a1, b1⟩
/-- caught by the row x of this method's table; the rows ahead don't take it -/
theorem vx_catch {own name : String} {E : String} {ce : Cell} {q : Addr} (hown : s.vm.findClass own = some m.cls) (pre : List ExceptionTableEntry) (x : ExceptionTableEntry) (suf : List ExceptionTableEntry) (hsplit : c.exceptionTable.toList = pre ++ x :: suf)
    (hpass : ∀ z ∈ pre, covers z pc = false ∨ (z.catchType ≠ 0 ∧ ∃ nm : String, (Cond.classLink own z.catchType nm).before args s = true ∧ va_Nc E nm s)) (hx : covers x pc = true) (h0 : x.catchType ≠ 0)
    (hlink : (Cond.classLink own x.catchType name).before args s = true) (hcast : (Cond.castable E name).before args s = true) (hcell : H[q]? = some ce) (hv : ce.vm = .none) (hcl : s.vm.findClass E = some ce.cls)
    (kk : W p l e R s m args below meth c H locs cells slots Q (F0 m x.handlerPc ls [.ref q])) : vx_W p l e R s m args below meth c H locs cells slots Q (F0 m pc ls rest) q := by
  intro T hT X
  have hpl : e.platform.magicAccessors = ({} : Platform).magicAccessors := by rw [X.admits.platform]
  obtain ⟨c3, c4, hc3, hc4, hasg⟩ := Cond.castable_spec hcast
  cases Option.some.inj (hc3.symm.trans hcl)
  obtain ⟨c5, hc5, hcl5⟩ := Cond.classLink_spec hown hlink e.platform hpl
  cases Option.some.inj (hc4.symm.trans hc5)
  obtain ⟨vm', X', st⟩ := X.thenCaughtThrough q (g := F0 m pc ls rest) rfl (Steps.refl _) (by rw [hT]; exact hcell) (by rw [hv]; rfl) (by obtain ⟨k9, h9, -⟩ := Vm.findClass_spec hcl; exact ⟨k9, h9⟩) pre x suf hsplit
    (fun z hz => by
      rcases hpass z hz with h | ⟨hz0, nm, hl1, hn1⟩
      · exact Or.inl h
      · obtain ⟨c6, hc6, hcl6⟩ := Cond.classLink_spec hown hl1 e.platform hpl
        obtain ⟨a8, b8, h1, h2, h3⟩ := hn1
        cases Option.some.inj (h1.symm.trans hcl)
        cases Option.some.inj (h2.symm.trans hc6)
        exact Or.inr ⟨hz0, _, hcl6, h3⟩) hx (Or.inr ⟨h0, c4, hcl5, hasg⟩)
  obtain ⟨t, a1, b1⟩ := kk (T.setVm vm') hT X'
  exact ⟨t, st.trans a1, b1⟩
end Rows
section Ends
variable {p : Program} {l : Launch} {e : Env} {R : Room} {s : State} {m : MethodId} {args : Array Value} {below : List Frame} {meth : Method} {c : Code} {H : Heap} {locs : List Loc} {cells slots : Nat} {Q : State → Prop}
variable {mc ms : Nat} {free : Addr → Prop} {A0 A1 : Nat → Prop} {H0 : Heap} {a : Array Value} {ls : Array Slot} {st0 rest : List Value}
variable {Qc : Array Value → State → Outcome → State → Prop} {XC : String → State → State → Prop}
/-- what a body that may throw owes at its end -/
def vx_MQ (below : List Frame) (Qc : Array Value → State → Outcome → State → Prop) (XC : String → State → State → Prop) (a : Array Value) (s : State) (mc ms : Nat) (free : Addr → Prop) : State → Prop := fun t =>
  ∃ o, t.status = .running ∧ Ended t below o ∧ vx_Q Qc XC mc ms free a s o t
theorem vx_ret {g : JFrame} {mc ms : Nat} (k : W p l e R s m args below meth c H locs cells slots (MQ below Qc args s mc ms free) g) : W p l e R s m args below meth c H locs cells slots (vx_MQ below Qc XC args s mc ms free) g := by
  intro T hT X
  obtain ⟨t, a1, o, b1, b2, b3, b4⟩ := k T hT X
  exact ⟨t, a1, o, b1, b2, Or.inl ⟨b3, b4⟩⟩
/-- not caught here: it goes on to the caller -/
theorem vx_widen {g : JFrame} {q : Addr} {k n : Nat} (h1 : cells ≤ k) (h2 : slots ≤ n) (kk : vx_W p l e R s m args below meth c H locs k n Q g q) : vx_W p l e R s m args below meth c H locs cells slots Q g q := fun T hT X => kk T hT (stand_widen X h1 h2)
theorem vx_out {pc : Nat} {E : String} {ce : Cell} {q : Addr} {mc ms : Nat} (hout : ∀ x ∈ c.exceptionTable.toList, covers x pc = false) (hlocks : meth.locks = false) (hcell : H[q]? = some ce) (hv : ce.vm = .none) (hcl : s.vm.findClass E = some ce.cls)
    (hx : ∀ t : State, t.heap = H → s.vm.Alike t.vm → XC E s t) (hf : ∀ z ∈ locs, free z.base) (hc : cells ≤ mc) (hs : slots ≤ ms) :
    vx_W p l e R s m args below meth c H locs cells slots (vx_MQ below Qc XC args s mc ms free) (F0 m pc ls rest) q := by
  intro T hT X
  obtain ⟨st1, hrun, hend, hW, hsm⟩ := X.leaveThrown q (g := F0 m pc ls rest) rfl rfl rfl hout hlocks
  have hcell9 : (T.setFrames (.throwing q :: below)).heap[q]? = some ce := by
    show T.heap[q]? = some ce
    rw [hT]; exact hcell
  exact ⟨_, st1, .threw q, hrun, hend, Or.inr ⟨q, rfl, E, ce, locs, hx _ hT hW.alike, hcell9, hv, hcl, hW, hsm.mono hc hs, hf⟩⟩
theorem vx_frame {U : State} {k n : Nat} (h : s.sameButNew ({ U with vm := s.vm } : State) locs k n) : s.heap.size ≤ U.heap.size ∧ ∀ q : Nat, q < s.heap.size → (∀ z ∈ locs, z.base ≠ q) → U.heap[q]? = s.heap[q]? := by
  obtain ⟨-, h2, -, -, -, h6⟩ := h
  refine ⟨h2, fun q hq hz => ?_⟩
  obtain ⟨c9, e1, e2, e3, e4⟩ := h6 q _ (Array.getElem?_eq_getElem hq)
  have hs : c9.slots = (s.heap[q]).slots := Array.ext_getElem? fun i => e4 i fun hm => hz _ hm rfl
  have h9 : c9 = s.heap[q] := by
    rw [hs] at e2
    exact e2
  have e5 : U.heap[q]? = some c9 := e1
  rw [e5, h9, Array.getElem?_eq_getElem hq]
/-- the words of a throw but the four that speak of the heap -/
def vx_no (w : Cond) : Bool := decide (w ≠ .isRef (.static Bundle.tN "UNASSIGNED_STACK" Bundle.steD)) && decide (w ≠ .isRef (.static Bundle.tN "SUPPRESSED_SENTINEL" Bundle.listD)) && decide (w ≠ .laysStatic Bundle.tN "UNASSIGNED_STACK" Bundle.steD) && decide (w ≠ .laysStatic Bundle.tN "SUPPRESSED_SENTINEL" Bundle.listD)
def vx_at0 (own : String) (ic : Nat) (X : String) (names : List String) : List Cond := (Bundle.ownAtoms0 own ic X names).filter vx_no
def vx_atS (own : String) (ic : Nat) (X : String) (names : List String) : List Cond := (Bundle.ownAtoms own ic X names).filter vx_no
/-- a word that the tables alone decide, or a good one -/
def vx_ot (w : Cond) : Bool := w.onTables || goodWord w
theorem vx_ot_at {args a' : Array Value} {s U : State} {w : Cond} (hW : s.WarmedH U.vm) (hvm : s.vm = U.vm) (hg : vx_ot w = true) (h : w.before args s = true) : w.before a' U = true := by
  simp only [vx_ot, Bool.or_eq_true] at hg
  rcases hg with hg | hg
  · exact va_tabs hg hvm h
  · exact word_at hW (good_of_word hg) h
/-- a list's words: the good ones out of the method's own list, the others by premises of their own -/
theorem vx_hat {args : Array Value} {s : State} {L B : List Cond} (h1 : ∀ w ∈ L.filter goodWord, w.before args s = true) (h2 : ∀ w ∈ L.filter (fun w => !goodWord w), w ∈ B) (h3 : ∀ w ∈ B, w.before args s = true) : ∀ w ∈ L, w.before args s = true := by
  intro w hw
  by_cases g : goodWord w = true
  · exact h1 w (List.mem_filter.mpr ⟨hw, g⟩)
  · refine h3 w (h2 w (List.mem_filter.mpr ⟨hw, ?_⟩))
    show (!goodWord w) = true
    cases hgw : goodWord w
    · rfl
    · exact absurd hgw g
theorem vx_c {args : Array Value} {s : State} {w : Cond} {B : List Cond} (h : w.before args s = true) (t : ∀ w ∈ B, w.before args s = true) : ∀ w' ∈ w :: B, w'.before args s = true := fun w' h' => (List.mem_cons.mp h').elim (fun e => by rw [e]; exact h) (t w')
theorem vx_n {args : Array Value} {s : State} : ∀ w ∈ ([] : List Cond), w.before args s = true := fun _ h => nomatch h
theorem vx_own {args : Array Value} {s : State} {L : List Cond} (h1 : ∀ w ∈ L.filter vx_no, w.before args s = true)
    (hU : (Cond.isRef (.static Bundle.tN "UNASSIGNED_STACK" Bundle.steD)).before args s = true) (hN : (Cond.isRef (.static Bundle.tN "SUPPRESSED_SENTINEL" Bundle.listD)).before args s = true)
    (lU : (Cond.laysStatic Bundle.tN "UNASSIGNED_STACK" Bundle.steD).before args s = true) (lN : (Cond.laysStatic Bundle.tN "SUPPRESSED_SENTINEL" Bundle.listD).before args s = true) : ∀ w ∈ L, w.before args s = true := by
  intro w hw
  by_cases e1 : w = .isRef (.static Bundle.tN "UNASSIGNED_STACK" Bundle.steD)
  · rw [e1]; exact hU
  · by_cases e2 : w = .isRef (.static Bundle.tN "SUPPRESSED_SENTINEL" Bundle.listD)
    · rw [e2]; exact hN
    · by_cases e3 : w = .laysStatic Bundle.tN "UNASSIGNED_STACK" Bundle.steD
      · rw [e3]; exact lU
      · by_cases e4 : w = .laysStatic Bundle.tN "SUPPRESSED_SENTINEL" Bundle.listD
        · rw [e4]; exact lN
        · exact h1 w (List.mem_filter.mpr ⟨hw, by unfold vx_no; rw [decide_eq_true e1, decide_eq_true e2, decide_eq_true e3, decide_eq_true e4]; rfl⟩)
/-- where a static field lies, its class's statics cell in H -/
def vx_L (C n d : String) (A : Nat → Prop) (U : State) (H : Heap) : Prop := ∃ (c : ClassId) (k : Class) (i : Nat) (f : Field) (a : Nat) (cell : Cell), U.vm.findClass C = some c ∧ U.fieldFound? C n d = some (c, k, i, f) ∧ f.isStatic = true ∧ k.statics = some a ∧ H[a]? = some cell ∧ cell.vm.isStatics = true ∧ cell.cls = c ∧ f.slot < cell.slots.size ∧ k.staticTypes[f.slot]? = some f.type ∧ ¬ A a
theorem vx_L.moved {C n d : String} {A : Nat → Prop} {u U : State} {H : Heap} (hvm : u.vm.Alike U.vm) (h : vx_L C n d A u H) : vx_L C n d A U H := by
  obtain ⟨c, k, i, f, a, cell, h1, h2, h3, h4, h5, h6, h7, h8, h9, h10⟩ := h
  obtain ⟨k', hi', he⟩ := State.fieldFound?_setVm hvm h2
  exact ⟨c, k', i, f, a, cell, by rw [hvm.findClass]; exact h1, hi', h3, by rw [he]; exact h4, h5, h6, h7, h8, by rw [he]; exact h9, h10⟩
theorem vx_L.kept {C n d : String} {A : Nat → Prop} {U : State} {H H1 : Heap} (h : vx_L C n d A U H) (hq : ∀ a : Nat, a < H.size → ¬ A a → H1[a]? = H[a]?) : vx_L C n d A U H1 := by
  obtain ⟨c, k, i, f, a, cell, h1, h2, h3, h4, h5, h6, h7, h8, h9, h10⟩ := h
  exact ⟨c, k, i, f, a, cell, h1, h2, h3, h4, by rw [hq a (Array.getElem?_eq_some_iff.mp h5).1 h10]; exact h5, h6, h7, h8, h9, h10⟩
theorem vx_L.narrow {C n d : String} {A B : Nat → Prop} {U : State} {H : Heap} (h : vx_L C n d A U H) (hAB : ∀ q, B q → A q) : vx_L C n d B U H := by
  obtain ⟨c, k, i, f, a, cell, h1, h2, h3, h4, h5, h6, h7, h8, h9, h10⟩ := h
  exact ⟨c, k, i, f, a, cell, h1, h2, h3, h4, h5, h6, h7, h8, h9, fun z => h10 (hAB _ z)⟩
theorem vx_L.word {C n d : String} {A : Nat → Prop} {s : State} {args : Array Value} (h : vx_L C n d A s s.heap) : (Cond.laysStatic C n d).before args s = true := by
  obtain ⟨c, k, i, f, a, cell, h1, h2, h3, h4, h5, h6, h7, h8, h9, -⟩ := h
  show (Cond.laysStatic C n d).holds args s none s [] = true
  exact Cond.laysStatic_of h1 h2 h3 h4 h5 h6 h7 h8 h9
/-- .. and what it holds: null or some reference -/
def vx_Zq (C n d : String) (A : Nat → Prop) (U : State) (H : Heap) : Prop := va_Zq C n d A U H ∧ vx_L C n d A U H
theorem vx_Zq.moved {C n d : String} {A : Nat → Prop} {u U : State} {H : Heap} (hvm : u.vm.Alike U.vm) (h : vx_Zq C n d A u H) : vx_Zq C n d A U H := ⟨va_Zq.moved hvm h.1, vx_L.moved hvm h.2⟩
theorem vx_Zq.kept {C n d : String} {A : Nat → Prop} {U : State} {H H1 : Heap} (h : vx_Zq C n d A U H) (hq : ∀ a : Nat, a < H.size → ¬ A a → H1[a]? = H[a]?) : vx_Zq C n d A U H1 := ⟨va_Zq.kept h.1 hq, vx_L.kept h.2 hq⟩
theorem vx_Zq.narrow {C n d : String} {A B : Nat → Prop} {U : State} {H : Heap} (h : vx_Zq C n d A U H) (hAB : ∀ q, B q → A q) : vx_Zq C n d B U H := ⟨va_Zq.narrow h.1 hAB, vx_L.narrow h.2 hAB⟩
theorem vx_Zqof {args : Array Value} {s : State} {C n d : String} {A : Nat → Prop} (hl : (Cond.laysStatic C n d).before args s = true) (hini : (Cond.initialized C).before args s = true) (h : (Cond.isRef (.static C n d)).before args s = true) (hA : ∀ a : Nat, a < s.heap.size → ¬ A a) : vx_Zq C n d A s s.heap := by
  refine ⟨va_Zqof hl hini h hA, ?_⟩
  obtain ⟨c, k, i, f, a, cell, h1, h2, h3, h4, h5, h6, h7, h8, h9⟩ := Cond.laysStatic_spec hl
  exact ⟨c, k, i, f, a, cell, h1, h2, h3, h4, h5, h6, h7, h8, h9, hA a (Array.getElem?_eq_some_iff.mp h5).1⟩
theorem vx_isRef {C n d : String} {v : Value} {A : Nat → Prop} {s : State} {args : Array Value} (h : va_Z C n d v A s s.heap) (hv : v.isRef = true) : (Cond.isRef (.static C n d)).before args s = true := by
  obtain ⟨cf, kf, fi, f, a, cell, h1, h2, h3, h4, h5, h6, h7, -⟩ := h
  have he : (Term.static C n d).eval args s none [] s = some v := by
    simp [Term.eval, State.fieldNamed?, h1, h2, h4, h5, h6, h7]
  simp only [Cond.before, Cond.holds, Cond.value, he]
  cases v <;> simp_all [Value.isRef]
theorem vx_isRefq {C n d : String} {A : Nat → Prop} {s : State} {args : Array Value} (h : va_Zq C n d A s s.heap) : (Cond.isRef (.static C n d)).before args s = true := by
  rcases h with h | ⟨t, h⟩
  · exact vx_isRef h rfl
  · exact vx_isRef h rfl
/-- the same frame, seen from here: as if the method were called anew in this heap -/
theorem vx_rebase {T : State} (X : Stand p l e R s m args below meth c T locs cells slots) {R' : Room} (hf : R'.frames ≤ R.frames) (hl : R'.locals ≤ R.locals) (hc : cells + R'.cells ≤ R.cells) (hs : slots + R'.slots ≤ R.slots) :
    Stand p l e R' ((T.setVm s.vm).setFrames (.invoking m args :: below)) m args below meth c T [] 0 0 := by
  have htop : (T.setVm s.vm).topJava?.isSome := X.here.top
  have hF : ((T.setVm s.vm).setFrames (.invoking m args :: below)).frames = .invoking m args :: below := State.frames_setFrames _ (State.cur_lt_of_top htop)
  obtain ⟨g₀, hg0⟩ := Option.isSome_iff_exists.mp htop
  obtain ⟨r, hr⟩ := State.topJava?_eq_some.mp hg0
  have hl9 : e.platform.stackLimits (T.setVm s.vm).me = e.platform.stackLimits s.me := X.limits
  have hb9 : (T.setVm s.vm).me.stackBytes = s.me.stackBytes := X.bytes
  refine ⟨X.admits, X.cas, X.clock, hF, ?_, X.hears, X.method, X.code, X.here, X.tail, X.warmed, ?_, ?_, ?_⟩
  · have h := X.room
    have hU : ((T.setVm s.vm).setFrames (.invoking m args :: below)).localsInUse = s.localsInUse := by
      rw [State.localsInUse_invoking hF (meth := meth) (c := c) X.method X.code, State.localsInUse_invoking X.frames X.method X.code]
    simp only [State.hasRoom, Bool.and_eq_true, decide_eq_true_eq] at h ⊢
    obtain ⟨⟨⟨⟨h1, h2, h3, h4, h5, h6⟩, h7⟩, h8⟩, h9⟩ := h
    rw [X.frames, List.length_cons] at h2 h3
    have q1 := X.heapSize
    have q2 := X.used
    simp only [hF, hU, List.length_cons, State.stackLimits_setFrames, State.stackBytes_setFrames, hl9, hb9]
    refine ⟨⟨⟨⟨by omega, by omega, by omega, by omega, by omega, h6⟩, ?_⟩, ?_⟩, X.book⟩
    · show T.heap.size + R'.cells ≤ e.platform.maxCells
      omega
    · show T.slotsUsed + R'.slots ≤ e.platform.maxSlots
      omega
  · rw [State.stackLimits_setFrames]; rfl
  · rw [State.stackBytes_setFrames]; rfl
  · refine ⟨?_, Nat.le_refl _, Nat.le_refl _, ?_, ?_, fun a c9 h9 => ⟨c9, h9, rfl, rfl, fun _ _ => rfl⟩⟩
    · obtain ⟨t, ht, -⟩ := State.frames_cons hr
      show T.setVm s.vm = { ((T.setVm s.vm).setFrames (.invoking m args :: below)).setFrames (T.setVm s.vm).frames with heap := T.heap, slotsUsed := T.slotsUsed }
      rw [State.setFrames_setFrames, State.setFrames_self ht]
      rfl
    · show T.slotsUsed = T.slotsUsed + ((T.heap.toList.drop T.heap.size).map (·.slots.size)).sum
      rw [List.drop_eq_nil_of_le (Nat.le_of_eq Array.length_toList)]
      rfl
    · show ((T.heap.toList.drop T.heap.size).map (·.slots.size)).sum ≤ 0
      rw [List.drop_eq_nil_of_le (Nat.le_of_eq Array.length_toList)]
      exact Nat.le_refl _
/-- 'throw new E()': new; dup; invokespecial; athrow -/
theorem vx_throw0 {cc : ByteArray} {pc : Nat} (hexec : p.tables.exec = Jvm.exec) (hb : c.code = cc) (hl : l.stackTraces = false) {own cls : String} {names : List String} {ik ic mc ms : Nat} {A : Nat → Prop}
    (hown : s.vm.findClass own = some m.cls) (hcls : Bundle.fit cls = true) (hnames : ∀ n ∈ names, Bundle.fit n = true)
    (hk : (Cond.classLink own ik cls).before args s = true) (hini : (Cond.initialized cls).before args s = true) (hat : ∀ w ∈ vx_at0 own ic cls names, w.before args s = true)
    (hgood : ∀ w ∈ Cond.classLink own ik cls :: Cond.initialized cls :: vx_at0 own ic cls names, vx_ot w = true)
    (hU : vx_Zq Bundle.tN "UNASSIGNED_STACK" Bundle.steD A s s.heap) (hN : vx_Zq Bundle.tN "SUPPRESSED_SENTINEL" Bundle.listD A s s.heap) (hS : va_S A s.heap H locs) (hsize : ls.size = c.maxLocals)
    (d0 : decode cc pc = .ok (.new ik, 3)) (d3 : decode cc (pc + 3) = .ok (.dup, 1)) (d4 : decode cc (pc + 4) = .ok (.invokespecial ic, 3)) (d7 : decode cc (pc + 7) = .ok (.athrow, 1))
    (hout : ∀ x ∈ c.exceptionTable.toList, covers x (pc + 7) = false)
    (hRframes : names.length + 3 < R.frames) (hRlocals : (rest.map fun v => v.category).sum + (13 * (names.length + 1) + 42) ≤ R.locals) (hRcells : cells + 1 ≤ R.cells) (hRslots : slots + 6 ≤ R.slots) (hlocks : meth.locks = false)
    (hx : ∀ t : State, s.vm.Alike t.vm → H.size ≤ t.heap.size → (∀ q : Nat, q < H.size → t.heap[q]? = H[q]?) → XC cls s t)
    (hf : ∀ z ∈ locs, free z.base) (hc : cells + 1 ≤ mc) (hs : slots + 6 ≤ ms) :
    W p l e R s m args below meth c H locs cells slots (vx_MQ below Qc XC args s mc ms free) (F0 m pc ls rest) := by
  intro T hT X
  have htr : e.platform.stackTraces = false := (show e.platform.stackTraces = l.stackTraces by rw [X.admits.platform]).trans hl
  have Y := vx_rebase X (R' := { frames := R.frames, locals := R.locals, cells := 1, slots := 6 }) (Nat.le_refl _) (Nat.le_refl _) hRcells hRslots
  obtain ⟨s', hA⟩ : ∃ z, z = (T.setVm s.vm).setFrames (.invoking m args :: below) := ⟨_, rfl⟩
  rw [← hA] at Y
  have hvm : s'.vm = s.vm := by rw [hA]; rfl
  have hhp : s'.heap = H := by rw [hA]; exact hT
  have hW0 : s.WarmedH s'.vm := by rw [hvm]; exact State.WarmedH.refl s
  have hat' : ∀ w ∈ vx_at0 own ic cls names, w.before args s' = true := fun w hw => vx_ot_at hW0 hvm.symm (hgood w (List.mem_cons_of_mem _ (List.mem_cons_of_mem _ hw))) (hat w hw)
  have hk' : (Cond.classLink own ik cls).before args s' = true := vx_ot_at hW0 hvm.symm (hgood _ List.mem_cons_self) hk
  have hini' : (Cond.initialized cls).before args s' = true := vx_ot_at hW0 hvm.symm (hgood _ (List.mem_cons_of_mem _ List.mem_cons_self)) hini
  have hU' : vx_Zq Bundle.tN "UNASSIGNED_STACK" Bundle.steD A s' s'.heap := by rw [hhp]; exact vx_Zq.moved hW0.alike (hU.kept hS.2.1)
  have hN' : vx_Zq Bundle.tN "SUPPRESSED_SENTINEL" Bundle.listD A s' s'.heap := by rw [hhp]; exact vx_Zq.moved hW0.alike (hN.kept hS.2.1)
  have h : ∀ w ∈ Bundle.ownAtoms0 own ic cls names, w.before args s' = true := vx_own hat' (vx_isRefq hU'.1) (vx_isRefq hN'.1) hU'.2.word hN'.2.word
  have hown' : s'.vm.findClass own = some m.cls := by rw [hvm]; exact hown
  have hins : (Cond.instantiable cls 6).before args s' = true := h _ (by simp [Bundle.ownAtoms0])
  obtain ⟨vm₁, cX, kX, hfX, hkX, -, -, X₁, st1⟩ := Y.newCold hexec (own := own) (C := cls) (index := ik) (n := 6) hown' hk' hins hini'
    (g := F0 m pc ls rest) rfl (by rw [hb]; exact d0) (Nat.le_refl _) (Nat.le_refl _)
  generalize hT1 : (T.setVm vm₁).pushCell { cls := cX, slots := kX.instanceTypes.map defaultValue, vm := .none } = T1 at X₁ st1
  have hcat : (Value.ref T.heap.size).category = 1 := rfl
  have hcellA : T1.heap[T.heap.size]? = some (freshCell cX kX) := by rw [← hT1]; exact State.heap_pushCell_size _ _
  have d3' : decode c.code (pc + 3) = .ok (.dup, 1) := by rw [hb]; exact d3
  obtain ⟨U, hsteps, hrun, hend, hW, hsame, ce, hce, hO⟩ := X₁.ctorThrow0 hexec htr (own := own) (cls := cls) (names := names) (ic := ic) hown' hcls hnames h (fun x hx => nomatch hx) hfX hkX hcellA (by rw [hhp, hT]; exact Nat.le_refl _)
    (g := { method := m, pc := pc + 4, locals := ls, stack := .ref T.heap.size :: .ref T.heap.size :: rest, locked := none }) rfl hsize rfl rfl (rest := rest) rfl
    (by rw [hb]; exact d4) (by rw [hb]; exact d7) hout hRframes (by simp only [List.map_cons, List.sum_cons, hcat]; omega) hlocks
  obtain ⟨f1, f2⟩ := vx_frame hsame
  rw [hhp] at f1 f2
  have hWs : s.WarmedH U.vm := State.WarmedH.trans hW0 hW
  have hcl : s.vm.findClass cls = some ce.cls := by
    have h9 := hO.cls
    rw [hvm] at h9
    exact h9
  have hall : s.sameButNew ({ U with vm := s.vm } : State) locs mc ms := by
    subst hA
    obtain ⟨e1, e2⟩ := hsame
    rw [State.setFrames_setFrames] at e1
    have h2 : (T.setVm s.vm).sameButNew ({ U with vm := s.vm } : State) [] (0 + 1) (0 + 6) := ⟨e1, e2⟩
    have h3 := X.same.trans h2
    rw [List.append_nil] at h3
    exact h3.mono hc hs
  refine ⟨U, ?_, .threw T.heap.size, hrun, hend, Or.inr ⟨T.heap.size, rfl, cls, ce, locs, hx U hWs.alike f1 (fun q hq => f2 q hq (fun z hz => nomatch hz)), hce, hO.vm, hcl, hWs, hall, hf⟩⟩
  refine st1 _ ?_
  show Steps p.tables e below (T1.setTop { method := m, pc := pc + 3, locals := ls, stack := .ref T.heap.size :: rest, locked := none }) _
  jvm_step X₁.here [X₁.here.top, hexec, d3', Value.category]
  exact hsteps
/-- 'throw new E("text")': new; dup; ldc; invokespecial; athrow -/
theorem vx_throwS {cc : ByteArray} {pc : Nat} (hexec : p.tables.exec = Jvm.exec) (hb : c.code = cc) (hl : l.stackTraces = false) {own cls text : String} {names : List String} {ik is ic mc ms sa : Nat} {A : Nat → Prop}
    (hown : s.vm.findClass own = some m.cls) (hcls : Bundle.fit cls = true) (hnames : ∀ n ∈ names, Bundle.fit n = true)
    (hk : (Cond.classLink own ik cls).before args s = true) (hini : (Cond.initialized cls).before args s = true) (hstr : vk_R own is text sa s) (hat : ∀ w ∈ vx_atS own ic cls names, w.before args s = true)
    (hgood : ∀ w ∈ Cond.classLink own ik cls :: Cond.initialized cls :: vx_atS own ic cls names, vx_ot w = true)
    (hU : vx_Zq Bundle.tN "UNASSIGNED_STACK" Bundle.steD A s s.heap) (hN : vx_Zq Bundle.tN "SUPPRESSED_SENTINEL" Bundle.listD A s s.heap) (hS : va_S A s.heap H locs) (hsize : ls.size = c.maxLocals)
    (d0 : decode cc pc = .ok (.new ik, 3)) (d3 : decode cc (pc + 3) = .ok (.dup, 1)) (d4 : decode cc (pc + 4) = .ok (.ldc is, 2)) (d6 : decode cc (pc + 6) = .ok (.invokespecial ic, 3)) (d9 : decode cc (pc + 9) = .ok (.athrow, 1))
    (hout : ∀ x ∈ c.exceptionTable.toList, covers x (pc + 9) = false)
    (hRframes : names.length + 3 < R.frames) (hRlocals : (rest.map fun v => v.category).sum + (13 * (names.length + 1) + 43) ≤ R.locals) (hRcells : cells + 1 ≤ R.cells) (hRslots : slots + 6 ≤ R.slots) (hlocks : meth.locks = false)
    (hx : ∀ t : State, s.vm.Alike t.vm → H.size ≤ t.heap.size → (∀ q : Nat, q < H.size → t.heap[q]? = H[q]?) → XC cls s t)
    (hf : ∀ z ∈ locs, free z.base) (hc : cells + 1 ≤ mc) (hs : slots + 6 ≤ ms) :
    W p l e R s m args below meth c H locs cells slots (vx_MQ below Qc XC args s mc ms free) (F0 m pc ls rest) := by
  intro T hT X
  have htr : e.platform.stackTraces = false := (show e.platform.stackTraces = l.stackTraces by rw [X.admits.platform]).trans hl
  have Y := vx_rebase X (R' := { frames := R.frames, locals := R.locals, cells := 1, slots := 6 }) (Nat.le_refl _) (Nat.le_refl _) hRcells hRslots
  obtain ⟨s', hA⟩ : ∃ z, z = (T.setVm s.vm).setFrames (.invoking m args :: below) := ⟨_, rfl⟩
  rw [← hA] at Y
  have hvm : s'.vm = s.vm := by rw [hA]; rfl
  have hhp : s'.heap = H := by rw [hA]; exact hT
  have hW0 : s.WarmedH s'.vm := by rw [hvm]; exact State.WarmedH.refl s
  have hat' : ∀ w ∈ vx_atS own ic cls names, w.before args s' = true := fun w hw => vx_ot_at hW0 hvm.symm (hgood w (List.mem_cons_of_mem _ (List.mem_cons_of_mem _ hw))) (hat w hw)
  have hk' : (Cond.classLink own ik cls).before args s' = true := vx_ot_at hW0 hvm.symm (hgood _ List.mem_cons_self) hk
  have hini' : (Cond.initialized cls).before args s' = true := vx_ot_at hW0 hvm.symm (hgood _ (List.mem_cons_of_mem _ List.mem_cons_self)) hini
  have hU' : vx_Zq Bundle.tN "UNASSIGNED_STACK" Bundle.steD A s' s'.heap := by rw [hhp]; exact vx_Zq.moved hW0.alike (hU.kept hS.2.1)
  have hN' : vx_Zq Bundle.tN "SUPPRESSED_SENTINEL" Bundle.listD A s' s'.heap := by rw [hhp]; exact vx_Zq.moved hW0.alike (hN.kept hS.2.1)
  have h : ∀ w ∈ Bundle.ownAtoms own ic cls names, w.before args s' = true := vx_own hat' (vx_isRefq hU'.1) (vx_isRefq hN'.1) hU'.2.word hN'.2.word
  have hown' : s'.vm.findClass own = some m.cls := by rw [hvm]; exact hown
  have hins : (Cond.instantiable cls 6).before args s' = true := h _ (by simp [Bundle.ownAtoms])
  obtain ⟨vm₁, cX, kX, hfX, hkX, -, -, X₁, st1⟩ := Y.newCold hexec (own := own) (C := cls) (index := ik) (n := 6) hown' hk' hins hini'
    (g := F0 m pc ls rest) rfl (by rw [hb]; exact d0) (Nat.le_refl _) (Nat.le_refl _)
  generalize hT1 : (T.setVm vm₁).pushCell { cls := cX, slots := kX.instanceTypes.map defaultValue, vm := .none } = T1 at X₁ st1
  have hcat : (Value.ref T.heap.size).category = 1 := rfl
  have hcellA : T1.heap[T.heap.size]? = some (freshCell cX kX) := by rw [← hT1]; exact State.heap_pushCell_size _ _
  have d3' : decode c.code (pc + 3) = .ok (.dup, 1) := by rw [hb]; exact d3
  have d4' : decode c.code (pc + 4) = .ok (.ldc is, 2) := by rw [hb]; exact d4
  have hstr' : vk_R own is text sa s' := vk_R.warm hW0 hstr
  obtain ⟨U, hsteps, hrun, hend, hW, hsame, ce, hce, hO⟩ := X₁.ctorThrowS hexec htr (own := own) (cls := cls) (names := names) (ic := ic) hown' hcls hnames h (fun x hx => nomatch hx) hfX hkX hcellA (by rw [hhp, hT]; exact Nat.le_refl _) (msg := .ref sa) rfl
    (g := { method := m, pc := pc + 6, locals := ls, stack := .ref sa :: .ref T.heap.size :: .ref T.heap.size :: rest, locked := none }) rfl hsize rfl rfl (rest := rest) rfl
    (by rw [hb]; exact d6) (by rw [hb]; exact d9) hout hRframes (by simp only [List.map_cons, List.sum_cons, hcat]; omega) hlocks
  obtain ⟨f1, f2⟩ := vx_frame hsame
  rw [hhp] at f1 f2
  have hWs : s.WarmedH U.vm := State.WarmedH.trans hW0 hW
  have hcl : s.vm.findClass cls = some ce.cls := by
    have h9 := hO.cls
    rw [hvm] at h9
    exact h9
  have hall : s.sameButNew ({ U with vm := s.vm } : State) locs mc ms := by
    subst hA
    obtain ⟨e1, e2⟩ := hsame
    rw [State.setFrames_setFrames] at e1
    have h2 : (T.setVm s.vm).sameButNew ({ U with vm := s.vm } : State) [] (0 + 1) (0 + 6) := ⟨e1, e2⟩
    have h3 := X.same.trans h2
    rw [List.append_nil] at h3
    exact h3.mono hc hs
  refine ⟨U, ?_, .threw T.heap.size, hrun, hend, Or.inr ⟨T.heap.size, rfl, cls, ce, locs, hx U hWs.alike f1 (fun q hq => f2 q hq (fun z hz => nomatch hz)), hce, hO.vm, hcl, hWs, hall, hf⟩⟩
  refine st1 _ ?_
  show Steps p.tables e below (T1.setTop { method := m, pc := pc + 3, locals := ls, stack := .ref T.heap.size :: rest, locked := none }) _
  jvm_step X₁.here [X₁.here.top, hexec, d3', Value.category]
  exact X₁.ldcString hexec (own := own) (text := text) (index := is) (a := sa) hown' hstr'.1 hstr'.2
    (g := { method := m, pc := pc + 4, locals := ls, stack := .ref T.heap.size :: .ref T.heap.size :: rest, locked := none }) rfl d4' _ hsteps
/-- 'throw new E("text")', the text by a wide index -/
theorem vx_throwSW {cc : ByteArray} {pc : Nat} (hexec : p.tables.exec = Jvm.exec) (hb : c.code = cc) (hl : l.stackTraces = false) {own cls text : String} {names : List String} {ik is ic mc ms sa : Nat} {A : Nat → Prop}
    (hown : s.vm.findClass own = some m.cls) (hcls : Bundle.fit cls = true) (hnames : ∀ n ∈ names, Bundle.fit n = true)
    (hk : (Cond.classLink own ik cls).before args s = true) (hini : (Cond.initialized cls).before args s = true) (hstr : vk_R own is text sa s) (hat : ∀ w ∈ vx_atS own ic cls names, w.before args s = true)
    (hgood : ∀ w ∈ Cond.classLink own ik cls :: Cond.initialized cls :: vx_atS own ic cls names, vx_ot w = true)
    (hU : vx_Zq Bundle.tN "UNASSIGNED_STACK" Bundle.steD A s s.heap) (hN : vx_Zq Bundle.tN "SUPPRESSED_SENTINEL" Bundle.listD A s s.heap) (hS : va_S A s.heap H locs) (hsize : ls.size = c.maxLocals)
    (d0 : decode cc pc = .ok (.new ik, 3)) (d3 : decode cc (pc + 3) = .ok (.dup, 1)) (d4 : decode cc (pc + 4) = .ok (.ldc_w is, 3)) (d7 : decode cc (pc + 7) = .ok (.invokespecial ic, 3)) (d10 : decode cc (pc + 10) = .ok (.athrow, 1))
    (hout : ∀ x ∈ c.exceptionTable.toList, covers x (pc + 10) = false)
    (hRframes : names.length + 3 < R.frames) (hRlocals : (rest.map fun v => v.category).sum + (13 * (names.length + 1) + 43) ≤ R.locals) (hRcells : cells + 1 ≤ R.cells) (hRslots : slots + 6 ≤ R.slots) (hlocks : meth.locks = false)
    (hx : ∀ t : State, s.vm.Alike t.vm → H.size ≤ t.heap.size → (∀ q : Nat, q < H.size → t.heap[q]? = H[q]?) → XC cls s t)
    (hf : ∀ z ∈ locs, free z.base) (hc : cells + 1 ≤ mc) (hs : slots + 6 ≤ ms) :
    W p l e R s m args below meth c H locs cells slots (vx_MQ below Qc XC args s mc ms free) (F0 m pc ls rest) := by
  intro T hT X
  have htr : e.platform.stackTraces = false := (show e.platform.stackTraces = l.stackTraces by rw [X.admits.platform]).trans hl
  have Y := vx_rebase X (R' := { frames := R.frames, locals := R.locals, cells := 1, slots := 6 }) (Nat.le_refl _) (Nat.le_refl _) hRcells hRslots
  obtain ⟨s', hA⟩ : ∃ z, z = (T.setVm s.vm).setFrames (.invoking m args :: below) := ⟨_, rfl⟩
  rw [← hA] at Y
  have hvm : s'.vm = s.vm := by rw [hA]; rfl
  have hhp : s'.heap = H := by rw [hA]; exact hT
  have hW0 : s.WarmedH s'.vm := by rw [hvm]; exact State.WarmedH.refl s
  have hat' : ∀ w ∈ vx_atS own ic cls names, w.before args s' = true := fun w hw => vx_ot_at hW0 hvm.symm (hgood w (List.mem_cons_of_mem _ (List.mem_cons_of_mem _ hw))) (hat w hw)
  have hk' : (Cond.classLink own ik cls).before args s' = true := vx_ot_at hW0 hvm.symm (hgood _ List.mem_cons_self) hk
  have hini' : (Cond.initialized cls).before args s' = true := vx_ot_at hW0 hvm.symm (hgood _ (List.mem_cons_of_mem _ List.mem_cons_self)) hini
  have hU' : vx_Zq Bundle.tN "UNASSIGNED_STACK" Bundle.steD A s' s'.heap := by rw [hhp]; exact vx_Zq.moved hW0.alike (hU.kept hS.2.1)
  have hN' : vx_Zq Bundle.tN "SUPPRESSED_SENTINEL" Bundle.listD A s' s'.heap := by rw [hhp]; exact vx_Zq.moved hW0.alike (hN.kept hS.2.1)
  have h : ∀ w ∈ Bundle.ownAtoms own ic cls names, w.before args s' = true := vx_own hat' (vx_isRefq hU'.1) (vx_isRefq hN'.1) hU'.2.word hN'.2.word
  have hown' : s'.vm.findClass own = some m.cls := by rw [hvm]; exact hown
  have hins : (Cond.instantiable cls 6).before args s' = true := h _ (by simp [Bundle.ownAtoms])
  obtain ⟨vm₁, cX, kX, hfX, hkX, -, -, X₁, st1⟩ := Y.newCold hexec (own := own) (C := cls) (index := ik) (n := 6) hown' hk' hins hini'
    (g := F0 m pc ls rest) rfl (by rw [hb]; exact d0) (Nat.le_refl _) (Nat.le_refl _)
  generalize hT1 : (T.setVm vm₁).pushCell { cls := cX, slots := kX.instanceTypes.map defaultValue, vm := .none } = T1 at X₁ st1
  have hcat : (Value.ref T.heap.size).category = 1 := rfl
  have hcellA : T1.heap[T.heap.size]? = some (freshCell cX kX) := by rw [← hT1]; exact State.heap_pushCell_size _ _
  have d3' : decode c.code (pc + 3) = .ok (.dup, 1) := by rw [hb]; exact d3
  have d4' : decode c.code (pc + 4) = .ok (.ldc_w is, 3) := by rw [hb]; exact d4
  have hstr' : vk_R own is text sa s' := vk_R.warm hW0 hstr
  obtain ⟨U, hsteps, hrun, hend, hW, hsame, ce, hce, hO⟩ := X₁.ctorThrowS hexec htr (own := own) (cls := cls) (names := names) (ic := ic) hown' hcls hnames h (fun x hx => nomatch hx) hfX hkX hcellA (by rw [hhp, hT]; exact Nat.le_refl _) (msg := .ref sa) rfl
    (g := { method := m, pc := pc + 7, locals := ls, stack := .ref sa :: .ref T.heap.size :: .ref T.heap.size :: rest, locked := none }) rfl hsize rfl rfl (rest := rest) rfl
    (by rw [hb]; exact d7) (by rw [hb]; exact d10) hout hRframes (by simp only [List.map_cons, List.sum_cons, hcat]; omega) hlocks
  obtain ⟨f1, f2⟩ := vx_frame hsame
  rw [hhp] at f1 f2
  have hWs : s.WarmedH U.vm := State.WarmedH.trans hW0 hW
  have hcl : s.vm.findClass cls = some ce.cls := by
    have h9 := hO.cls
    rw [hvm] at h9
    exact h9
  have hall : s.sameButNew ({ U with vm := s.vm } : State) locs mc ms := by
    subst hA
    obtain ⟨e1, e2⟩ := hsame
    rw [State.setFrames_setFrames] at e1
    have h2 : (T.setVm s.vm).sameButNew ({ U with vm := s.vm } : State) [] (0 + 1) (0 + 6) := ⟨e1, e2⟩
    have h3 := X.same.trans h2
    rw [List.append_nil] at h3
    exact h3.mono hc hs
  refine ⟨U, ?_, .threw T.heap.size, hrun, hend, Or.inr ⟨T.heap.size, rfl, cls, ce, locs, hx U hWs.alike f1 (fun q hq => f2 q hq (fun z hz => nomatch hz)), hce, hO.vm, hcl, hWs, hall, hf⟩⟩
  refine st1 _ ?_
  show Steps p.tables e below (T1.setTop { method := m, pc := pc + 3, locals := ls, stack := .ref T.heap.size :: rest, locked := none }) _
  jvm_step X₁.here [X₁.here.top, hexec, d3', Value.category]
  exact X₁.ldcStringW hexec (own := own) (text := text) (index := is) (a := sa) hown' hstr'.1 hstr'.2
    (g := { method := m, pc := pc + 4, locals := ls, stack := .ref T.heap.size :: .ref T.heap.size :: rest, locked := none }) rfl d4' _ hsteps
end Ends
section Bodies
variable {l : Launch}
theorem vx_ofW {y : MethodName} {ws ws' : List Cond} {rm : Room} {Pc : Array Value → State → Prop} {Qc : Array Value → State → Outcome → State → Prop} {XC : String → State → State → Prop} {mc ms : Nat} {free : Addr → Prop} {cc : ByteArray} {maxL : Nat} {ret : Option FieldType}
    (hy : plainName y.cls = true) (hw : ws = Cond.code y cc maxL ret :: ws')
    (body : ∀ p e s m args below meth c s₁, BodyLoose p l y (headSpec ws rm) cc maxL ret e s m args below meth c s₁ → c.maxLocals = maxL → (∀ x ∈ c.exceptionTable.toList, False) → Pc args s →
      W p l e (headSpec ws rm).room s m args below meth c s.heap [] 0 0 (vx_MQ below Qc XC args s mc ms free) (entryFrame m args maxL)) : vx_Met l y ws rm Pc Qc XC mc ms free := by
  refine MetFree.of_bodyS (code := cc) (maxLocals := maxL) (ret := ret) hy ?_ ?_
  · intro args s m h hn
    obtain ⟨meth, c, h1, h2, h3, h4, h5, h6, -, -⟩ := Cond.code_spec hn (atoms_spec (ws := ws) h _ (by rw [hw]; exact List.mem_cons_self))
    exact ⟨meth, c, h1, h2, h3, h4, h5, h6⟩
  · intro p e s m args below meth c s₁ B hml hP _
    have hh0 : s₁.heap = s.heap := by rw [B.state]; rfl
    have ht : ∀ x ∈ c.exceptionTable.toList, False := by
      obtain ⟨meth9, c9, h1, h2, -, -, -, -, h7, -⟩ := Cond.code_spec B.named (atoms_spec (ws := ws) B.pre _ (by rw [hw]; exact List.mem_cons_self))
      cases Option.some.inj (h1.symm.trans B.method)
      cases Option.some.inj (h2.symm.trans (Stand.of_body B).code)
      intro x hx
      rw [Array.isEmpty_iff.mp h7] at hx
      cases hx
    obtain ⟨t, a1, o, b1, b2, b3⟩ := body p e s m args below meth c s₁ B hml ht hP s₁ hh0 (Stand.of_body B)
    exact ⟨t, o, a1, b1, b2, b3⟩
/-- the table of a body with handlers -/
theorem vx_table {p : Program} {x y : MethodName} {S : Spec} {cc bytes : ByteArray} {maxL maxL' : Nat} {ret ret' : Option FieldType} {e : Env} {s s₁ : State} {m : MethodId} {args : Array Value} {below : List Frame} {meth : Method} {c : Code} {hh : List (Nat × Nat × Nat × Nat)}
    (B : BodyLoose p l y S cc maxL ret e s m args below meth c s₁) (h : (Cond.codeWith y bytes maxL' ret' hh).before args s = true) : c.exceptionTable.toList = tableOf hh := by
  obtain ⟨m9, meth9, c9, hn9, h1, h2, -, -, h6, -⟩ := Cond.codeWith_spec h
  cases Option.some.inj (hn9.symm.trans B.named)
  cases Option.some.inj (h1.symm.trans B.method)
  cases Option.some.inj (h2.symm.trans (Stand.of_body B).code)
  rw [← h6, table_eq]
end Bodies
end VXA
/-! ===== END ===== -/
/-! ===== BEGIN a static call of a method with an exception table ===== -/
section VXS
variable {p : Program} {l : Launch} {e : Env} {R : Room} {s : State} {m : MethodId} {args : Array Value} {below : List Frame} {meth : Method} {c : Code} {T : State} {H : Heap} {locs : List Loc} {cells slots : Nat}
abbrev vx_CSW (R : Room) (s : State) (args : Array Value) (own : String) (index : Nat) (y : MethodName) (bytes : ByteArray) (maxL : Nat) (ret : Option FieldType) (hh : List (Nat × Nat × Nat × Nat)) (ws : List Cond) (rm : Room) (mc ms n : Nat) : Prop :=
  (rm.cells = mc ∧ rm.slots = ms ∧ rm.frames + 1 ≤ R.frames ∧ 8 + (maxL + 11) + rm.locals ≤ R.locals ∧ (∀ w ∈ ws, ∀ (a' : Array Value) (U : State), s.WarmedH U.vm → w.before a' U = true) ∧ Cond.codeWith y bytes maxL ret hh ∈ ws) ∧
  (Cond.codeWith y bytes maxL ret hh).before args s = true ∧ (Cond.initialized y.cls).before args s = true ∧ (y.cls ≠ "java/lang/invoke/MethodHandle" ∧ y.cls ≠ "java/lang/invoke/VarHandle") ∧
  (∀ sig, parseMethodDescriptor y.desc = some sig → n = sig.parameters.length) ∧ (Cond.methodLink own index y).before args s = true ∧ (Cond.static y).before args s = true
theorem vx_cwSW {own : String} {index maxL mc ms : Nat} {y : MethodName} {bytes : ByteArray} {ret : Option FieldType} {hh : List (Nat × Nat × Nat × Nat)} {Ts ws ws' : List Cond} {rm : Room} (n : Nat) (ht : ∀ w ∈ Ts, w.before args s = true) (hT : GoodIn Ts (va_wsS own index y ws)) (hw : ws = Cond.codeWith y bytes maxL ret hh :: ws') (hrc : rm.cells = mc) (hrs : rm.slots = ms)
    (hd : y.cls ≠ "java/lang/invoke/MethodHandle" ∧ y.cls ≠ "java/lang/invoke/VarHandle" ∧ (parseMethodDescriptor y.desc).map (fun d => d.parameters.length) = some n) (hR : rm.frames + 1 ≤ R.frames ∧ 8 + (maxL + 11) + rm.locals ≤ R.locals) :
    vx_CSW R s args own index y bytes maxL ret hh ws rm mc ms n := by
  have ok : ∀ w ∈ va_wsS own index y ws, w.before args s = true := fun w h => ht w (hT w h).1
  have hG : GoodIn Ts ws := fun w h => hT w (by unfold va_wsS; exact List.mem_append_right _ h)
  have hc : Cond.codeWith y bytes maxL ret hh ∈ ws := by rw [hw]; exact List.mem_cons_self
  refine ⟨⟨hrc, hrs, hR.1, hR.2, pay_in ht hG, hc⟩, ht _ (hG _ hc).1, ok _ (by simp [va_wsS]), ⟨hd.1, hd.2.1⟩, fun sig h => ?_, ok _ (by simp [va_wsS]), ok _ (by simp [va_wsS])⟩
  have h2 := hd.2.2
  rw [h] at h2
  exact (Option.some.inj h2).symm
theorem vx_callSW (X : Stand p l e R s m args below meth c T locs cells slots) (hexec : p.tables.exec = Jvm.exec) {own : String} {index : Nat} {y : MethodName} {bytes : ByteArray} {maxL : Nat} {ret : Option FieldType} {hh : List (Nat × Nat × Nat × Nat)}
    (hown : s.vm.findClass own = some m.cls) (hlink : (Cond.methodLink own index y).before args s = true) (hstat : (Cond.static y).before args s = true) (hinit : (Cond.initialized y.cls).before args s = true)
    (hcode : (Cond.codeWith y bytes maxL ret hh).before args s = true) (hy : y.cls ≠ "java/lang/invoke/MethodHandle" ∧ y.cls ≠ "java/lang/invoke/VarHandle")
    {W9 : Nat} {Pre : Pt → Array Value → Prop} {Post : Pt → Array Value → Option Value → Pt → Prop} (hK : Back l R p e below s args y 3 W9 Pre Post)
    {g : JFrame} (hg : g.method = m) (hsize : g.locals.size = c.maxLocals) {argsL rest : List Value} (hlen : ∀ sig, parseMethodDescriptor y.desc = some sig → argsL.length = sig.parameters.length)
    (hstack : g.stack = argsL.reverse ++ rest) (hW : 2 * g.monitorRoom + (rest.map fun v => v.category).sum ≤ W9) (hdg : decode c.code g.pc = .ok (.invokestatic index, 3))
    (hpre : ∀ vm₁, s.WarmedH vm₁ → Pre ⟨T.setVm vm₁, locs, cells, slots⟩ argsL.toArray) :
    ∃ (v : Option Value) (vm₁ : Vm) (B : Pt), s.WarmedH vm₁ ∧ Stand p l e R s m args below meth c B.U B.locs B.cells B.slots ∧ Post ⟨T.setVm vm₁, locs, cells, slots⟩ argsL.toArray v B ∧
      ∀ target, Steps p.tables e below (B.U.setTop { g with pc := g.pc + 3, stack := v.toList ++ rest }) target → Steps p.tables e below (T.setTop g) target := by
  obtain ⟨mk, methM, cM, hnamed, hmethM, -, -, -, -, -, -, hsigM⟩ := Cond.codeWith_spec hcode
  have hstatic : methM.isStatic = true := Cond.static_spec hnamed hmethM hstat
  obtain ⟨kP, hkP, -⟩ := className_of_methodNamed hnamed
  have hinitP : kP.init = .initialized := Cond.initialized_spec (findClass_of_methodNamed hnamed) hkP hinit
  obtain ⟨vm₁, X₁, hstep₁⟩ := X.invokestatic hexec hown hlink hnamed hmethM hstatic hkP hinitP hy (g := g) hg (argsL := argsL) (rest := rest) (hlen _ hsigM) hstack hdg
  obtain ⟨v, B, X', hpost, hsteps⟩ := hK m meth c ⟨T.setVm vm₁, locs, cells, slots⟩ { g with stack := rest } (.invokestatic index) mk argsL.toArray X₁ hg hsize hdg hW (X₁.named hnamed) (hpre vm₁ X₁.warmed)
  exact ⟨v, vm₁, B, X₁.warmed, X', hpost, fun target h => hstep₁ _ fun acts => by rw [doInvoke_state]; exact hsteps.trans h⟩
theorem vx_runSW {y : MethodName} {bytes cc : ByteArray} {maxL nL mc ms n index : Nat} {ret : Option FieldType} {hh : List (Nat × Nat × Nat × Nat)} {ws : List Cond} {rm : Room} {Pc : Array Value → State → Prop} {Qc : Array Value → State → Outcome → State → Prop} {free : Addr → Prop} {Ts : List Cond} {own : String} {As rest : List Value} {g : JFrame}
    (S : CallFix p m c cc nL s args Ts own) (hM : Met l y ws rm Pc Qc mc ms free) (cw : vx_CSW R s args own index y bytes maxL ret hh ws rm mc ms n) (hp : PreS s H Pc As)
    (hg : g.method = m) (hn : As.length = n) (hsize : g.locals.size = nL) (hstack : g.stack = As.reverse ++ rest) (hW : 2 * g.monitorRoom + (rest.map fun v => v.category).sum ≤ 8) (hdg : decode cc g.pc = .ok (.invokestatic index, 3)) (hf : cells + mc ≤ R.cells ∧ slots + ms ≤ R.slots) :
    va_Run p l e R s m args below meth c H locs cells slots mc ms g rest (Qc As.toArray) (free) := by
  obtain ⟨⟨hrc, hrs, hfr, hlo, hws, hcw⟩, hcode, hini, hy, hlen, hl, hstt⟩ := cw
  have hK : Back l R p e below s args y 3 8 (PreOf R mc ms Pc) (PostOf Qc mc ms free) := va_backW (hh := hh) (bytes := bytes) (maxL := maxL) (ret := ret) hM hp.1 hrc hrs hfr hlo hws hcw (fun a' U hW => word_at hW (Or.inl (by first | rfl | simp [Cond.onTables, Cond.keeps, Cond.steady])) hini)
  obtain ⟨hx, hb, hml, ho, -⟩ := S
  intro T hT X
  obtain ⟨v, vm₁, ⟨U', l2, c2, s2⟩, hW₁, X', ⟨g', mk, t, L, e1, e2, hq, h1, hL, h2, h3⟩, st⟩ := vx_callSW X hx (hh := hh) (bytes := bytes) (maxL := maxL) (ret := ret) ho hl hstt hini hcode hy hK hg (hsize.trans hml.symm) (argsL := As) (rest := rest) (fun sig h => hn.trans (hlen sig h)) hstack hW (by rw [hb]; exact hdg)
    (fun vm₁ hW₁ => ⟨hf.1, hf.2, hp.2 (T.setVm vm₁) hT hW₁⟩)
  dsimp only [Pt.U, Pt.locs, Pt.cells, Pt.slots] at X' e1 e2 h1 h2 h3 st
  subst h1; subst h2; subst h3
  exact ⟨v, (T.setVm vm₁).calling g' mk As.toArray, t, U', L, hT, X', hL, e1, e2, hq, st⟩
/-- not caught here, past rows that name other classes: it goes on to the caller -/
theorem vx_outP {p : Program} {l : Launch} {e : Env} {R : Room} {s : State} {m : MethodId} {args : Array Value} {below : List Frame} {meth : Method} {c : Code} {H : Heap} {locs : List Loc} {cells slots : Nat} {free : Addr → Prop} {ls : Array Slot} {rest : List Value} {Qc : Array Value → State → Outcome → State → Prop} {XC : String → State → State → Prop}
    {pc : Nat} {own E : String} {ce : Cell} {q : Addr} {mc ms : Nat} (hown : s.vm.findClass own = some m.cls) (hlocks : meth.locks = false)
    (hpass : ∀ z ∈ c.exceptionTable.toList, covers z pc = false ∨ (z.catchType ≠ 0 ∧ ∃ nm : String, (Cond.classLink own z.catchType nm).before args s = true ∧ va_Nc E nm s)) (hcell : H[q]? = some ce) (hv : ce.vm = .none) (hcl : s.vm.findClass E = some ce.cls)
    (hx : ∀ t : State, t.heap = H → s.vm.Alike t.vm → XC E s t) (hf : ∀ z ∈ locs, free z.base) (hc : cells ≤ mc) (hs : slots ≤ ms) :
    vx_W p l e R s m args below meth c H locs cells slots (vx_MQ below Qc XC args s mc ms free) (F0 m pc ls rest) q := by
  intro T hT X
  have hpl : e.platform.magicAccessors = ({} : Platform).magicAccessors := by rw [X.admits.platform]
  obtain ⟨vm', hW', X', st⟩ := X.outThrough hlocks q (g := F0 m pc ls rest) rfl rfl rfl (cell := ce) (by rw [hT]; exact hcell) (by rw [hv]; rfl)
    (by obtain ⟨k9, h9, -⟩ := Vm.findClass_spec hcl; exact ⟨k9, h9⟩) (fun z hz => by
      rcases hpass z hz with h | ⟨hz0, nm, hl1, hn1⟩
      · exact Or.inl h
      · obtain ⟨c6, hc6, hcl6⟩ := Cond.classLink_spec hown hl1 e.platform hpl
        obtain ⟨a8, b8, h1, h2, h3⟩ := hn1
        cases Option.some.inj (h1.symm.trans hcl)
        cases Option.some.inj (h2.symm.trans hc6)
        exact Or.inr ⟨hz0, _, hcl6, h3⟩)
  obtain ⟨g₀, hfr⟩ := X'.frames_eq
  have hcell9 : ((T.setVm vm').setFrames (.throwing q :: below)).heap[q]? = some ce := by
    show T.heap[q]? = some ce
    rw [hT]; exact hcell
  have hend : Ended ((T.setVm vm').setFrames (.throwing q :: below)) below (.threw q) := State.frames_setFrames _ (State.cur_lt_of_frames hfr)
  refine ⟨(T.setVm vm').setFrames (.throwing q :: below), ?_, .threw q, X'.here.running, hend, Or.inr ⟨q, rfl, E, ce, locs, hx _ hT (X'.ends _).1.alike, hcell9, hv, hcl, (X'.ends _).1, (X'.ends _).2.mono hc hs, hf⟩⟩
  rw [X.pushThrowing_eq]
  exact st
/-- a thing of a world lies in the heap -/
theorem vx_lt {D : va_G} {cl : List vw_C} {ws : va_W} {H1 : Heap} (h : va_P D cl ws H1) {k : Nat} {q : Nat × va_E} (hk : ws[k]? = some q) : q.1 < H1.size := (h k q hk).lt
end VXS
/-! ===== END ===== -/
/-! ===== BEGIN methods with a table of their own: called by a name, returning or throwing ===== -/
section VXH
/-! vx_backW, vx_callVX, vx_callSX, vx_callVW, vx_runVW, vx_runVX, vx_runSX, vx_ofWH follow the same proofs as their sisters above (Free/Laws.lean, Shelf42/LK1.lean); vx_outP calls Shelf42/NT130.lean (outThrough). -/
section
variable {l : Launch} {R : Room} {p : Program} {e : Env} {below : List Frame} {s : State} {sargs : Array Value} {y : MethodName} {len W9 : Nat}
theorem vx_backW {ws : List Cond} {rm : Room} {Pc : Array Value → State → Prop} {Qc : Array Value → State → Outcome → State → Prop} {XC : String → State → State → Prop} {mc ms : Nat} {free : Addr → Prop} {bytes : ByteArray} {maxL : Nat} {ret : Option FieldType} {hh : List (Nat × Nat × Nat × Nat)}
    (hM : vx_Met l y ws rm Pc Qc XC mc ms free) (hblind : FrameBlind Pc) (hrc : rm.cells = mc) (hrs : rm.slots = ms)
    (hframes : rm.frames + 1 ≤ R.frames) (hlocals : W9 + (maxL + 11) + rm.locals ≤ R.locals)
    (hws : ∀ w ∈ ws, ∀ a' U, s.WarmedH U.vm → w.before a' U = true) (hcode : Cond.codeWith y bytes maxL ret hh ∈ ws) (hinit : ∀ a' U, s.WarmedH U.vm → (Cond.initialized y.cls).before a' U = true) :
    vx_Back l R p e below s sargs y len W9 (PreOf R mc ms Pc) (PostOf Qc mc ms free) (vx_Post XC mc ms free) := by
  intro m meth c A g ig mk a X hg hsize hdg hW hn hp
  have h1 : (headSpec ws rm).pre.before a A.U = true := atoms_intro fun w hw => hws w hw _ _ X.warmed
  have h2 : (Cond.codeWith y bytes maxL ret hh).before a A.U = true := hws _ hcode _ _ X.warmed
  have h3 : (Cond.initialized y.cls).before a A.U = true := hinit _ _ X.warmed
  have h4 : A.cells + (headSpec ws rm).room.cells ≤ R.cells := by rw [show (headSpec ws rm).room.cells = mc from hrc]; exact hp.1
  have h5 : A.slots + (headSpec ws rm).room.slots ≤ R.slots := by rw [show (headSpec ws rm).room.slots = ms from hrs]; exact hp.2.1
  have hPc : Pc a (A.U.calling g mk a) := hblind _ _ _ _ hp.2.2
  obtain ⟨U, Ls, c0, s0⟩ := A
  dsimp only [Pt.U, Pt.locs, Pt.cells, Pt.slots] at h1 h2 h3 h4 h5 X hn hPc ⊢
  obtain ⟨m9, methY, cY, hn9, hmY, hcY, -, hlY, -⟩ := Cond.codeWith_spec h2
  cases Option.some.inj (hn9.symm.trans hn)
  obtain ⟨kY, hkY, -⟩ := className_of_methodNamed hn
  have hinitY : kY.init = .initialized := Cond.initialized_spec (findClass_of_methodNamed hn) hkY h3
  have h : At U g.method c below := by rw [hg]; exact X.here
  have hlocals9 : W9 + (maxL + 11) + (headSpec ws rm).room.locals ≤ R.locals := hlocals
  have happ : (headSpec ws rm).appliesLoose y e.platform (U.calling g mk a) = true :=
    Spec.appliesLoose_calling (g := g) h hdg hn hkY hinitY
      (X.room_calling (g := g) (R' := (headSpec ws rm).room) hsize hmY hcY hframes (by rw [hlY]; omega) h4 h5) h1
  obtain ⟨mid, hmid⟩ := h.above
  have hfr : (U.setTop g).frames = (.java g :: mid) ++ below := by rw [State.frames_setTop' g h.top, hmid]; rfl
  obtain ⟨o, s₂, hsteps, -, hend, hq⟩ := Steps.callFree hM p X.admits X.cas X.clock (acts := []) hfr happ hPc trivial
  have hq' : vx_Q Qc XC mc ms free a (U.calling g mk a) o s₂ := hq
  rw [State.frames_setTop' g h.top] at hend
  obtain ⟨g₀, hg0⟩ := Option.isSome_iff_exists.mp h.top
  obtain ⟨r, hr⟩ := State.topJava?_eq_some.mp hg0
  have hr' : (({ U with heap := s₂.heap, slotsUsed := s₂.slotsUsed } : State).setVm s₂.vm).frames = .java g₀ :: r := hr
  rcases hq' with ⟨hqc, L, hfe, hL⟩ | ⟨q, rfl, E, ce, L, hx, hce, hcv, hcl, hW₂, hsm, hL⟩
  · obtain ⟨⟨v, rfl⟩, hW₂, e2, q2, q3, q4, q5, q6⟩ := id hfe
    have e3 : s₂ = ({ (U.calling g mk a).setFrames s₂.frames with heap := s₂.heap, slotsUsed := s₂.slotsUsed } : State).setVm s₂.vm := by
      have : s₂ = ({ s₂ with vm := (U.calling g mk a).vm } : State).setVm s₂.vm := rfl
      rw [e2] at this
      exact this
    obtain ⟨c₂, i₂, len₂, hc₂, hd₂, hf₂⟩ := hend
    have hW' : U.WarmedH s₂.vm := hW₂
    have hcc : c₂ = c := by
      have h1 : s₂.code? g.method = U.code? g.method := by
        rw [State.code?_eq, State.code?_eq, hW'.alike.method?]
      exact Option.some.inj (hc₂.symm.trans (h1.trans h.code))
    subst hcc
    have hlen : len₂ = len := by rw [hdg] at hd₂; cases hd₂; rfl
    subst hlen
    have hs₂ : s₂ = (({ U with heap := s₂.heap, slotsUsed := s₂.slotsUsed } : State).setVm s₂.vm).setTop { g with pc := g.pc + len₂, stack := v.toList ++ g.stack } := by
      refine e3.trans ?_
      rw [hf₂, State.calling_eq h.top, State.setFrames_setFrames, State.setTop_of_frames _ hr', hr]
      rfl
    have hsame : U.sameButNew ({ U with heap := s₂.heap, slotsUsed := s₂.slotsUsed } : State) L mc ms := by
      refine ⟨?_, q2, q3, q4, q5, q6⟩
      obtain ⟨t, ht, -⟩ := State.frames_cons hr
      show ({ U with heap := s₂.heap, slotsUsed := s₂.slotsUsed } : State) = { U.setFrames U.frames with heap := s₂.heap, slotsUsed := s₂.slotsUsed }
      rw [State.setFrames_self ht]
    subst hg
    refine Or.inl ⟨v, ⟨(({ U with heap := s₂.heap, slotsUsed := s₂.slotsUsed } : State).setVm s₂.vm), Ls ++ L, c0 + mc, s0 + ms⟩,
      ⟨X.admits, X.cas, X.clock, X.frames, X.room, X.hears, X.method, X.code, (X.here.setHeapUsed s₂.heap s₂.slotsUsed).setVm hW'.alike, X.tail, State.WarmedH.trans X.warmed hW', X.limits, X.bytes, X.same.trans (hsame.setVm s.vm)⟩,
      ⟨g, mk, s₂, L, rfl, rfl, hqc, rfl, hL, rfl, rfl⟩, ?_⟩
    show Steps p.tables e below _ ((({ U with heap := s₂.heap, slotsUsed := s₂.slotsUsed } : State).setVm s₂.vm).setTop { g with pc := g.pc + len₂, stack := v.toList ++ g.stack })
    rw [← hs₂]
    exact hsteps
  · obtain ⟨e2, q2, q3, q4, q5, q6⟩ := id hsm
    have e3 : s₂ = ({ (U.calling g mk a).setFrames s₂.frames with heap := s₂.heap, slotsUsed := s₂.slotsUsed } : State).setVm s₂.vm := by
      have : s₂ = ({ s₂ with vm := (U.calling g mk a).vm } : State).setVm s₂.vm := rfl
      rw [e2] at this
      exact this
    have hf₂ : s₂.frames = .throwing q :: .java g :: U.frames.tail := hend
    have hW' : U.WarmedH s₂.vm := hW₂
    have hs₂ : s₂ = ((({ U with heap := s₂.heap, slotsUsed := s₂.slotsUsed } : State).setVm s₂.vm).setTop g).pushFrame (.throwing q) := by
      refine e3.trans ?_
      rw [hf₂, State.calling_eq h.top, State.setFrames_setFrames, State.pushFrame, State.frames_setTop _ hr', State.setTop_of_frames _ hr', State.setFrames_setFrames, hr]
      rfl
    have hsame : U.sameButNew ({ U with heap := s₂.heap, slotsUsed := s₂.slotsUsed } : State) L mc ms := by
      refine ⟨?_, q2, q3, q4, q5, q6⟩
      obtain ⟨t, ht, -⟩ := State.frames_cons hr
      show ({ U with heap := s₂.heap, slotsUsed := s₂.slotsUsed } : State) = { U.setFrames U.frames with heap := s₂.heap, slotsUsed := s₂.slotsUsed }
      rw [State.setFrames_self ht]
    subst hg
    refine Or.inr ⟨q, ⟨(({ U with heap := s₂.heap, slotsUsed := s₂.slotsUsed } : State).setVm s₂.vm), Ls ++ L, c0 + mc, s0 + ms⟩,
      ⟨X.admits, X.cas, X.clock, X.frames, X.room, X.hears, X.method, X.code, (X.here.setHeapUsed s₂.heap s₂.slotsUsed).setVm hW'.alike, X.tail, State.WarmedH.trans X.warmed hW', X.limits, X.bytes, X.same.trans (hsame.setVm s.vm)⟩,
      ⟨g, mk, s₂, L, E, ce, rfl, rfl, hx, hce, hcv, hcl, rfl, hL, rfl, rfl⟩, ?_⟩
    show Steps p.tables e below _ (((({ U with heap := s₂.heap, slotsUsed := s₂.slotsUsed } : State).setVm s₂.vm).setTop g).pushFrame (.throwing q))
    rw [← hs₂]
    exact hsteps
end
variable {p : Program} {l : Launch} {e : Env} {R : Room} {s : State} {m : MethodId} {args : Array Value} {below : List Frame} {meth : Method} {c : Code} {T : State} {H : Heap} {locs : List Loc} {cells slots : Nat}
theorem vx_callVX (X : Stand p l e R s m args below meth c T locs cells slots) (hexec : p.tables.exec = Jvm.exec) {own C : String} {index : Nat} {y : MethodName} {bytes : ByteArray} {maxL : Nat} {ret : Option FieldType} {hh : List (Nat × Nat × Nat × Nat)}
    (hown : s.vm.findClass own = some m.cls) (hlink : (Cond.methodLink own index y).before args s = true) (hinst : (Cond.instanceMethod y).before args s = true) (hsel : (Cond.selects C y y).before args s = true)
    (hcode : (Cond.codeWith y bytes maxL ret hh).before args s = true) (hy : y.cls ≠ "java/lang/invoke/MethodHandle" ∧ y.cls ≠ "java/lang/invoke/VarHandle")
    {W9 : Nat} {Pre : Pt → Array Value → Prop} {Post : Pt → Array Value → Option Value → Pt → Prop} {PostX : Pt → Array Value → Addr → Pt → Prop} (hK : vx_Back l R p e below s args y 3 W9 Pre Post PostX)
    {b : Addr} {cellB : Cell} (hcell : T.heap[b]? = some cellB) (hobj : cellB.vm.isStatics = false) (hcls : s.vm.findClass C = some cellB.cls)
    {g : JFrame} (hg : g.method = m) (hsize : g.locals.size = c.maxLocals) {argsL rest : List Value} (hlen : ∀ sig, parseMethodDescriptor y.desc = some sig → argsL.length = sig.parameters.length)
    (hstack : g.stack = argsL.reverse ++ .ref b :: rest) (hW : 2 * g.monitorRoom + (rest.map fun v => v.category).sum ≤ W9) (hdg : decode c.code g.pc = .ok (.invokevirtual index, 3))
    (hpre : ∀ vm₁, s.WarmedH vm₁ → Pre ⟨T.setVm vm₁, locs, cells, slots⟩ (Value.ref b :: argsL).toArray) :
    (∃ (v : Option Value) (vm₁ : Vm) (B : Pt), s.WarmedH vm₁ ∧ Stand p l e R s m args below meth c B.U B.locs B.cells B.slots ∧ Post ⟨T.setVm vm₁, locs, cells, slots⟩ (Value.ref b :: argsL).toArray v B ∧
      ∀ target, Steps p.tables e below (B.U.setTop { g with pc := g.pc + 3, stack := v.toList ++ rest }) target → Steps p.tables e below (T.setTop g) target) ∨
    (∃ (q : Addr) (vm₁ : Vm) (B : Pt), s.WarmedH vm₁ ∧ Stand p l e R s m args below meth c B.U B.locs B.cells B.slots ∧ PostX ⟨T.setVm vm₁, locs, cells, slots⟩ (Value.ref b :: argsL).toArray q B ∧
      Steps p.tables e below (T.setTop g) ((B.U.setTop { g with stack := rest }).pushFrame (.throwing q))) := by
  obtain ⟨mk, methM, hnamed, hmethM, hstM, habM⟩ := Cond.instanceMethod_spec hinst
  obtain ⟨m8, methM', cM, hn8, hmethM', -, -, -, -, -, -, hsigM⟩ := Cond.codeWith_spec hcode
  cases Option.some.inj (hn8.symm.trans hnamed)
  cases hmethM.symm.trans hmethM'
  obtain ⟨c2, r2, m2, q1, q2, q3, q4, kP, hkP, hkPi⟩ := Cond.selects_spec hsel
  cases hcls.symm.trans q1
  cases (State.methodFound?_of_named hnamed hy).symm.trans q2
  cases hnamed.symm.trans q3
  have hselP : selectMethod e.platform s.vm cellB.cls mk = .method mk := by rw [Launch.admits_selectMethod X.admits]; exact q4
  obtain ⟨vm₁, X₁, hstep₁⟩ := X.invokevirtual hexec hown hlink hnamed hmethM hstM hkP hkPi hy (a := b) (cell := cellB) hcell
    (fun z h => by rw [h] at hobj; cases hobj) hselP hmethM habM hkP hkPi (g := g) hg (argsL := argsL) (rest := rest) (hlen _ hsigM) hstack hdg
  rcases hK m meth c ⟨T.setVm vm₁, locs, cells, slots⟩ { g with stack := rest } (.invokevirtual index) mk (Value.ref b :: argsL).toArray X₁ hg hsize hdg hW (X₁.named hnamed) (hpre vm₁ X₁.warmed) with ⟨v, B, X', hpost, hsteps⟩ | ⟨q, B, X', hpost, hsteps⟩
  · exact Or.inl ⟨v, vm₁, B, X₁.warmed, X', hpost, fun target h => hstep₁ _ fun acts => by rw [doInvoke_state]; exact hsteps.trans h⟩
  · exact Or.inr ⟨q, vm₁, B, X₁.warmed, X', hpost, hstep₁ _ fun acts => by rw [doInvoke_state]; exact hsteps⟩
theorem vx_callSX (X : Stand p l e R s m args below meth c T locs cells slots) (hexec : p.tables.exec = Jvm.exec) {own : String} {index : Nat} {y : MethodName} {bytes : ByteArray} {maxL : Nat} {ret : Option FieldType} {hh : List (Nat × Nat × Nat × Nat)}
    (hown : s.vm.findClass own = some m.cls) (hlink : (Cond.methodLink own index y).before args s = true) (hstat : (Cond.static y).before args s = true) (hinit : (Cond.initialized y.cls).before args s = true)
    (hcode : (Cond.codeWith y bytes maxL ret hh).before args s = true) (hy : y.cls ≠ "java/lang/invoke/MethodHandle" ∧ y.cls ≠ "java/lang/invoke/VarHandle")
    {W9 : Nat} {Pre : Pt → Array Value → Prop} {Post : Pt → Array Value → Option Value → Pt → Prop} {PostX : Pt → Array Value → Addr → Pt → Prop} (hK : vx_Back l R p e below s args y 3 W9 Pre Post PostX)
    {g : JFrame} (hg : g.method = m) (hsize : g.locals.size = c.maxLocals) {argsL rest : List Value} (hlen : ∀ sig, parseMethodDescriptor y.desc = some sig → argsL.length = sig.parameters.length)
    (hstack : g.stack = argsL.reverse ++ rest) (hW : 2 * g.monitorRoom + (rest.map fun v => v.category).sum ≤ W9) (hdg : decode c.code g.pc = .ok (.invokestatic index, 3))
    (hpre : ∀ vm₁, s.WarmedH vm₁ → Pre ⟨T.setVm vm₁, locs, cells, slots⟩ argsL.toArray) :
    (∃ (v : Option Value) (vm₁ : Vm) (B : Pt), s.WarmedH vm₁ ∧ Stand p l e R s m args below meth c B.U B.locs B.cells B.slots ∧ Post ⟨T.setVm vm₁, locs, cells, slots⟩ argsL.toArray v B ∧
      ∀ target, Steps p.tables e below (B.U.setTop { g with pc := g.pc + 3, stack := v.toList ++ rest }) target → Steps p.tables e below (T.setTop g) target) ∨
    (∃ (q : Addr) (vm₁ : Vm) (B : Pt), s.WarmedH vm₁ ∧ Stand p l e R s m args below meth c B.U B.locs B.cells B.slots ∧ PostX ⟨T.setVm vm₁, locs, cells, slots⟩ argsL.toArray q B ∧
      Steps p.tables e below (T.setTop g) ((B.U.setTop { g with stack := rest }).pushFrame (.throwing q))) := by
  obtain ⟨mk, methM, cM, hnamed, hmethM, -, -, -, -, -, -, hsigM⟩ := Cond.codeWith_spec hcode
  have hstatic : methM.isStatic = true := Cond.static_spec hnamed hmethM hstat
  obtain ⟨kP, hkP, -⟩ := className_of_methodNamed hnamed
  have hinitP : kP.init = .initialized := Cond.initialized_spec (findClass_of_methodNamed hnamed) hkP hinit
  obtain ⟨vm₁, X₁, hstep₁⟩ := X.invokestatic hexec hown hlink hnamed hmethM hstatic hkP hinitP hy (g := g) hg (argsL := argsL) (rest := rest) (hlen _ hsigM) hstack hdg
  rcases hK m meth c ⟨T.setVm vm₁, locs, cells, slots⟩ { g with stack := rest } (.invokestatic index) mk argsL.toArray X₁ hg hsize hdg hW (X₁.named hnamed) (hpre vm₁ X₁.warmed) with ⟨v, B, X', hpost, hsteps⟩ | ⟨q, B, X', hpost, hsteps⟩
  · exact Or.inl ⟨v, vm₁, B, X₁.warmed, X', hpost, fun target h => hstep₁ _ fun acts => by rw [doInvoke_state]; exact hsteps.trans h⟩
  · exact Or.inr ⟨q, vm₁, B, X₁.warmed, X', hpost, hstep₁ _ fun acts => by rw [doInvoke_state]; exact hsteps⟩
theorem vx_callVW (X : Stand p l e R s m args below meth c T locs cells slots) (hexec : p.tables.exec = Jvm.exec) {own C : String} {index : Nat} {y : MethodName} {bytes : ByteArray} {maxL : Nat} {ret : Option FieldType} {hh : List (Nat × Nat × Nat × Nat)}
    (hown : s.vm.findClass own = some m.cls) (hlink : (Cond.methodLink own index y).before args s = true) (hinst : (Cond.instanceMethod y).before args s = true) (hsel : (Cond.selects C y y).before args s = true)
    (hcode : (Cond.codeWith y bytes maxL ret hh).before args s = true) (hy : y.cls ≠ "java/lang/invoke/MethodHandle" ∧ y.cls ≠ "java/lang/invoke/VarHandle")
    {W9 : Nat} {Pre : Pt → Array Value → Prop} {Post : Pt → Array Value → Option Value → Pt → Prop} (hK : Back l R p e below s args y 3 W9 Pre Post)
    {b : Addr} {cellB : Cell} (hcell : T.heap[b]? = some cellB) (hobj : cellB.vm.isStatics = false) (hcls : s.vm.findClass C = some cellB.cls)
    {g : JFrame} (hg : g.method = m) (hsize : g.locals.size = c.maxLocals) {argsL rest : List Value} (hlen : ∀ sig, parseMethodDescriptor y.desc = some sig → argsL.length = sig.parameters.length)
    (hstack : g.stack = argsL.reverse ++ .ref b :: rest) (hW : 2 * g.monitorRoom + (rest.map fun v => v.category).sum ≤ W9) (hdg : decode c.code g.pc = .ok (.invokevirtual index, 3))
    (hpre : ∀ vm₁, s.WarmedH vm₁ → Pre ⟨T.setVm vm₁, locs, cells, slots⟩ (Value.ref b :: argsL).toArray) :
    ∃ (v : Option Value) (vm₁ : Vm) (B : Pt), s.WarmedH vm₁ ∧ Stand p l e R s m args below meth c B.U B.locs B.cells B.slots ∧ Post ⟨T.setVm vm₁, locs, cells, slots⟩ (Value.ref b :: argsL).toArray v B ∧
      ∀ target, Steps p.tables e below (B.U.setTop { g with pc := g.pc + 3, stack := v.toList ++ rest }) target → Steps p.tables e below (T.setTop g) target := by
  obtain ⟨mk, methM, hnamed, hmethM, hstM, habM⟩ := Cond.instanceMethod_spec hinst
  obtain ⟨m8, methM', cM, hn8, hmethM', -, -, -, -, -, -, hsigM⟩ := Cond.codeWith_spec hcode
  cases Option.some.inj (hn8.symm.trans hnamed)
  cases hmethM.symm.trans hmethM'
  obtain ⟨c2, r2, m2, q1, q2, q3, q4, kP, hkP, hkPi⟩ := Cond.selects_spec hsel
  cases hcls.symm.trans q1
  cases (State.methodFound?_of_named hnamed hy).symm.trans q2
  cases hnamed.symm.trans q3
  have hselP : selectMethod e.platform s.vm cellB.cls mk = .method mk := by rw [Launch.admits_selectMethod X.admits]; exact q4
  obtain ⟨vm₁, X₁, hstep₁⟩ := X.invokevirtual hexec hown hlink hnamed hmethM hstM hkP hkPi hy (a := b) (cell := cellB) hcell
    (fun z h => by rw [h] at hobj; cases hobj) hselP hmethM habM hkP hkPi (g := g) hg (argsL := argsL) (rest := rest) (hlen _ hsigM) hstack hdg
  obtain ⟨v, B, X', hpost, hsteps⟩ := hK m meth c ⟨T.setVm vm₁, locs, cells, slots⟩ { g with stack := rest } (.invokevirtual index) mk (Value.ref b :: argsL).toArray X₁ hg hsize hdg hW (X₁.named hnamed) (hpre vm₁ X₁.warmed)
  exact ⟨v, vm₁, B, X₁.warmed, X', hpost, fun target h => hstep₁ _ fun acts => by rw [doInvoke_state]; exact hsteps.trans h⟩
abbrev vx_CVW (R : Room) (s : State) (args : Array Value) (own C : String) (index : Nat) (y : MethodName) (bytes : ByteArray) (maxL : Nat) (ret : Option FieldType) (hh : List (Nat × Nat × Nat × Nat)) (ws : List Cond) (rm : Room) (mc ms n : Nat) : Prop :=
  (rm.cells = mc ∧ rm.slots = ms ∧ rm.frames + 1 ≤ R.frames ∧ 8 + (maxL + 11) + rm.locals ≤ R.locals ∧ (∀ w ∈ ws, ∀ (a' : Array Value) (U : State), s.WarmedH U.vm → w.before a' U = true) ∧ Cond.codeWith y bytes maxL ret hh ∈ ws) ∧
  (Cond.codeWith y bytes maxL ret hh).before args s = true ∧ (Cond.initialized y.cls).before args s = true ∧ (y.cls ≠ "java/lang/invoke/MethodHandle" ∧ y.cls ≠ "java/lang/invoke/VarHandle") ∧
  (∀ sig, parseMethodDescriptor y.desc = some sig → n = sig.parameters.length) ∧ (Cond.methodLink own index y).before args s = true ∧ (Cond.instanceMethod y).before args s = true ∧ (Cond.selects C y y).before args s = true
theorem vx_cwVW {own C : String} {index maxL mc ms : Nat} {y : MethodName} {bytes : ByteArray} {ret : Option FieldType} {hh : List (Nat × Nat × Nat × Nat)} {Ts ws ws' : List Cond} {rm : Room} (n : Nat) (ht : ∀ w ∈ Ts, w.before args s = true) (hT : GoodIn Ts (wsV own index C y ws)) (hw : ws = Cond.codeWith y bytes maxL ret hh :: ws') (hrc : rm.cells = mc) (hrs : rm.slots = ms)
    (hd : y.cls = C ∧ y.cls ≠ "java/lang/invoke/MethodHandle" ∧ y.cls ≠ "java/lang/invoke/VarHandle" ∧ (parseMethodDescriptor y.desc).map (fun d => d.parameters.length) = some n) (hR : rm.frames + 1 ≤ R.frames ∧ 8 + (maxL + 11) + rm.locals ≤ R.locals) :
    vx_CVW R s args own C index y bytes maxL ret hh ws rm mc ms n := by
  obtain ⟨hC, hd⟩ := hd
  subst hC
  have ok : ∀ w ∈ wsV own index y.cls y ws, w.before args s = true := fun w h => ht w (hT w h).1
  have hG : GoodIn Ts ws := fun w h => hT w (by unfold wsV; exact List.mem_append_right _ h)
  have hc : Cond.codeWith y bytes maxL ret hh ∈ ws := by rw [hw]; exact List.mem_cons_self
  refine ⟨⟨hrc, hrs, hR.1, hR.2, pay_in ht hG, hc⟩, ht _ (hG _ hc).1, ok _ (by simp [wsV]), ⟨hd.1, hd.2.1⟩, fun sig h => ?_, ok _ (by simp [wsV]), ok _ (by simp [wsV]), ok _ (by simp [wsV])⟩
  have h2 := hd.2.2
  rw [h] at h2
  exact (Option.some.inj h2).symm
theorem vx_runVW {y : MethodName} {bytes cc : ByteArray} {maxL nL mc ms n index : Nat} {ret : Option FieldType} {hh : List (Nat × Nat × Nat × Nat)} {ws : List Cond} {rm : Room} {Pc : Array Value → State → Prop} {Qc : Array Value → State → Outcome → State → Prop} {free : Addr → Prop} {Ts : List Cond} {own C : String} {b : Addr} {As rest : List Value} {g : JFrame}
    (S : CallFix p m c cc nL s args Ts own) (hM : Met l y ws rm Pc Qc mc ms free) (cw : vx_CVW R s args own C index y bytes maxL ret hh ws rm mc ms n) (hp : PreV s H C b Pc As)
    (hg : g.method = m) (hn : As.length = n) (hsize : g.locals.size = nL) (hstack : g.stack = As.reverse ++ .ref b :: rest) (hW : 2 * g.monitorRoom + (rest.map fun v => v.category).sum ≤ 8) (hdg : decode cc g.pc = .ok (.invokevirtual index, 3)) (hf : cells + mc ≤ R.cells ∧ slots + ms ≤ R.slots) :
    va_Run p l e R s m args below meth c H locs cells slots mc ms g rest (Qc (Value.ref b :: As).toArray) free := by
  obtain ⟨⟨hrc, hrs, hfr, hlo, hws, hcw⟩, hcode, hini, hy, hlen, hl, hin, hse⟩ := cw
  have hK : Back l R p e below s args y 3 8 (PreOf R mc ms Pc) (PostOf Qc mc ms free) := va_backW (hh := hh) (bytes := bytes) (maxL := maxL) (ret := ret) hM hp.1 hrc hrs hfr hlo hws hcw (fun a' U hW => word_at hW (Or.inl (by first | rfl | simp [Cond.onTables, Cond.keeps, Cond.steady])) hini)
  obtain ⟨hx, hb, hml, ho, -⟩ := S
  obtain ⟨-, ⟨cellB, hcB, hoB, hclB⟩, hPc⟩ := hp
  intro T hT X
  obtain ⟨v, vm₁, ⟨U', l2, c2, s2⟩, hW₁, X', ⟨g', mk, t, L, e1, e2, hq, h1, hL, h2, h3⟩, st⟩ := vx_callVW X hx (C := C) (hh := hh) (bytes := bytes) (maxL := maxL) (ret := ret) ho hl hin hse hcode hy hK (by rw [hT]; exact hcB) hoB hclB hg (hsize.trans hml.symm) (argsL := As) (rest := rest) (fun sig h => hn.trans (hlen sig h)) hstack hW (by rw [hb]; exact hdg)
    (fun vm₁ hW₁ => ⟨hf.1, hf.2, hPc (T.setVm vm₁) hT hW₁⟩)
  dsimp only [Pt.U, Pt.locs, Pt.cells, Pt.slots] at X' e1 e2 h1 h2 h3 st
  subst h1; subst h2; subst h3
  exact ⟨v, (T.setVm vm₁).calling g' mk (Value.ref b :: As).toArray, t, U', L, hT, X', hL, e1, e2, hq, st⟩
section
variable {y : MethodName} {bytes cc : ByteArray} {maxL nL mc ms n index : Nat} {ret : Option FieldType} {ws : List Cond} {rm : Room} {Pc : Array Value → State → Prop} {Qc : Array Value → State → Outcome → State → Prop} {XC : String → State → State → Prop} {free : Addr → Prop} {Ts : List Cond} {own C : String} {b : Addr} {As rest : List Value} {g : JFrame}
theorem vx_runVX {hh : List (Nat × Nat × Nat × Nat)} (S : CallFix p m c cc nL s args Ts own) (hM : vx_Met l y ws rm Pc Qc XC mc ms free) (cw : vx_CVW R s args own C index y bytes maxL ret hh ws rm mc ms n) (hp : PreV s H C b Pc As)
    (hg : g.method = m) (hn : As.length = n) (hsize : g.locals.size = nL) (hstack : g.stack = As.reverse ++ .ref b :: rest) (hW : 2 * g.monitorRoom + (rest.map fun v => v.category).sum ≤ 8) (hdg : decode cc g.pc = .ok (.invokevirtual index, 3)) (hf : cells + mc ≤ R.cells ∧ slots + ms ≤ R.slots) :
    vx_Run p l e R s m args below meth c H locs cells slots mc ms g rest (Qc (Value.ref b :: As).toArray) XC free := by
  obtain ⟨⟨hrc, hrs, hfr, hlo, hws, hcw⟩, hcode, hini, hy, hlen, hl, hin, hse⟩ := cw
  have hK : vx_Back l R p e below s args y 3 8 (PreOf R mc ms Pc) (PostOf Qc mc ms free) (vx_Post XC mc ms free) := vx_backW (hh := hh) (bytes := bytes) (maxL := maxL) (ret := ret) hM hp.1 hrc hrs hfr hlo hws hcw (fun a' U hW => word_at hW (Or.inl (by first | rfl | simp [Cond.onTables, Cond.keeps, Cond.steady])) hini)
  obtain ⟨hx, hb, hml, ho, -⟩ := S
  obtain ⟨-, ⟨cellB, hcB, hoB, hclB⟩, hPc⟩ := hp
  intro T hT X
  rcases vx_callVX X hx (C := C) (hh := hh) (bytes := bytes) (maxL := maxL) (ret := ret) ho hl hin hse hcode hy hK (by rw [hT]; exact hcB) hoB hclB hg (hsize.trans hml.symm) (argsL := As) (rest := rest) (fun sig h => hn.trans (hlen sig h)) hstack hW (by rw [hb]; exact hdg)
    (fun vm₁ hW₁ => ⟨hf.1, hf.2, hPc (T.setVm vm₁) hT hW₁⟩) with ⟨v, vm₁, ⟨U', l2, c2, s2⟩, hW₁, X', ⟨g', mk, t, L, e1, e2, hq, h1, hL, h2, h3⟩, st⟩ | ⟨q, vm₁, ⟨U', l2, c2, s2⟩, hW₁, X', ⟨g', mk, t, L, E, ce, e1, e2, hq, hce, hcv, hcl, h1, hL, h2, h3⟩, st⟩
  · dsimp only [Pt.U, Pt.locs, Pt.cells, Pt.slots] at X' e1 e2 h1 h2 h3 st
    subst h1; subst h2; subst h3
    exact Or.inl ⟨v, (T.setVm vm₁).calling g' mk (Value.ref b :: As).toArray, t, U', L, hT, X', hL, e1, e2, hq, st⟩
  · dsimp only [Pt.U, Pt.locs, Pt.cells, Pt.slots] at X' e1 e2 h1 h2 h3 st hcl
    subst h1; subst h2; subst h3
    exact Or.inr ⟨q, (T.setVm vm₁).calling g' mk (Value.ref b :: As).toArray, t, U', L, E, ce, hT, X', hL, e1, e2, hq, hce, hcv, vx_cls hW₁ hcl, st⟩
theorem vx_runSX {hh : List (Nat × Nat × Nat × Nat)} (S : CallFix p m c cc nL s args Ts own) (hM : vx_Met l y ws rm Pc Qc XC mc ms free) (cw : vx_CSW R s args own index y bytes maxL ret hh ws rm mc ms n) (hp : PreS s H Pc As)
    (hg : g.method = m) (hn : As.length = n) (hsize : g.locals.size = nL) (hstack : g.stack = As.reverse ++ rest) (hW : 2 * g.monitorRoom + (rest.map fun v => v.category).sum ≤ 8) (hdg : decode cc g.pc = .ok (.invokestatic index, 3)) (hf : cells + mc ≤ R.cells ∧ slots + ms ≤ R.slots) :
    vx_Run p l e R s m args below meth c H locs cells slots mc ms g rest (Qc As.toArray) XC free := by
  obtain ⟨⟨hrc, hrs, hfr, hlo, hws, hcw⟩, hcode, hini, hy, hlen, hl, hstt⟩ := cw
  have hK : vx_Back l R p e below s args y 3 8 (PreOf R mc ms Pc) (PostOf Qc mc ms free) (vx_Post XC mc ms free) := vx_backW (hh := hh) (bytes := bytes) (maxL := maxL) (ret := ret) hM hp.1 hrc hrs hfr hlo hws hcw (fun a' U hW => word_at hW (Or.inl (by first | rfl | simp [Cond.onTables, Cond.keeps, Cond.steady])) hini)
  obtain ⟨hx, hb, hml, ho, -⟩ := S
  intro T hT X
  rcases vx_callSX X hx (hh := hh) (bytes := bytes) (maxL := maxL) (ret := ret) ho hl hstt hini hcode hy hK hg (hsize.trans hml.symm) (argsL := As) (rest := rest) (fun sig h => hn.trans (hlen sig h)) hstack hW (by rw [hb]; exact hdg)
    (fun vm₁ hW₁ => ⟨hf.1, hf.2, hp.2 (T.setVm vm₁) hT hW₁⟩) with ⟨v, vm₁, ⟨U', l2, c2, s2⟩, hW₁, X', ⟨g', mk, t, L, e1, e2, hq, h1, hL, h2, h3⟩, st⟩ | ⟨q, vm₁, ⟨U', l2, c2, s2⟩, hW₁, X', ⟨g', mk, t, L, E, ce, e1, e2, hq, hce, hcv, hcl, h1, hL, h2, h3⟩, st⟩
  · dsimp only [Pt.U, Pt.locs, Pt.cells, Pt.slots] at X' e1 e2 h1 h2 h3 st
    subst h1; subst h2; subst h3
    exact Or.inl ⟨v, (T.setVm vm₁).calling g' mk As.toArray, t, U', L, hT, X', hL, e1, e2, hq, st⟩
  · dsimp only [Pt.U, Pt.locs, Pt.cells, Pt.slots] at X' e1 e2 h1 h2 h3 st hcl
    subst h1; subst h2; subst h3
    exact Or.inr ⟨q, (T.setVm vm₁).calling g' mk As.toArray, t, U', L, E, ce, hT, X', hL, e1, e2, hq, hce, hcv, vx_cls hW₁ hcl, st⟩
end
end VXH
theorem vx_ofWH {l : Launch} {y : MethodName} {ws ws' : List Cond} {rm : Room} {Pc : Array Value → State → Prop} {Qc : Array Value → State → Outcome → State → Prop} {XC : String → State → State → Prop} {mc ms : Nat} {free : Addr → Prop} {cc : ByteArray} {maxL : Nat} {ret : Option FieldType} {hh : List (Nat × Nat × Nat × Nat)}
    (hy : plainName y.cls = true) (hw : ws = Cond.codeWith y cc maxL ret hh :: ws')
    (body : ∀ p e s m args below meth c s₁, BodyLoose p l y (headSpec ws rm) cc maxL ret e s m args below meth c s₁ → c.maxLocals = maxL → Pc args s →
      W p l e (headSpec ws rm).room s m args below meth c s.heap [] 0 0 (vx_MQ below Qc XC args s mc ms free) (entryFrame m args maxL)) : vx_Met l y ws rm Pc Qc XC mc ms free := by
  refine MetFree.of_bodyS (code := cc) (maxLocals := maxL) (ret := ret) hy ?_ ?_
  · intro args s m h hn
    obtain ⟨m9, meth, c, hn9, h1, h2, h3, h4, -, h5, h6, -⟩ := Cond.codeWith_spec (atoms_spec (ws := ws) h _ (by rw [hw]; exact List.mem_cons_self))
    cases hn.symm.trans hn9
    exact ⟨meth, c, h1, h2, h3, h4, h5, h6⟩
  · intro p e s m args below meth c s₁ B hml hP _
    have hh0 : s₁.heap = s.heap := by rw [B.state]; rfl
    obtain ⟨t, a1, o, b1, b2, b3⟩ := body p e s m args below meth c s₁ B hml hP s₁ hh0 (Stand.of_body B)
    exact ⟨t, o, a1, b1, b2, b3⟩
/-! ===== END ===== -/
end
section
/-! names: classes, fields, methods; the words of the tables, all in one list -/
def WB_ : List Cond := lw_tbl.filter goodWord
theorem wb_mk {w : Cond} {i : Nat} (h1 : lw_tbl[i]? = some w) (h2 : goodWord w = true) : w ∈ WB_ := List.mem_filter.mpr ⟨List.mem_of_getElem? h1, h2⟩
theorem wb_good {w : Cond} (h : w ∈ WB_) : w ∈ WB_ ∧ ((w.onTables && w.keeps) = true ∨ ∃ ty, w = .arrayClass ty) := ⟨h, good_of_word (List.mem_filter.mp h).2⟩
theorem gI_ {y : MethodName} {c : ByteArray} {n : Nat} {r : Option FieldType} (h : Cond.code y c n r ∈ WB_) : GoodIn WB_ (Cond.code y c n r :: WB_) := by
  intro w hw
  rcases List.mem_cons.mp hw with rfl | hw
  · exact wb_good h
  · exact wb_good hw
theorem gV_ {own C : String} {i n : Nat} {y : MethodName} {c : ByteArray} {r : Option FieldType} (h1 : Cond.methodLink own i y ∈ WB_) (h2 : Cond.instanceMethod y ∈ WB_) (h3 : Cond.selects C y y ∈ WB_) (h4 : Cond.initialized C ∈ WB_) (h5 : Cond.code y c n r ∈ WB_) : GoodIn WB_ (wsV own i C y (Cond.code y c n r :: WB_)) := by
  intro w hw
  unfold wsV at hw
  rcases List.mem_append.mp hw with hw | hw
  · rcases List.mem_cons.mp hw with rfl | hw
    · exact wb_good h1
    · rcases List.mem_cons.mp hw with rfl | hw
      · exact wb_good h2
      · rcases List.mem_cons.mp hw with rfl | hw
        · exact wb_good h3
        · rcases List.mem_cons.mp hw with rfl | hw
          · exact wb_good h4
          · cases hw
  · exact gI_ h5 w hw
theorem gS_ {own : String} {i n : Nat} {y : MethodName} {c : ByteArray} {r : Option FieldType} (h1 : Cond.methodLink own i y ∈ WB_) (h2 : Cond.static y ∈ WB_) (h3 : Cond.initialized y.cls ∈ WB_) (h5 : Cond.code y c n r ∈ WB_) : GoodIn WB_ (va_wsS own i y (Cond.code y c n r :: WB_)) := by
  intro w hw
  unfold va_wsS at hw
  rcases List.mem_append.mp hw with hw | hw
  · rcases List.mem_cons.mp hw with rfl | hw
    · exact wb_good h1
    · rcases List.mem_cons.mp hw with rfl | hw
      · exact wb_good h2
      · rcases List.mem_cons.mp hw with rfl | hw
        · exact wb_good h3
        · cases hw
  · exact gI_ h5 w hw
def R_M : String := "TabledStore$Memory"
def T_M : u_T := fun k => match k with
  | 0 => ("TabledStore$Memory", "row", "[I", true)
  | 1 => ("TabledStore$Memory", "used", "I", false)
  | 2 => ("TabledStore$Memory", "places", "[I", true)
  | 3 => ("TabledStore$Memory", "spare", "[I", true)
  | 4 => ("TabledStore$Memory", "spareCount", "I", false)
  | 5 => ("TabledStore$Memory", "lastIdentity", "I", false)
  | 6 => ("TabledStore$Memory", "reached", "[I", true)
  | 7 => ("TabledStore$Memory", "reachedCount", "I", false)
  | 8 => ("TabledStore$Memory", "roundOf", "[I", true)
  | 9 => ("TabledStore$Memory", "round", "I", false)
  | _ => ("TabledStore$Memory", "settled", "Z", false)
def ty_M : Nat → FieldType := fun k => match k with
  | 0 => .array .int
  | 1 => .int
  | 2 => .array .int
  | 3 => .array .int
  | 4 => .int
  | 5 => .int
  | 6 => .array .int
  | 7 => .int
  | 8 => .array .int
  | 9 => .int
  | _ => .boolean
theorem nm_M : ∀ a, a < 11 → ∀ b, b < 11 → a ≠ b → (T_M a).2.1 ≠ (T_M b).2.1 := by decide +kernel
theorem ty_M_ok : ∀ k, k < 11 → parseFieldDescriptor (T_M k).2.2.1 = some (ty_M k) := by decide +kernel
theorem in_M : ∀ w ∈ u_ws R_M T_M 11, w ∈ WB_ := by decide +kernel
def R_V : String := "TabledStore$Value"
def R_T : String := "TabledStore"
def T_T : u_T := fun k => match k with
  | 0 => ("TabledStore", "registers", "[I", true)
  | _ => ("TabledStore", "memory", "LTabledStore$Memory;", true)
def ty_T : Nat → FieldType := fun k => match k with
  | 0 => .array .int
  | _ => .object "TabledStore$Memory"
theorem nm_T : ∀ a, a < 2 → ∀ b, b < 2 → a ≠ b → (T_T a).2.1 ≠ (T_T b).2.1 := by decide +kernel
theorem ty_T_ok : ∀ k, k < 2 → parseFieldDescriptor (T_T k).2.2.1 = some (ty_T k) := by decide +kernel
theorem in_T : ∀ w ∈ u_ws R_T T_T 2, w ∈ WB_ := by decide +kernel
def R_R : String := "TabledStoreModel"
def T_R : u_T := fun k => match k with
  | 0 => ("TabledStoreModel", "code", "I", false)
  | 1 => ("TabledStoreModel", "words", "I", true)
  | 2 => ("TabledStoreModel", "entries", "I", true)
  | 3 => ("TabledStoreModel", "registers", "[I", true)
  | 4 => ("TabledStoreModel", "identities", "[I", true)
  | 5 => ("TabledStoreModel", "classes", "[I", true)
  | 6 => ("TabledStoreModel", "bytes", "[Z", true)
  | 7 => ("TabledStoreModel", "sizes", "[I", true)
  | 8 => ("TabledStoreModel", "firsts", "[I", true)
  | 9 => ("TabledStoreModel", "made", "I", false)
  | 10 => ("TabledStoreModel", "hint", "I", false)
  | 11 => ("TabledStoreModel", "cells", "[I", true)
  | 12 => ("TabledStoreModel", "nexts", "[I", true)
  | 13 => ("TabledStoreModel", "free", "I", false)
  | 14 => ("TabledStoreModel", "reached", "[Z", true)
  | 15 => ("TabledStoreModel", "todo", "[I", true)
  | 16 => ("TabledStoreModel", "count", "I", false)
  | _ => ("TabledStoreModel", "taken", "I", false)
def ty_R : Nat → FieldType := fun k => match k with
  | 0 => .int
  | 1 => .int
  | 2 => .int
  | 3 => .array .int
  | 4 => .array .int
  | 5 => .array .int
  | 6 => .array .boolean
  | 7 => .array .int
  | 8 => .array .int
  | 9 => .int
  | 10 => .int
  | 11 => .array .int
  | 12 => .array .int
  | 13 => .int
  | 14 => .array .boolean
  | 15 => .array .int
  | 16 => .int
  | _ => .int
theorem nm_R : ∀ a, a < 18 → ∀ b, b < 18 → a ≠ b → (T_R a).2.1 ≠ (T_R b).2.1 := by decide +kernel
theorem ty_R_ok : ∀ k, k < 18 → parseFieldDescriptor (T_R k).2.2.1 = some (ty_R k) := by decide +kernel
theorem in_R : ∀ w ∈ u_ws R_R T_R 18, w ∈ WB_ := by decide +kernel
def R_L : String := "TabledStoreLaw"
abbrev vwCl : List vw_C := [(R_T, T_T, 2), (R_M, T_M, 11), (R_R, T_R, 18)]
abbrev c_V_ofNumber : ByteArray := prog_3_method_2_code
def y_V_ofNumber : MethodName := ⟨R_V, "ofNumber", "(I)I"⟩
def ws_V_ofNumber : List Cond := .code y_V_ofNumber c_V_ofNumber 1 (some .int) :: WB_
abbrev c_V_ofEntry : ByteArray := prog_3_method_3_code
def y_V_ofEntry : MethodName := ⟨R_V, "ofEntry", "(I)I"⟩
def ws_V_ofEntry : List Cond := .code y_V_ofEntry c_V_ofEntry 1 (some .int) :: WB_
abbrev c_V_isNumber : ByteArray := prog_3_method_4_code
def y_V_isNumber : MethodName := ⟨R_V, "isNumber", "(I)Z"⟩
def ws_V_isNumber : List Cond := .code y_V_isNumber c_V_isNumber 1 (some .boolean) :: WB_
abbrev c_V_isObject : ByteArray := prog_3_method_5_code
def y_V_isObject : MethodName := ⟨R_V, "isObject", "(I)Z"⟩
def ws_V_isObject : List Cond := .code y_V_isObject c_V_isObject 1 (some .boolean) :: WB_
abbrev c_V_toNumber : ByteArray := prog_3_method_6_code
def y_V_toNumber : MethodName := ⟨R_V, "toNumber", "(I)I"⟩
def ws_V_toNumber : List Cond := .code y_V_toNumber c_V_toNumber 1 (some .int) :: WB_
abbrev c_V_toEntry : ByteArray := prog_3_method_7_code
def y_V_toEntry : MethodName := ⟨R_V, "toEntry", "(I)I"⟩
def ws_V_toEntry : List Cond := .code y_V_toEntry c_V_toEntry 1 (some .int) :: WB_
abbrev c_M_init : ByteArray := prog_2_method_1_code
def y_M_init : MethodName := ⟨R_M, "<init>", "(II)V"⟩
def ws_M_init : List Cond := .code y_M_init c_M_init 4 none :: WB_
abbrev c_M_shape : ByteArray := prog_2_method_2_code
def y_M_shape : MethodName := ⟨R_M, "shape", "(IZ)I"⟩
def ws_M_shape : List Cond := .code y_M_shape c_M_shape 2 (some .int) :: WB_
abbrev c_M_isOfBytes : ByteArray := prog_2_method_3_code
def y_M_isOfBytes : MethodName := ⟨R_M, "isOfBytes", "(I)Z"⟩
def ws_M_isOfBytes : List Cond := .code y_M_isOfBytes c_M_isOfBytes 1 (some .boolean) :: WB_
abbrev c_M_bodyWords : ByteArray := prog_2_method_4_code
def y_M_bodyWords : MethodName := ⟨R_M, "bodyWords", "(I)I"⟩
def ws_M_bodyWords : List Cond := .code y_M_bodyWords c_M_bodyWords 2 (some .int) :: WB_
abbrev c_M_place : ByteArray := prog_2_method_5_code
def y_M_place : MethodName := ⟨R_M, "place", "(I)I"⟩
def ws_M_place : List Cond := .code y_M_place c_M_place 2 (some .int) :: WB_
abbrev c_M_holdsSlots : ByteArray := prog_2_method_6_code
def y_M_holdsSlots : MethodName := ⟨R_M, "holdsSlots", "(I)Z"⟩
def ws_M_holdsSlots : List Cond := .code y_M_holdsSlots c_M_holdsSlots 2 (some .boolean) :: WB_
abbrev c_M_holdsBytes : ByteArray := prog_2_method_7_code
def y_M_holdsBytes : MethodName := ⟨R_M, "holdsBytes", "(I)Z"⟩
def ws_M_holdsBytes : List Cond := .code y_M_holdsBytes c_M_holdsBytes 2 (some .boolean) :: WB_
abbrev c_M_count : ByteArray := prog_2_method_8_code
def y_M_count : MethodName := ⟨R_M, "count", "(I)I"⟩
def ws_M_count : List Cond := .code y_M_count c_M_count 2 (some .int) :: WB_
abbrev c_M_identity : ByteArray := prog_2_method_9_code
def y_M_identity : MethodName := ⟨R_M, "identity", "(I)I"⟩
def ws_M_identity : List Cond := .code y_M_identity c_M_identity 2 (some .int) :: WB_
abbrev c_M_itsClass : ByteArray := prog_2_method_10_code
def y_M_itsClass : MethodName := ⟨R_M, "itsClass", "(I)I"⟩
def ws_M_itsClass : List Cond := .code y_M_itsClass c_M_itsClass 2 (some .int) :: WB_
abbrev c_M_setItsClass : ByteArray := prog_2_method_11_code
def y_M_setItsClass : MethodName := ⟨R_M, "setItsClass", "(II)V"⟩
def ws_M_setItsClass : List Cond := .code y_M_setItsClass c_M_setItsClass 3 none :: WB_
abbrev c_M_slot : ByteArray := prog_2_method_12_code
def y_M_slot : MethodName := ⟨R_M, "slot", "(II)I"⟩
def ws_M_slot : List Cond := .code y_M_slot c_M_slot 3 (some .int) :: WB_
abbrev c_M_setSlot : ByteArray := prog_2_method_13_code
def y_M_setSlot : MethodName := ⟨R_M, "setSlot", "(III)V"⟩
def ws_M_setSlot : List Cond := .code y_M_setSlot c_M_setSlot 4 none :: WB_
abbrev c_M_oneByte : ByteArray := prog_2_method_14_code
def y_M_oneByte : MethodName := ⟨R_M, "oneByte", "(II)I"⟩
def ws_M_oneByte : List Cond := .code y_M_oneByte c_M_oneByte 4 (some .int) :: WB_
abbrev c_M_setOneByte : ByteArray := prog_2_method_15_code
def y_M_setOneByte : MethodName := ⟨R_M, "setOneByte", "(III)V"⟩
def ws_M_setOneByte : List Cond := .code y_M_setOneByte c_M_setOneByte 6 none :: WB_
abbrev c_M_shiftOf : ByteArray := prog_2_method_16_code
def y_M_shiftOf : MethodName := ⟨R_M, "shiftOf", "(I)I"⟩
def ws_M_shiftOf : List Cond := .code y_M_shiftOf c_M_shiftOf 1 (some .int) :: WB_
abbrev c_M_overwrite : ByteArray := prog_2_method_17_code
def y_M_overwrite : MethodName := ⟨R_M, "overwrite", "(II)V"⟩
def ws_M_overwrite : List Cond := .code y_M_overwrite c_M_overwrite 3 none :: WB_
abbrev c_M_letGo : ByteArray := prog_2_method_18_code
def y_M_letGo : MethodName := ⟨R_M, "letGo", "(I)V"⟩
def ws_M_letGo : List Cond := .code y_M_letGo c_M_letGo 2 none :: WB_
abbrev c_M_freeWords : ByteArray := prog_2_method_19_code
def y_M_freeWords : MethodName := ⟨R_M, "freeWords", "()I"⟩
def ws_M_freeWords : List Cond := .code y_M_freeWords c_M_freeWords 1 (some .int) :: WB_
abbrev c_M_freeEntries : ByteArray := prog_2_method_20_code
def y_M_freeEntries : MethodName := ⟨R_M, "freeEntries", "()I"⟩
def ws_M_freeEntries : List Cond := .code y_M_freeEntries c_M_freeEntries 1 (some .int) :: WB_
abbrev c_M_build : ByteArray := prog_2_method_21_code
def y_M_build : MethodName := ⟨R_M, "build", "(II[I)I"⟩
def ws_M_build : List Cond := .code y_M_build c_M_build 8 (some .int) :: WB_
abbrev c_M_buildLike : ByteArray := prog_2_method_22_code
def y_M_buildLike : MethodName := ⟨R_M, "buildLike", "(I[I)I"⟩
def ws_M_buildLike : List Cond := .code y_M_buildLike c_M_buildLike 5 (some .int) :: WB_
abbrev c_M_fits : ByteArray := prog_2_method_23_code
def y_M_fits : MethodName := ⟨R_M, "fits", "(I)Z"⟩
def ws_M_fits : List Cond := .code y_M_fits c_M_fits 2 (some .boolean) :: WB_
abbrev c_M_swap : ByteArray := prog_2_method_24_code
def y_M_swap : MethodName := ⟨R_M, "swap", "(II)V"⟩
def ws_M_swap : List Cond := .code y_M_swap c_M_swap 5 none :: WB_
abbrev c_M_seat : ByteArray := prog_2_method_25_code
def y_M_seat : MethodName := ⟨R_M, "seat", "(II)V"⟩
def ws_M_seat : List Cond := .code y_M_seat c_M_seat 3 none :: WB_
abbrev c_M_settle : ByteArray := prog_2_method_26_code
def y_M_settle : MethodName := ⟨R_M, "settle", "([I)V"⟩
def ws_M_settle : List Cond := .code y_M_settle c_M_settle 6 none :: WB_
abbrev c_M_leadsTo : ByteArray := prog_2_method_27_code
def y_M_leadsTo : MethodName := ⟨R_M, "leadsTo", "(II)Z"⟩
def ws_M_leadsTo : List Cond := .code y_M_leadsTo c_M_leadsTo 3 (some .boolean) :: WB_
abbrev c_M_startRound : ByteArray := prog_2_method_28_code
def y_M_startRound : MethodName := ⟨R_M, "startRound", "()V"⟩
def ws_M_startRound : List Cond := .code y_M_startRound c_M_startRound 1 none :: WB_
abbrev c_M_isReached : ByteArray := prog_2_method_29_code
def y_M_isReached : MethodName := ⟨R_M, "isReached", "(I)Z"⟩
def ws_M_isReached : List Cond := .code y_M_isReached c_M_isReached 2 (some .boolean) :: WB_
abbrev c_M_reach : ByteArray := prog_2_method_30_code
def y_M_reach : MethodName := ⟨R_M, "reach", "(I)V"⟩
def ws_M_reach : List Cond := .code y_M_reach c_M_reach 3 none :: WB_
abbrev c_M_spread : ByteArray := prog_2_method_31_code
def y_M_spread : MethodName := ⟨R_M, "spread", "()V"⟩
def ws_M_spread : List Cond := .code y_M_spread c_M_spread 5 none :: WB_
abbrev c_M_endOfSlots : ByteArray := prog_2_method_32_code
def y_M_endOfSlots : MethodName := ⟨R_M, "endOfSlots", "(I)I"⟩
def ws_M_endOfSlots : List Cond := .code y_M_endOfSlots c_M_endOfSlots 3 (some .int) :: WB_
abbrev c_M_bodyWordsAt : ByteArray := prog_2_method_33_code
def y_M_bodyWordsAt : MethodName := ⟨R_M, "bodyWordsAt", "(I)I"⟩
def ws_M_bodyWordsAt : List Cond := .code y_M_bodyWordsAt c_M_bodyWordsAt 2 (some .int) :: WB_
abbrev c_M_slide : ByteArray := prog_2_method_34_code
def y_M_slide : MethodName := ⟨R_M, "slide", "()V"⟩
def ws_M_slide : List Cond := .code y_M_slide c_M_slide 5 none :: WB_
abbrev c_M_findOfClass : ByteArray := prog_2_method_35_code
def y_M_findOfClass : MethodName := ⟨R_M, "findOfClass", "(II)I"⟩
def ws_M_findOfClass : List Cond := .code y_M_findOfClass c_M_findOfClass 5 (some .int) :: WB_
abbrev c_M_countHolders : ByteArray := prog_2_method_36_code
def y_M_countHolders : MethodName := ⟨R_M, "countHolders", "(I)I"⟩
def ws_M_countHolders : List Cond := .code y_M_countHolders c_M_countHolders 6 (some .int) :: WB_
abbrev c_T_init : ByteArray := prog_1_method_1_code
def y_T_init : MethodName := ⟨R_T, "<init>", "(II)V"⟩
def ws_T_init : List Cond := .code y_T_init c_T_init 3 none :: WB_
abbrev c_T_number : ByteArray := prog_1_method_2_code
def y_T_number : MethodName := ⟨R_T, "number", "(II)V"⟩
def ws_T_number : List Cond := .code y_T_number c_T_number 3 none :: WB_
abbrev c_T_move : ByteArray := prog_1_method_3_code
def y_T_move : MethodName := ⟨R_T, "move", "(II)V"⟩
def ws_T_move : List Cond := .code y_T_move c_T_move 3 none :: WB_
abbrev c_T_clear : ByteArray := prog_1_method_4_code
def y_T_clear : MethodName := ⟨R_T, "clear", "(I)V"⟩
def ws_T_clear : List Cond := .code y_T_clear c_T_clear 2 none :: WB_
abbrev c_T_make : ByteArray := prog_1_method_5_code
def y_T_make : MethodName := ⟨R_T, "make", "(IIIZ)I"⟩
def ws_T_make : List Cond := .code y_T_make c_T_make 6 (some .int) :: WB_
abbrev c_T_copy : ByteArray := prog_1_method_6_code
def y_T_copy : MethodName := ⟨R_T, "copy", "(II)I"⟩
def ws_T_copy : List Cond := .code y_T_copy c_T_copy 4 (some .int) :: WB_
abbrev c_T_chain : ByteArray := prog_1_method_7_code
def y_T_chain : MethodName := ⟨R_T, "chain", "(IIII)I"⟩
def ws_T_chain : List Cond := .code y_T_chain c_T_chain 8 (some .int) :: WB_
abbrev c_T_get : ByteArray := prog_1_method_8_code
def y_T_get : MethodName := ⟨R_T, "get", "(III)V"⟩
def ws_T_get : List Cond := .code y_T_get c_T_get 4 none :: WB_
abbrev c_T_put : ByteArray := prog_1_method_9_code
def y_T_put : MethodName := ⟨R_T, "put", "(III)V"⟩
def ws_T_put : List Cond := .code y_T_put c_T_put 4 none :: WB_
abbrev c_T_walk : ByteArray := prog_1_method_10_code
def y_T_walk : MethodName := ⟨R_T, "walk", "(III)I"⟩
def ws_T_walk : List Cond := .code y_T_walk c_T_walk 6 (some .int) :: WB_
abbrev c_T_classOf : ByteArray := prog_1_method_11_code
def y_T_classOf : MethodName := ⟨R_T, "classOf", "(II)V"⟩
def ws_T_classOf : List Cond := .code y_T_classOf c_T_classOf 3 none :: WB_
abbrev c_T_setClass : ByteArray := prog_1_method_12_code
def y_T_setClass : MethodName := ⟨R_T, "setClass", "(II)V"⟩
def ws_T_setClass : List Cond := .code y_T_setClass c_T_setClass 3 none :: WB_
abbrev c_T_byteAt : ByteArray := prog_1_method_13_code
def y_T_byteAt : MethodName := ⟨R_T, "byteAt", "(II)I"⟩
def ws_T_byteAt : List Cond := .code y_T_byteAt c_T_byteAt 3 (some .int) :: WB_
abbrev c_T_bytePut : ByteArray := prog_1_method_14_code
def y_T_bytePut : MethodName := ⟨R_T, "bytePut", "(IIJ)V"⟩
def ws_T_bytePut : List Cond := .code y_T_bytePut c_T_bytePut 9 none :: WB_
abbrev c_T_kind : ByteArray := prog_1_method_15_code
def y_T_kind : MethodName := ⟨R_T, "kind", "(I)I"⟩
def ws_T_kind : List Cond := .code y_T_kind c_T_kind 3 (some .int) :: WB_
abbrev c_T_value : ByteArray := prog_1_method_16_code
def y_T_value : MethodName := ⟨R_T, "value", "(I)I"⟩
def ws_T_value : List Cond := .code y_T_value c_T_value 3 (some .int) :: WB_
abbrev c_T_size : ByteArray := prog_1_method_17_code
def y_T_size : MethodName := ⟨R_T, "size", "(I)I"⟩
def ws_T_size : List Cond := .code y_T_size c_T_size 2 (some .int) :: WB_
abbrev c_T_become : ByteArray := prog_1_method_18_code
def y_T_become : MethodName := ⟨R_T, "become", "(II)V"⟩
def ws_T_become : List Cond := .code y_T_become c_T_become 3 none :: WB_
abbrev c_T_words : ByteArray := prog_1_method_19_code
def y_T_words : MethodName := ⟨R_T, "words", "()I"⟩
def ws_T_words : List Cond := .code y_T_words c_T_words 1 (some .int) :: WB_
abbrev c_T_entries : ByteArray := prog_1_method_20_code
def y_T_entries : MethodName := ⟨R_T, "entries", "()I"⟩
def ws_T_entries : List Cond := .code y_T_entries c_T_entries 1 (some .int) :: WB_
abbrev c_T_instance : ByteArray := prog_1_method_21_code
def y_T_instance : MethodName := ⟨R_T, "instance", "(III)I"⟩
def ws_T_instance : List Cond := .code y_T_instance c_T_instance 5 (some .int) :: WB_
abbrev c_T_owners : ByteArray := prog_1_method_22_code
def y_T_owners : MethodName := ⟨R_T, "owners", "(I)I"⟩
def ws_T_owners : List Cond := .code y_T_owners c_T_owners 8 (some .int) :: WB_
abbrev c_T_reaches : ByteArray := prog_1_method_23_code
def y_T_reaches : MethodName := ⟨R_T, "reaches", "(II)Z"⟩
def ws_T_reaches : List Cond := .code y_T_reaches c_T_reaches 3 (some .boolean) :: WB_
abbrev c_T_sum : ByteArray := prog_1_method_24_code
def y_T_sum : MethodName := ⟨R_T, "sum", "(I)I"⟩
def ws_T_sum : List Cond := .code y_T_sum c_T_sum 6 (some .int) :: WB_
abbrev c_T_setRegister : ByteArray := prog_1_method_25_code
def y_T_setRegister : MethodName := ⟨R_T, "setRegister", "(II)V"⟩
def ws_T_setRegister : List Cond := .code y_T_setRegister c_T_setRegister 3 none :: WB_
abbrev c_T_isBetween : ByteArray := prog_1_method_26_code
def y_T_isBetween : MethodName := ⟨R_T, "isBetween", "(III)Z"⟩
def ws_T_isBetween : List Cond := .code y_T_isBetween c_T_isBetween 3 (some .boolean) :: WB_
abbrev c_T_needBetween : ByteArray := prog_1_method_27_code
def y_T_needBetween : MethodName := ⟨R_T, "needBetween", "(III)V"⟩
def ws_T_needBetween : List Cond := .code y_T_needBetween c_T_needBetween 3 none :: WB_
abbrev c_T_needRegister : ByteArray := prog_1_method_28_code
def y_T_needRegister : MethodName := ⟨R_T, "needRegister", "(I)V"⟩
def ws_T_needRegister : List Cond := .code y_T_needRegister c_T_needRegister 1 none :: WB_
abbrev c_T_needObject : ByteArray := prog_1_method_29_code
def y_T_needObject : MethodName := ⟨R_T, "needObject", "(I)V"⟩
def ws_T_needObject : List Cond := .code y_T_needObject c_T_needObject 2 none :: WB_
abbrev c_T_needSlots : ByteArray := prog_1_method_30_code
def y_T_needSlots : MethodName := ⟨R_T, "needSlots", "(I)V"⟩
def ws_T_needSlots : List Cond := .code y_T_needSlots c_T_needSlots 2 none :: WB_
abbrev c_T_needBytes : ByteArray := prog_1_method_31_code
def y_T_needBytes : MethodName := ⟨R_T, "needBytes", "(I)V"⟩
def ws_T_needBytes : List Cond := .code y_T_needBytes c_T_needBytes 2 none :: WB_
abbrev c_T_needIndex : ByteArray := prog_1_method_32_code
def y_T_needIndex : MethodName := ⟨R_T, "needIndex", "(II)V"⟩
def ws_T_needIndex : List Cond := .code y_T_needIndex c_T_needIndex 3 none :: WB_
abbrev c_T_needMade : ByteArray := prog_1_method_33_code
def y_T_needMade : MethodName := ⟨R_T, "needMade", "(I)V"⟩
def ws_T_needMade : List Cond := .code y_T_needMade c_T_needMade 1 none :: WB_
theorem wd_0 : (Jvm.Cond.selects "TabledStore$Memory" ({ cls := "TabledStore$Memory", name := "startRound", desc := "()V" } : Jvm.MethodName) ({ cls := "TabledStore$Memory", name := "startRound", desc := "()V" } : Jvm.MethodName)) ∈ WB_ := wb_mk (i := 0) (by decide +kernel) (by decide +kernel)
theorem wd_1 : (Jvm.Cond.selects "TabledStore$Memory" ({ cls := "TabledStore$Memory", name := "reach", desc := "(I)V" } : Jvm.MethodName) ({ cls := "TabledStore$Memory", name := "reach", desc := "(I)V" } : Jvm.MethodName)) ∈ WB_ := wb_mk (i := 1) (by decide +kernel) (by decide +kernel)
theorem wd_2 : (Jvm.Cond.selects "TabledStore$Memory" ({ cls := "TabledStore$Memory", name := "isReached", desc := "(I)Z" } : Jvm.MethodName) ({ cls := "TabledStore$Memory", name := "isReached", desc := "(I)Z" } : Jvm.MethodName)) ∈ WB_ := wb_mk (i := 2) (by decide +kernel) (by decide +kernel)
theorem wd_3 : (Jvm.Cond.selects "TabledStore$Memory" ({ cls := "TabledStore$Memory", name := "spread", desc := "()V" } : Jvm.MethodName) ({ cls := "TabledStore$Memory", name := "spread", desc := "()V" } : Jvm.MethodName)) ∈ WB_ := wb_mk (i := 3) (by decide +kernel) (by decide +kernel)
theorem wd_4 : (Jvm.Cond.selects "TabledStore$Memory" ({ cls := "TabledStore$Memory", name := "endOfSlots", desc := "(I)I" } : Jvm.MethodName) ({ cls := "TabledStore$Memory", name := "endOfSlots", desc := "(I)I" } : Jvm.MethodName)) ∈ WB_ := wb_mk (i := 4) (by decide +kernel) (by decide +kernel)
theorem wd_5 : (Jvm.Cond.selects "TabledStore$Memory" ({ cls := "TabledStore$Memory", name := "slide", desc := "()V" } : Jvm.MethodName) ({ cls := "TabledStore$Memory", name := "slide", desc := "()V" } : Jvm.MethodName)) ∈ WB_ := wb_mk (i := 5) (by decide +kernel) (by decide +kernel)
theorem wd_6 : (Jvm.Cond.selects "TabledStore$Memory" ({ cls := "TabledStore$Memory", name := "bodyWordsAt", desc := "(I)I" } : Jvm.MethodName) ({ cls := "TabledStore$Memory", name := "bodyWordsAt", desc := "(I)I" } : Jvm.MethodName)) ∈ WB_ := wb_mk (i := 6) (by decide +kernel) (by decide +kernel)
theorem wd_8 : (Jvm.Cond.selects "TabledStore" ({ cls := "TabledStore", name := "setRegister", desc := "(II)V" } : Jvm.MethodName) ({ cls := "TabledStore", name := "setRegister", desc := "(II)V" } : Jvm.MethodName)) ∈ WB_ := wb_mk (i := 8) (by decide +kernel) (by decide +kernel)
theorem wd_9 : (Jvm.Cond.selects "TabledStore$Memory" ({ cls := "TabledStore$Memory", name := "fits", desc := "(I)Z" } : Jvm.MethodName) ({ cls := "TabledStore$Memory", name := "fits", desc := "(I)Z" } : Jvm.MethodName)) ∈ WB_ := wb_mk (i := 9) (by decide +kernel) (by decide +kernel)
theorem wd_10 : (Jvm.Cond.selects "TabledStore$Memory" ({ cls := "TabledStore$Memory", name := "place", desc := "(I)I" } : Jvm.MethodName) ({ cls := "TabledStore$Memory", name := "place", desc := "(I)I" } : Jvm.MethodName)) ∈ WB_ := wb_mk (i := 10) (by decide +kernel) (by decide +kernel)
theorem wd_11 : (Jvm.Cond.selects "TabledStore" ({ cls := "TabledStore", name := "needObject", desc := "(I)V" } : Jvm.MethodName) ({ cls := "TabledStore", name := "needObject", desc := "(I)V" } : Jvm.MethodName)) ∈ WB_ := wb_mk (i := 11) (by decide +kernel) (by decide +kernel)
theorem wd_12 : (Jvm.Cond.selects "TabledStore$Memory" ({ cls := "TabledStore$Memory", name := "overwrite", desc := "(II)V" } : Jvm.MethodName) ({ cls := "TabledStore$Memory", name := "overwrite", desc := "(II)V" } : Jvm.MethodName)) ∈ WB_ := wb_mk (i := 12) (by decide +kernel) (by decide +kernel)
theorem wd_13 : (Jvm.Cond.selects "TabledStore" ({ cls := "TabledStore", name := "needSlots", desc := "(I)V" } : Jvm.MethodName) ({ cls := "TabledStore", name := "needSlots", desc := "(I)V" } : Jvm.MethodName)) ∈ WB_ := wb_mk (i := 13) (by decide +kernel) (by decide +kernel)
theorem wd_14 : (Jvm.Cond.selects "TabledStore" ({ cls := "TabledStore", name := "needIndex", desc := "(II)V" } : Jvm.MethodName) ({ cls := "TabledStore", name := "needIndex", desc := "(II)V" } : Jvm.MethodName)) ∈ WB_ := wb_mk (i := 14) (by decide +kernel) (by decide +kernel)
theorem wd_15 : (Jvm.Cond.selects "TabledStore" ({ cls := "TabledStore", name := "needBytes", desc := "(I)V" } : Jvm.MethodName) ({ cls := "TabledStore", name := "needBytes", desc := "(I)V" } : Jvm.MethodName)) ∈ WB_ := wb_mk (i := 15) (by decide +kernel) (by decide +kernel)
theorem wd_16 : (Jvm.Cond.selects "TabledStore$Memory" ({ cls := "TabledStore$Memory", name := "seat", desc := "(II)V" } : Jvm.MethodName) ({ cls := "TabledStore$Memory", name := "seat", desc := "(II)V" } : Jvm.MethodName)) ∈ WB_ := wb_mk (i := 16) (by decide +kernel) (by decide +kernel)
theorem wd_33 : (Jvm.Cond.initialized "TabledStore") ∈ WB_ := wb_mk (i := 33) (by decide +kernel) (by decide +kernel)
theorem wd_34 : (Jvm.Cond.initialized "TabledStore$Memory") ∈ WB_ := wb_mk (i := 34) (by decide +kernel) (by decide +kernel)
theorem wd_39 : (Jvm.Cond.initialized "java/lang/IllegalArgumentException") ∈ WB_ := wb_mk (i := 39) (by decide +kernel) (by decide +kernel)
theorem wd_40 : (Jvm.Cond.initialized "TabledStore$Value") ∈ WB_ := wb_mk (i := 40) (by decide +kernel) (by decide +kernel)
theorem wd_41 : (Jvm.Cond.initialized "java/lang/System") ∈ WB_ := wb_mk (i := 41) (by decide +kernel) (by decide +kernel)
theorem wd_42 : (Jvm.Cond.initialized "java/lang/UnsupportedOperationException") ∈ WB_ := wb_mk (i := 42) (by decide +kernel) (by decide +kernel)
theorem wd_43 : (Jvm.Cond.initialized "java/lang/IndexOutOfBoundsException") ∈ WB_ := wb_mk (i := 43) (by decide +kernel) (by decide +kernel)
theorem wd_44 : (Jvm.Cond.initialized "java/lang/Math") ∈ WB_ := wb_mk (i := 44) (by decide +kernel) (by decide +kernel)
theorem wd_56 : (Jvm.Cond.methodLink "TabledStore" (16 : Nat) ({ cls := "TabledStore", name := "isBetween", desc := "(III)Z" } : Jvm.MethodName)) ∈ WB_ := wb_mk (i := 56) (by decide +kernel) (by decide +kernel)
theorem wd_57 : (Jvm.Cond.static ({ cls := "TabledStore", name := "isBetween", desc := "(III)Z" } : Jvm.MethodName)) ∈ WB_ := wb_mk (i := 57) (by decide +kernel) (by decide +kernel)
theorem wd_58 : (Jvm.Cond.code ({ cls := "TabledStore", name := "isBetween", desc := "(III)Z" } : Jvm.MethodName) prog_1_method_26_code (3 : Nat) (Option.some Jvm.ClassFile.FieldType.boolean)) ∈ WB_ := wb_mk (i := 58) (by decide +kernel) (by decide +kernel)
theorem wd_63 : (Jvm.Cond.fieldLink "TabledStore$Memory" (7 : Nat) "TabledStore$Memory" "row" "[I") ∈ WB_ := wb_mk (i := 63) (by decide +kernel) (by decide +kernel)
theorem wd_64 : (Jvm.Cond.fieldLink "TabledStore$Memory" (60 : Nat) "TabledStore$Memory" "used" "I") ∈ WB_ := wb_mk (i := 64) (by decide +kernel) (by decide +kernel)
theorem wd_65 : (Jvm.Cond.fieldLink "TabledStore$Memory" (13 : Nat) "TabledStore$Memory" "places" "[I") ∈ WB_ := wb_mk (i := 65) (by decide +kernel) (by decide +kernel)
theorem wd_66 : (Jvm.Cond.fieldLink "TabledStore$Memory" (16 : Nat) "TabledStore$Memory" "spare" "[I") ∈ WB_ := wb_mk (i := 66) (by decide +kernel) (by decide +kernel)
theorem wd_67 : (Jvm.Cond.fieldLink "TabledStore$Memory" (25 : Nat) "TabledStore$Memory" "spareCount" "I") ∈ WB_ := wb_mk (i := 67) (by decide +kernel) (by decide +kernel)
theorem wd_68 : (Jvm.Cond.fieldLink "TabledStore$Memory" (73 : Nat) "TabledStore$Memory" "lastIdentity" "I") ∈ WB_ := wb_mk (i := 68) (by decide +kernel) (by decide +kernel)
theorem wd_69 : (Jvm.Cond.fieldLink "TabledStore$Memory" (19 : Nat) "TabledStore$Memory" "reached" "[I") ∈ WB_ := wb_mk (i := 69) (by decide +kernel) (by decide +kernel)
theorem wd_70 : (Jvm.Cond.fieldLink "TabledStore$Memory" (117 : Nat) "TabledStore$Memory" "reachedCount" "I") ∈ WB_ := wb_mk (i := 70) (by decide +kernel) (by decide +kernel)
theorem wd_71 : (Jvm.Cond.fieldLink "TabledStore$Memory" (22 : Nat) "TabledStore$Memory" "roundOf" "[I") ∈ WB_ := wb_mk (i := 71) (by decide +kernel) (by decide +kernel)
theorem wd_72 : (Jvm.Cond.fieldLink "TabledStore$Memory" (114 : Nat) "TabledStore$Memory" "round" "I") ∈ WB_ := wb_mk (i := 72) (by decide +kernel) (by decide +kernel)
theorem wd_73 : (Jvm.Cond.fieldLink "TabledStore$Memory" (29 : Nat) "TabledStore$Memory" "settled" "Z") ∈ WB_ := wb_mk (i := 73) (by decide +kernel) (by decide +kernel)
theorem wd_98 : (Jvm.Cond.fieldLink "TabledStore" (9 : Nat) "TabledStore" "registers" "[I") ∈ WB_ := wb_mk (i := 98) (by decide +kernel) (by decide +kernel)
theorem wd_99 : (Jvm.Cond.fieldLink "TabledStore" (23 : Nat) "TabledStore" "memory" "LTabledStore$Memory;") ∈ WB_ := wb_mk (i := 99) (by decide +kernel) (by decide +kernel)
theorem wd_109 : (Jvm.Cond.methodLink "TabledStore" (119 : Nat) ({ cls := "TabledStore$Memory", name := "settle", desc := "([I)V" } : Jvm.MethodName)) ∈ WB_ := wb_mk (i := 109) (by decide +kernel) (by decide +kernel)
theorem wd_110 : (Jvm.Cond.instanceMethod ({ cls := "TabledStore$Memory", name := "settle", desc := "([I)V" } : Jvm.MethodName)) ∈ WB_ := wb_mk (i := 110) (by decide +kernel) (by decide +kernel)
theorem wd_111 : (Jvm.Cond.selects "TabledStore$Memory" ({ cls := "TabledStore$Memory", name := "settle", desc := "([I)V" } : Jvm.MethodName) ({ cls := "TabledStore$Memory", name := "settle", desc := "([I)V" } : Jvm.MethodName)) ∈ WB_ := wb_mk (i := 111) (by decide +kernel) (by decide +kernel)
theorem wd_112 : (Jvm.Cond.code ({ cls := "TabledStore$Memory", name := "settle", desc := "([I)V" } : Jvm.MethodName) prog_2_method_26_code (6 : Nat) (Option.none : Option Jvm.ClassFile.FieldType)) ∈ WB_ := wb_mk (i := 112) (by decide +kernel) (by decide +kernel)
theorem wd_113 : (Jvm.Cond.methodLink "TabledStore$Memory" (99 : Nat) ({ cls := "TabledStore$Memory", name := "startRound", desc := "()V" } : Jvm.MethodName)) ∈ WB_ := wb_mk (i := 113) (by decide +kernel) (by decide +kernel)
theorem wd_115 : (Jvm.Cond.instanceMethod ({ cls := "TabledStore$Memory", name := "startRound", desc := "()V" } : Jvm.MethodName)) ∈ WB_ := wb_mk (i := 115) (by decide +kernel) (by decide +kernel)
theorem wd_116 : (Jvm.Cond.code ({ cls := "TabledStore$Memory", name := "startRound", desc := "()V" } : Jvm.MethodName) prog_2_method_28_code (1 : Nat) (Option.none : Option Jvm.ClassFile.FieldType)) ∈ WB_ := wb_mk (i := 116) (by decide +kernel) (by decide +kernel)
theorem wd_117 : (Jvm.Cond.methodLink "TabledStore$Memory" (102 : Nat) ({ cls := "TabledStore$Memory", name := "reach", desc := "(I)V" } : Jvm.MethodName)) ∈ WB_ := wb_mk (i := 117) (by decide +kernel) (by decide +kernel)
theorem wd_119 : (Jvm.Cond.instanceMethod ({ cls := "TabledStore$Memory", name := "reach", desc := "(I)V" } : Jvm.MethodName)) ∈ WB_ := wb_mk (i := 119) (by decide +kernel) (by decide +kernel)
theorem wd_120 : (Jvm.Cond.code ({ cls := "TabledStore$Memory", name := "reach", desc := "(I)V" } : Jvm.MethodName) prog_2_method_30_code (3 : Nat) (Option.none : Option Jvm.ClassFile.FieldType)) ∈ WB_ := wb_mk (i := 120) (by decide +kernel) (by decide +kernel)
theorem wd_121 : (Jvm.Cond.methodLink "TabledStore$Memory" (43 : Nat) ({ cls := "TabledStore$Value", name := "isObject", desc := "(I)Z" } : Jvm.MethodName)) ∈ WB_ := wb_mk (i := 121) (by decide +kernel) (by decide +kernel)
theorem wd_122 : (Jvm.Cond.static ({ cls := "TabledStore$Value", name := "isObject", desc := "(I)Z" } : Jvm.MethodName)) ∈ WB_ := wb_mk (i := 122) (by decide +kernel) (by decide +kernel)
theorem wd_123 : (Jvm.Cond.code ({ cls := "TabledStore$Value", name := "isObject", desc := "(I)Z" } : Jvm.MethodName) prog_3_method_5_code (1 : Nat) (Option.some Jvm.ClassFile.FieldType.boolean)) ∈ WB_ := wb_mk (i := 123) (by decide +kernel) (by decide +kernel)
theorem wd_124 : (Jvm.Cond.methodLink "TabledStore$Value" (7 : Nat) ({ cls := "TabledStore$Value", name := "isNumber", desc := "(I)Z" } : Jvm.MethodName)) ∈ WB_ := wb_mk (i := 124) (by decide +kernel) (by decide +kernel)
theorem wd_125 : (Jvm.Cond.static ({ cls := "TabledStore$Value", name := "isNumber", desc := "(I)Z" } : Jvm.MethodName)) ∈ WB_ := wb_mk (i := 125) (by decide +kernel) (by decide +kernel)
theorem wd_126 : (Jvm.Cond.code ({ cls := "TabledStore$Value", name := "isNumber", desc := "(I)Z" } : Jvm.MethodName) prog_3_method_4_code (1 : Nat) (Option.some Jvm.ClassFile.FieldType.boolean)) ∈ WB_ := wb_mk (i := 126) (by decide +kernel) (by decide +kernel)
theorem wd_127 : (Jvm.Cond.methodLink "TabledStore$Memory" (37 : Nat) ({ cls := "TabledStore$Value", name := "toEntry", desc := "(I)I" } : Jvm.MethodName)) ∈ WB_ := wb_mk (i := 127) (by decide +kernel) (by decide +kernel)
theorem wd_128 : (Jvm.Cond.static ({ cls := "TabledStore$Value", name := "toEntry", desc := "(I)I" } : Jvm.MethodName)) ∈ WB_ := wb_mk (i := 128) (by decide +kernel) (by decide +kernel)
theorem wd_129 : (Jvm.Cond.code ({ cls := "TabledStore$Value", name := "toEntry", desc := "(I)I" } : Jvm.MethodName) prog_3_method_7_code (1 : Nat) (Option.some Jvm.ClassFile.FieldType.int)) ∈ WB_ := wb_mk (i := 129) (by decide +kernel) (by decide +kernel)
theorem wd_130 : (Jvm.Cond.methodLink "TabledStore$Memory" (111 : Nat) ({ cls := "TabledStore$Memory", name := "isReached", desc := "(I)Z" } : Jvm.MethodName)) ∈ WB_ := wb_mk (i := 130) (by decide +kernel) (by decide +kernel)
theorem wd_132 : (Jvm.Cond.instanceMethod ({ cls := "TabledStore$Memory", name := "isReached", desc := "(I)Z" } : Jvm.MethodName)) ∈ WB_ := wb_mk (i := 132) (by decide +kernel) (by decide +kernel)
theorem wd_133 : (Jvm.Cond.code ({ cls := "TabledStore$Memory", name := "isReached", desc := "(I)Z" } : Jvm.MethodName) prog_2_method_29_code (2 : Nat) (Option.some Jvm.ClassFile.FieldType.boolean)) ∈ WB_ := wb_mk (i := 133) (by decide +kernel) (by decide +kernel)
theorem wd_134 : (Jvm.Cond.methodLink "TabledStore$Memory" (105 : Nat) ({ cls := "TabledStore$Memory", name := "spread", desc := "()V" } : Jvm.MethodName)) ∈ WB_ := wb_mk (i := 134) (by decide +kernel) (by decide +kernel)
theorem wd_136 : (Jvm.Cond.instanceMethod ({ cls := "TabledStore$Memory", name := "spread", desc := "()V" } : Jvm.MethodName)) ∈ WB_ := wb_mk (i := 136) (by decide +kernel) (by decide +kernel)
theorem wd_137 : (Jvm.Cond.code ({ cls := "TabledStore$Memory", name := "spread", desc := "()V" } : Jvm.MethodName) prog_2_method_31_code (5 : Nat) (Option.none : Option Jvm.ClassFile.FieldType)) ∈ WB_ := wb_mk (i := 137) (by decide +kernel) (by decide +kernel)
theorem wd_138 : (Jvm.Cond.methodLink "TabledStore$Memory" (120 : Nat) ({ cls := "TabledStore$Memory", name := "endOfSlots", desc := "(I)I" } : Jvm.MethodName)) ∈ WB_ := wb_mk (i := 138) (by decide +kernel) (by decide +kernel)
theorem wd_140 : (Jvm.Cond.instanceMethod ({ cls := "TabledStore$Memory", name := "endOfSlots", desc := "(I)I" } : Jvm.MethodName)) ∈ WB_ := wb_mk (i := 140) (by decide +kernel) (by decide +kernel)
theorem wd_141 : (Jvm.Cond.code ({ cls := "TabledStore$Memory", name := "endOfSlots", desc := "(I)I" } : Jvm.MethodName) prog_2_method_32_code (3 : Nat) (Option.some Jvm.ClassFile.FieldType.int)) ∈ WB_ := wb_mk (i := 141) (by decide +kernel) (by decide +kernel)
theorem wd_142 : (Jvm.Cond.methodLink "TabledStore$Memory" (33 : Nat) ({ cls := "TabledStore$Memory", name := "isOfBytes", desc := "(I)Z" } : Jvm.MethodName)) ∈ WB_ := wb_mk (i := 142) (by decide +kernel) (by decide +kernel)
theorem wd_143 : (Jvm.Cond.static ({ cls := "TabledStore$Memory", name := "isOfBytes", desc := "(I)Z" } : Jvm.MethodName)) ∈ WB_ := wb_mk (i := 143) (by decide +kernel) (by decide +kernel)
theorem wd_144 : (Jvm.Cond.code ({ cls := "TabledStore$Memory", name := "isOfBytes", desc := "(I)Z" } : Jvm.MethodName) prog_2_method_3_code (1 : Nat) (Option.some Jvm.ClassFile.FieldType.boolean)) ∈ WB_ := wb_mk (i := 144) (by decide +kernel) (by decide +kernel)
theorem wd_145 : (Jvm.Cond.methodLink "TabledStore$Memory" (63 : Nat) ({ cls := "TabledStore$Memory", name := "bodyWords", desc := "(I)I" } : Jvm.MethodName)) ∈ WB_ := wb_mk (i := 145) (by decide +kernel) (by decide +kernel)
theorem wd_146 : (Jvm.Cond.static ({ cls := "TabledStore$Memory", name := "bodyWords", desc := "(I)I" } : Jvm.MethodName)) ∈ WB_ := wb_mk (i := 146) (by decide +kernel) (by decide +kernel)
theorem wd_147 : (Jvm.Cond.code ({ cls := "TabledStore$Memory", name := "bodyWords", desc := "(I)I" } : Jvm.MethodName) prog_2_method_4_code (2 : Nat) (Option.some Jvm.ClassFile.FieldType.int)) ∈ WB_ := wb_mk (i := 147) (by decide +kernel) (by decide +kernel)
theorem wd_148 : (Jvm.Cond.methodLink "TabledStore$Memory" (108 : Nat) ({ cls := "TabledStore$Memory", name := "slide", desc := "()V" } : Jvm.MethodName)) ∈ WB_ := wb_mk (i := 148) (by decide +kernel) (by decide +kernel)
theorem wd_150 : (Jvm.Cond.instanceMethod ({ cls := "TabledStore$Memory", name := "slide", desc := "()V" } : Jvm.MethodName)) ∈ WB_ := wb_mk (i := 150) (by decide +kernel) (by decide +kernel)
theorem wd_151 : (Jvm.Cond.code ({ cls := "TabledStore$Memory", name := "slide", desc := "()V" } : Jvm.MethodName) prog_2_method_34_code (5 : Nat) (Option.none : Option Jvm.ClassFile.FieldType)) ∈ WB_ := wb_mk (i := 151) (by decide +kernel) (by decide +kernel)
theorem wd_152 : (Jvm.Cond.methodLink "TabledStore$Memory" (123 : Nat) ({ cls := "TabledStore$Memory", name := "bodyWordsAt", desc := "(I)I" } : Jvm.MethodName)) ∈ WB_ := wb_mk (i := 152) (by decide +kernel) (by decide +kernel)
theorem wd_154 : (Jvm.Cond.instanceMethod ({ cls := "TabledStore$Memory", name := "bodyWordsAt", desc := "(I)I" } : Jvm.MethodName)) ∈ WB_ := wb_mk (i := 154) (by decide +kernel) (by decide +kernel)
theorem wd_155 : (Jvm.Cond.code ({ cls := "TabledStore$Memory", name := "bodyWordsAt", desc := "(I)I" } : Jvm.MethodName) prog_2_method_33_code (2 : Nat) (Option.some Jvm.ClassFile.FieldType.int)) ∈ WB_ := wb_mk (i := 155) (by decide +kernel) (by decide +kernel)
theorem wd_156 : (Jvm.Cond.methodLink "TabledStore$Memory" (86 : Nat) ({ cls := "java/lang/System", name := "arraycopy", desc := "(Ljava/lang/Object;ILjava/lang/Object;II)V" } : Jvm.MethodName)) ∈ WB_ := wb_mk (i := 156) (by decide +kernel) (by decide +kernel)
theorem wd_157 : (Jvm.Cond.static ({ cls := "java/lang/System", name := "arraycopy", desc := "(Ljava/lang/Object;ILjava/lang/Object;II)V" } : Jvm.MethodName)) ∈ WB_ := wb_mk (i := 157) (by decide +kernel) (by decide +kernel)
theorem wd_158 : (Jvm.Cond.native ({ cls := "java/lang/System", name := "arraycopy", desc := "(Ljava/lang/Object;ILjava/lang/Object;II)V" } : Jvm.MethodName)) ∈ WB_ := wb_mk (i := 158) (by decide +kernel) (by decide +kernel)
theorem wd_159 : (Jvm.Cond.methodLink "TabledStore" (123 : Nat) ({ cls := "TabledStore$Memory", name := "freeWords", desc := "()I" } : Jvm.MethodName)) ∈ WB_ := wb_mk (i := 159) (by decide +kernel) (by decide +kernel)
theorem wd_160 : (Jvm.Cond.instanceMethod ({ cls := "TabledStore$Memory", name := "freeWords", desc := "()I" } : Jvm.MethodName)) ∈ WB_ := wb_mk (i := 160) (by decide +kernel) (by decide +kernel)
theorem wd_161 : (Jvm.Cond.selects "TabledStore$Memory" ({ cls := "TabledStore$Memory", name := "freeWords", desc := "()I" } : Jvm.MethodName) ({ cls := "TabledStore$Memory", name := "freeWords", desc := "()I" } : Jvm.MethodName)) ∈ WB_ := wb_mk (i := 161) (by decide +kernel) (by decide +kernel)
theorem wd_162 : (Jvm.Cond.code ({ cls := "TabledStore$Memory", name := "freeWords", desc := "()I" } : Jvm.MethodName) prog_2_method_19_code (1 : Nat) (Option.some Jvm.ClassFile.FieldType.int)) ∈ WB_ := wb_mk (i := 162) (by decide +kernel) (by decide +kernel)
theorem wd_167 : (Jvm.Cond.methodLink "TabledStore" (127 : Nat) ({ cls := "TabledStore$Memory", name := "freeEntries", desc := "()I" } : Jvm.MethodName)) ∈ WB_ := wb_mk (i := 167) (by decide +kernel) (by decide +kernel)
theorem wd_168 : (Jvm.Cond.instanceMethod ({ cls := "TabledStore$Memory", name := "freeEntries", desc := "()I" } : Jvm.MethodName)) ∈ WB_ := wb_mk (i := 168) (by decide +kernel) (by decide +kernel)
theorem wd_169 : (Jvm.Cond.selects "TabledStore$Memory" ({ cls := "TabledStore$Memory", name := "freeEntries", desc := "()I" } : Jvm.MethodName) ({ cls := "TabledStore$Memory", name := "freeEntries", desc := "()I" } : Jvm.MethodName)) ∈ WB_ := wb_mk (i := 169) (by decide +kernel) (by decide +kernel)
theorem wd_170 : (Jvm.Cond.code ({ cls := "TabledStore$Memory", name := "freeEntries", desc := "()I" } : Jvm.MethodName) prog_2_method_20_code (1 : Nat) (Option.some Jvm.ClassFile.FieldType.int)) ∈ WB_ := wb_mk (i := 170) (by decide +kernel) (by decide +kernel)
theorem wd_182 : (Jvm.Cond.methodLink "TabledStore" (27 : Nat) ({ cls := "TabledStore", name := "needRegister", desc := "(I)V" } : Jvm.MethodName)) ∈ WB_ := wb_mk (i := 182) (by decide +kernel) (by decide +kernel)
theorem wd_183 : (Jvm.Cond.static ({ cls := "TabledStore", name := "needRegister", desc := "(I)V" } : Jvm.MethodName)) ∈ WB_ := wb_mk (i := 183) (by decide +kernel) (by decide +kernel)
theorem wd_184 : (Jvm.Cond.code ({ cls := "TabledStore", name := "needRegister", desc := "(I)V" } : Jvm.MethodName) prog_1_method_28_code (1 : Nat) (Option.none : Option Jvm.ClassFile.FieldType)) ∈ WB_ := wb_mk (i := 184) (by decide +kernel) (by decide +kernel)
theorem wd_185 : (Jvm.Cond.classLink "TabledStore" (149 : Nat) "java/lang/IllegalArgumentException") ∈ WB_ := wb_mk (i := 185) (by decide +kernel) (by decide +kernel)
theorem wd_253 : (Jvm.Cond.constant "TabledStore" (31 : Nat) (-1073741824 : Int32)) ∈ WB_ := wb_mk (i := 253) (by decide +kernel) (by decide +kernel)
theorem wd_254 : (Jvm.Cond.constant "TabledStore" (32 : Nat) (1073741823 : Int32)) ∈ WB_ := wb_mk (i := 254) (by decide +kernel) (by decide +kernel)
theorem wd_255 : (Jvm.Cond.methodLink "TabledStore" (33 : Nat) ({ cls := "TabledStore", name := "needBetween", desc := "(III)V" } : Jvm.MethodName)) ∈ WB_ := wb_mk (i := 255) (by decide +kernel) (by decide +kernel)
theorem wd_256 : (Jvm.Cond.static ({ cls := "TabledStore", name := "needBetween", desc := "(III)V" } : Jvm.MethodName)) ∈ WB_ := wb_mk (i := 256) (by decide +kernel) (by decide +kernel)
theorem wd_257 : (Jvm.Cond.code ({ cls := "TabledStore", name := "needBetween", desc := "(III)V" } : Jvm.MethodName) prog_1_method_27_code (3 : Nat) (Option.none : Option Jvm.ClassFile.FieldType)) ∈ WB_ := wb_mk (i := 257) (by decide +kernel) (by decide +kernel)
theorem wd_259 : (Jvm.Cond.methodLink "TabledStore" (37 : Nat) ({ cls := "TabledStore$Value", name := "ofNumber", desc := "(I)I" } : Jvm.MethodName)) ∈ WB_ := wb_mk (i := 259) (by decide +kernel) (by decide +kernel)
theorem wd_260 : (Jvm.Cond.static ({ cls := "TabledStore$Value", name := "ofNumber", desc := "(I)I" } : Jvm.MethodName)) ∈ WB_ := wb_mk (i := 260) (by decide +kernel) (by decide +kernel)
theorem wd_261 : (Jvm.Cond.code ({ cls := "TabledStore$Value", name := "ofNumber", desc := "(I)I" } : Jvm.MethodName) prog_3_method_2_code (1 : Nat) (Option.some Jvm.ClassFile.FieldType.int)) ∈ WB_ := wb_mk (i := 261) (by decide +kernel) (by decide +kernel)
theorem wd_262 : (Jvm.Cond.methodLink "TabledStore" (43 : Nat) ({ cls := "TabledStore", name := "setRegister", desc := "(II)V" } : Jvm.MethodName)) ∈ WB_ := wb_mk (i := 262) (by decide +kernel) (by decide +kernel)
theorem wd_264 : (Jvm.Cond.instanceMethod ({ cls := "TabledStore", name := "setRegister", desc := "(II)V" } : Jvm.MethodName)) ∈ WB_ := wb_mk (i := 264) (by decide +kernel) (by decide +kernel)
theorem wd_265 : (Jvm.Cond.code ({ cls := "TabledStore", name := "setRegister", desc := "(II)V" } : Jvm.MethodName) prog_1_method_25_code (3 : Nat) (Option.none : Option Jvm.ClassFile.FieldType)) ∈ WB_ := wb_mk (i := 265) (by decide +kernel) (by decide +kernel)
theorem wd_266 : (Jvm.Cond.methodLink "TabledStore" (146 : Nat) ({ cls := "TabledStore$Memory", name := "letGo", desc := "(I)V" } : Jvm.MethodName)) ∈ WB_ := wb_mk (i := 266) (by decide +kernel) (by decide +kernel)
theorem wd_267 : (Jvm.Cond.instanceMethod ({ cls := "TabledStore$Memory", name := "letGo", desc := "(I)V" } : Jvm.MethodName)) ∈ WB_ := wb_mk (i := 267) (by decide +kernel) (by decide +kernel)
theorem wd_268 : (Jvm.Cond.selects "TabledStore$Memory" ({ cls := "TabledStore$Memory", name := "letGo", desc := "(I)V" } : Jvm.MethodName) ({ cls := "TabledStore$Memory", name := "letGo", desc := "(I)V" } : Jvm.MethodName)) ∈ WB_ := wb_mk (i := 268) (by decide +kernel) (by decide +kernel)
theorem wd_269 : (Jvm.Cond.code ({ cls := "TabledStore$Memory", name := "letGo", desc := "(I)V" } : Jvm.MethodName) prog_2_method_18_code (2 : Nat) (Option.none : Option Jvm.ClassFile.FieldType)) ∈ WB_ := wb_mk (i := 269) (by decide +kernel) (by decide +kernel)
theorem wd_292 : (Jvm.Cond.methodLink "TabledStore" (46 : Nat) ({ cls := "TabledStore$Memory", name := "shape", desc := "(IZ)I" } : Jvm.MethodName)) ∈ WB_ := wb_mk (i := 292) (by decide +kernel) (by decide +kernel)
theorem wd_293 : (Jvm.Cond.static ({ cls := "TabledStore$Memory", name := "shape", desc := "(IZ)I" } : Jvm.MethodName)) ∈ WB_ := wb_mk (i := 293) (by decide +kernel) (by decide +kernel)
theorem wd_294 : (Jvm.Cond.code ({ cls := "TabledStore$Memory", name := "shape", desc := "(IZ)I" } : Jvm.MethodName) prog_2_method_2_code (2 : Nat) (Option.some Jvm.ClassFile.FieldType.int)) ∈ WB_ := wb_mk (i := 294) (by decide +kernel) (by decide +kernel)
theorem wd_295 : (Jvm.Cond.methodLink "TabledStore" (50 : Nat) ({ cls := "TabledStore$Memory", name := "build", desc := "(II[I)I" } : Jvm.MethodName)) ∈ WB_ := wb_mk (i := 295) (by decide +kernel) (by decide +kernel)
theorem wd_296 : (Jvm.Cond.instanceMethod ({ cls := "TabledStore$Memory", name := "build", desc := "(II[I)I" } : Jvm.MethodName)) ∈ WB_ := wb_mk (i := 296) (by decide +kernel) (by decide +kernel)
theorem wd_297 : (Jvm.Cond.selects "TabledStore$Memory" ({ cls := "TabledStore$Memory", name := "build", desc := "(II[I)I" } : Jvm.MethodName) ({ cls := "TabledStore$Memory", name := "build", desc := "(II[I)I" } : Jvm.MethodName)) ∈ WB_ := wb_mk (i := 297) (by decide +kernel) (by decide +kernel)
theorem wd_298 : (Jvm.Cond.code ({ cls := "TabledStore$Memory", name := "build", desc := "(II[I)I" } : Jvm.MethodName) prog_2_method_21_code (8 : Nat) (Option.some Jvm.ClassFile.FieldType.int)) ∈ WB_ := wb_mk (i := 298) (by decide +kernel) (by decide +kernel)
theorem wd_299 : (Jvm.Cond.methodLink "TabledStore$Memory" (66 : Nat) ({ cls := "TabledStore$Memory", name := "fits", desc := "(I)Z" } : Jvm.MethodName)) ∈ WB_ := wb_mk (i := 299) (by decide +kernel) (by decide +kernel)
theorem wd_301 : (Jvm.Cond.instanceMethod ({ cls := "TabledStore$Memory", name := "fits", desc := "(I)Z" } : Jvm.MethodName)) ∈ WB_ := wb_mk (i := 301) (by decide +kernel) (by decide +kernel)
theorem wd_302 : (Jvm.Cond.code ({ cls := "TabledStore$Memory", name := "fits", desc := "(I)Z" } : Jvm.MethodName) prog_2_method_23_code (2 : Nat) (Option.some Jvm.ClassFile.FieldType.boolean)) ∈ WB_ := wb_mk (i := 302) (by decide +kernel) (by decide +kernel)
theorem wd_303 : (Jvm.Cond.methodLink "TabledStore$Memory" (92 : Nat) ({ cls := "TabledStore$Memory", name := "freeWords", desc := "()I" } : Jvm.MethodName)) ∈ WB_ := wb_mk (i := 303) (by decide +kernel) (by decide +kernel)
theorem wd_304 : (Jvm.Cond.methodLink "TabledStore$Memory" (69 : Nat) ({ cls := "TabledStore$Memory", name := "settle", desc := "([I)V" } : Jvm.MethodName)) ∈ WB_ := wb_mk (i := 304) (by decide +kernel) (by decide +kernel)
theorem wd_305 : (Jvm.Cond.methodLink "TabledStore$Memory" (76 : Nat) ({ cls := "TabledStore$Value", name := "ofEntry", desc := "(I)I" } : Jvm.MethodName)) ∈ WB_ := wb_mk (i := 305) (by decide +kernel) (by decide +kernel)
theorem wd_306 : (Jvm.Cond.static ({ cls := "TabledStore$Value", name := "ofEntry", desc := "(I)I" } : Jvm.MethodName)) ∈ WB_ := wb_mk (i := 306) (by decide +kernel) (by decide +kernel)
theorem wd_307 : (Jvm.Cond.code ({ cls := "TabledStore$Value", name := "ofEntry", desc := "(I)I" } : Jvm.MethodName) prog_3_method_3_code (1 : Nat) (Option.some Jvm.ClassFile.FieldType.int)) ∈ WB_ := wb_mk (i := 307) (by decide +kernel) (by decide +kernel)
theorem wd_308 : (Jvm.Cond.methodLink "TabledStore" (54 : Nat) ({ cls := "TabledStore", name := "needMade", desc := "(I)V" } : Jvm.MethodName)) ∈ WB_ := wb_mk (i := 308) (by decide +kernel) (by decide +kernel)
theorem wd_309 : (Jvm.Cond.static ({ cls := "TabledStore", name := "needMade", desc := "(I)V" } : Jvm.MethodName)) ∈ WB_ := wb_mk (i := 309) (by decide +kernel) (by decide +kernel)
theorem wd_310 : (Jvm.Cond.code ({ cls := "TabledStore", name := "needMade", desc := "(I)V" } : Jvm.MethodName) prog_1_method_33_code (1 : Nat) (Option.none : Option Jvm.ClassFile.FieldType)) ∈ WB_ := wb_mk (i := 310) (by decide +kernel) (by decide +kernel)
theorem wd_311 : (Jvm.Cond.classLink "TabledStore" (169 : Nat) "java/lang/UnsupportedOperationException") ∈ WB_ := wb_mk (i := 311) (by decide +kernel) (by decide +kernel)
theorem wd_327 : (Jvm.Cond.methodLink "TabledStore" (57 : Nat) ({ cls := "TabledStore$Memory", name := "identity", desc := "(I)I" } : Jvm.MethodName)) ∈ WB_ := wb_mk (i := 327) (by decide +kernel) (by decide +kernel)
theorem wd_328 : (Jvm.Cond.instanceMethod ({ cls := "TabledStore$Memory", name := "identity", desc := "(I)I" } : Jvm.MethodName)) ∈ WB_ := wb_mk (i := 328) (by decide +kernel) (by decide +kernel)
theorem wd_329 : (Jvm.Cond.selects "TabledStore$Memory" ({ cls := "TabledStore$Memory", name := "identity", desc := "(I)I" } : Jvm.MethodName) ({ cls := "TabledStore$Memory", name := "identity", desc := "(I)I" } : Jvm.MethodName)) ∈ WB_ := wb_mk (i := 329) (by decide +kernel) (by decide +kernel)
theorem wd_330 : (Jvm.Cond.code ({ cls := "TabledStore$Memory", name := "identity", desc := "(I)I" } : Jvm.MethodName) prog_2_method_9_code (2 : Nat) (Option.some Jvm.ClassFile.FieldType.int)) ∈ WB_ := wb_mk (i := 330) (by decide +kernel) (by decide +kernel)
theorem wd_331 : (Jvm.Cond.methodLink "TabledStore$Memory" (46 : Nat) ({ cls := "TabledStore$Memory", name := "place", desc := "(I)I" } : Jvm.MethodName)) ∈ WB_ := wb_mk (i := 331) (by decide +kernel) (by decide +kernel)
theorem wd_333 : (Jvm.Cond.instanceMethod ({ cls := "TabledStore$Memory", name := "place", desc := "(I)I" } : Jvm.MethodName)) ∈ WB_ := wb_mk (i := 333) (by decide +kernel) (by decide +kernel)
theorem wd_334 : (Jvm.Cond.code ({ cls := "TabledStore$Memory", name := "place", desc := "(I)I" } : Jvm.MethodName) prog_2_method_5_code (2 : Nat) (Option.some Jvm.ClassFile.FieldType.int)) ∈ WB_ := wb_mk (i := 334) (by decide +kernel) (by decide +kernel)
theorem wd_342 : (Jvm.Cond.methodLink "TabledStore" (60 : Nat) ({ cls := "TabledStore", name := "needObject", desc := "(I)V" } : Jvm.MethodName)) ∈ WB_ := wb_mk (i := 342) (by decide +kernel) (by decide +kernel)
theorem wd_344 : (Jvm.Cond.instanceMethod ({ cls := "TabledStore", name := "needObject", desc := "(I)V" } : Jvm.MethodName)) ∈ WB_ := wb_mk (i := 344) (by decide +kernel) (by decide +kernel)
theorem wd_345 : (Jvm.Cond.code ({ cls := "TabledStore", name := "needObject", desc := "(I)V" } : Jvm.MethodName) prog_1_method_29_code (2 : Nat) (Option.none : Option Jvm.ClassFile.FieldType)) ∈ WB_ := wb_mk (i := 345) (by decide +kernel) (by decide +kernel)
theorem wd_346 : (Jvm.Cond.methodLink "TabledStore" (113 : Nat) ({ cls := "TabledStore$Value", name := "isObject", desc := "(I)Z" } : Jvm.MethodName)) ∈ WB_ := wb_mk (i := 346) (by decide +kernel) (by decide +kernel)
theorem wd_348 : (Jvm.Cond.methodLink "TabledStore" (63 : Nat) ({ cls := "TabledStore$Memory", name := "buildLike", desc := "(I[I)I" } : Jvm.MethodName)) ∈ WB_ := wb_mk (i := 348) (by decide +kernel) (by decide +kernel)
theorem wd_349 : (Jvm.Cond.instanceMethod ({ cls := "TabledStore$Memory", name := "buildLike", desc := "(I[I)I" } : Jvm.MethodName)) ∈ WB_ := wb_mk (i := 349) (by decide +kernel) (by decide +kernel)
theorem wd_350 : (Jvm.Cond.selects "TabledStore$Memory" ({ cls := "TabledStore$Memory", name := "buildLike", desc := "(I[I)I" } : Jvm.MethodName) ({ cls := "TabledStore$Memory", name := "buildLike", desc := "(I[I)I" } : Jvm.MethodName)) ∈ WB_ := wb_mk (i := 350) (by decide +kernel) (by decide +kernel)
theorem wd_351 : (Jvm.Cond.code ({ cls := "TabledStore$Memory", name := "buildLike", desc := "(I[I)I" } : Jvm.MethodName) prog_2_method_22_code (5 : Nat) (Option.some Jvm.ClassFile.FieldType.int)) ∈ WB_ := wb_mk (i := 351) (by decide +kernel) (by decide +kernel)
theorem wd_352 : (Jvm.Cond.methodLink "TabledStore$Memory" (79 : Nat) ({ cls := "TabledStore$Memory", name := "itsClass", desc := "(I)I" } : Jvm.MethodName)) ∈ WB_ := wb_mk (i := 352) (by decide +kernel) (by decide +kernel)
theorem wd_353 : (Jvm.Cond.instanceMethod ({ cls := "TabledStore$Memory", name := "itsClass", desc := "(I)I" } : Jvm.MethodName)) ∈ WB_ := wb_mk (i := 353) (by decide +kernel) (by decide +kernel)
theorem wd_354 : (Jvm.Cond.selects "TabledStore$Memory" ({ cls := "TabledStore$Memory", name := "itsClass", desc := "(I)I" } : Jvm.MethodName) ({ cls := "TabledStore$Memory", name := "itsClass", desc := "(I)I" } : Jvm.MethodName)) ∈ WB_ := wb_mk (i := 354) (by decide +kernel) (by decide +kernel)
theorem wd_355 : (Jvm.Cond.code ({ cls := "TabledStore$Memory", name := "itsClass", desc := "(I)I" } : Jvm.MethodName) prog_2_method_10_code (2 : Nat) (Option.some Jvm.ClassFile.FieldType.int)) ∈ WB_ := wb_mk (i := 355) (by decide +kernel) (by decide +kernel)
theorem wd_356 : (Jvm.Cond.methodLink "TabledStore$Memory" (82 : Nat) ({ cls := "TabledStore$Memory", name := "build", desc := "(II[I)I" } : Jvm.MethodName)) ∈ WB_ := wb_mk (i := 356) (by decide +kernel) (by decide +kernel)
theorem wd_364 : (Jvm.Cond.methodLink "TabledStore" (67 : Nat) ({ cls := "TabledStore$Memory", name := "setSlot", desc := "(III)V" } : Jvm.MethodName)) ∈ WB_ := wb_mk (i := 364) (by decide +kernel) (by decide +kernel)
theorem wd_365 : (Jvm.Cond.instanceMethod ({ cls := "TabledStore$Memory", name := "setSlot", desc := "(III)V" } : Jvm.MethodName)) ∈ WB_ := wb_mk (i := 365) (by decide +kernel) (by decide +kernel)
theorem wd_366 : (Jvm.Cond.selects "TabledStore$Memory" ({ cls := "TabledStore$Memory", name := "setSlot", desc := "(III)V" } : Jvm.MethodName) ({ cls := "TabledStore$Memory", name := "setSlot", desc := "(III)V" } : Jvm.MethodName)) ∈ WB_ := wb_mk (i := 366) (by decide +kernel) (by decide +kernel)
theorem wd_367 : (Jvm.Cond.code ({ cls := "TabledStore$Memory", name := "setSlot", desc := "(III)V" } : Jvm.MethodName) prog_2_method_13_code (4 : Nat) (Option.none : Option Jvm.ClassFile.FieldType)) ∈ WB_ := wb_mk (i := 367) (by decide +kernel) (by decide +kernel)
theorem wd_368 : (Jvm.Cond.methodLink "TabledStore$Memory" (49 : Nat) ({ cls := "TabledStore$Memory", name := "overwrite", desc := "(II)V" } : Jvm.MethodName)) ∈ WB_ := wb_mk (i := 368) (by decide +kernel) (by decide +kernel)
theorem wd_370 : (Jvm.Cond.instanceMethod ({ cls := "TabledStore$Memory", name := "overwrite", desc := "(II)V" } : Jvm.MethodName)) ∈ WB_ := wb_mk (i := 370) (by decide +kernel) (by decide +kernel)
theorem wd_371 : (Jvm.Cond.code ({ cls := "TabledStore$Memory", name := "overwrite", desc := "(II)V" } : Jvm.MethodName) prog_2_method_17_code (3 : Nat) (Option.none : Option Jvm.ClassFile.FieldType)) ∈ WB_ := wb_mk (i := 371) (by decide +kernel) (by decide +kernel)
theorem wd_372 : (Jvm.Cond.methodLink "TabledStore$Memory" (56 : Nat) ({ cls := "TabledStore$Memory", name := "letGo", desc := "(I)V" } : Jvm.MethodName)) ∈ WB_ := wb_mk (i := 372) (by decide +kernel) (by decide +kernel)
theorem wd_381 : (Jvm.Cond.methodLink "TabledStore" (70 : Nat) ({ cls := "TabledStore", name := "needSlots", desc := "(I)V" } : Jvm.MethodName)) ∈ WB_ := wb_mk (i := 381) (by decide +kernel) (by decide +kernel)
theorem wd_383 : (Jvm.Cond.instanceMethod ({ cls := "TabledStore", name := "needSlots", desc := "(I)V" } : Jvm.MethodName)) ∈ WB_ := wb_mk (i := 383) (by decide +kernel) (by decide +kernel)
theorem wd_384 : (Jvm.Cond.code ({ cls := "TabledStore", name := "needSlots", desc := "(I)V" } : Jvm.MethodName) prog_1_method_30_code (2 : Nat) (Option.none : Option Jvm.ClassFile.FieldType)) ∈ WB_ := wb_mk (i := 384) (by decide +kernel) (by decide +kernel)
theorem wd_385 : (Jvm.Cond.methodLink "TabledStore" (80 : Nat) ({ cls := "TabledStore$Memory", name := "holdsSlots", desc := "(I)Z" } : Jvm.MethodName)) ∈ WB_ := wb_mk (i := 385) (by decide +kernel) (by decide +kernel)
theorem wd_386 : (Jvm.Cond.instanceMethod ({ cls := "TabledStore$Memory", name := "holdsSlots", desc := "(I)Z" } : Jvm.MethodName)) ∈ WB_ := wb_mk (i := 386) (by decide +kernel) (by decide +kernel)
theorem wd_387 : (Jvm.Cond.selects "TabledStore$Memory" ({ cls := "TabledStore$Memory", name := "holdsSlots", desc := "(I)Z" } : Jvm.MethodName) ({ cls := "TabledStore$Memory", name := "holdsSlots", desc := "(I)Z" } : Jvm.MethodName)) ∈ WB_ := wb_mk (i := 387) (by decide +kernel) (by decide +kernel)
theorem wd_388 : (Jvm.Cond.code ({ cls := "TabledStore$Memory", name := "holdsSlots", desc := "(I)Z" } : Jvm.MethodName) prog_2_method_6_code (2 : Nat) (Option.some Jvm.ClassFile.FieldType.boolean)) ∈ WB_ := wb_mk (i := 388) (by decide +kernel) (by decide +kernel)
theorem wd_390 : (Jvm.Cond.methodLink "TabledStore" (73 : Nat) ({ cls := "TabledStore", name := "needIndex", desc := "(II)V" } : Jvm.MethodName)) ∈ WB_ := wb_mk (i := 390) (by decide +kernel) (by decide +kernel)
theorem wd_392 : (Jvm.Cond.instanceMethod ({ cls := "TabledStore", name := "needIndex", desc := "(II)V" } : Jvm.MethodName)) ∈ WB_ := wb_mk (i := 392) (by decide +kernel) (by decide +kernel)
theorem wd_393 : (Jvm.Cond.code ({ cls := "TabledStore", name := "needIndex", desc := "(II)V" } : Jvm.MethodName) prog_1_method_32_code (3 : Nat) (Option.none : Option Jvm.ClassFile.FieldType)) ∈ WB_ := wb_mk (i := 393) (by decide +kernel) (by decide +kernel)
theorem wd_394 : (Jvm.Cond.methodLink "TabledStore" (84 : Nat) ({ cls := "TabledStore$Memory", name := "count", desc := "(I)I" } : Jvm.MethodName)) ∈ WB_ := wb_mk (i := 394) (by decide +kernel) (by decide +kernel)
theorem wd_395 : (Jvm.Cond.instanceMethod ({ cls := "TabledStore$Memory", name := "count", desc := "(I)I" } : Jvm.MethodName)) ∈ WB_ := wb_mk (i := 395) (by decide +kernel) (by decide +kernel)
theorem wd_396 : (Jvm.Cond.selects "TabledStore$Memory" ({ cls := "TabledStore$Memory", name := "count", desc := "(I)I" } : Jvm.MethodName) ({ cls := "TabledStore$Memory", name := "count", desc := "(I)I" } : Jvm.MethodName)) ∈ WB_ := wb_mk (i := 396) (by decide +kernel) (by decide +kernel)
theorem wd_397 : (Jvm.Cond.code ({ cls := "TabledStore$Memory", name := "count", desc := "(I)I" } : Jvm.MethodName) prog_2_method_8_code (2 : Nat) (Option.some Jvm.ClassFile.FieldType.int)) ∈ WB_ := wb_mk (i := 397) (by decide +kernel) (by decide +kernel)
theorem wd_398 : (Jvm.Cond.classLink "TabledStore" (164 : Nat) "java/lang/IndexOutOfBoundsException") ∈ WB_ := wb_mk (i := 398) (by decide +kernel) (by decide +kernel)
theorem wd_414 : (Jvm.Cond.methodLink "TabledStore" (76 : Nat) ({ cls := "TabledStore$Memory", name := "slot", desc := "(II)I" } : Jvm.MethodName)) ∈ WB_ := wb_mk (i := 414) (by decide +kernel) (by decide +kernel)
theorem wd_415 : (Jvm.Cond.instanceMethod ({ cls := "TabledStore$Memory", name := "slot", desc := "(II)I" } : Jvm.MethodName)) ∈ WB_ := wb_mk (i := 415) (by decide +kernel) (by decide +kernel)
theorem wd_416 : (Jvm.Cond.selects "TabledStore$Memory" ({ cls := "TabledStore$Memory", name := "slot", desc := "(II)I" } : Jvm.MethodName) ({ cls := "TabledStore$Memory", name := "slot", desc := "(II)I" } : Jvm.MethodName)) ∈ WB_ := wb_mk (i := 416) (by decide +kernel) (by decide +kernel)
theorem wd_417 : (Jvm.Cond.code ({ cls := "TabledStore$Memory", name := "slot", desc := "(II)I" } : Jvm.MethodName) prog_2_method_12_code (3 : Nat) (Option.some Jvm.ClassFile.FieldType.int)) ∈ WB_ := wb_mk (i := 417) (by decide +kernel) (by decide +kernel)
theorem wd_439 : (Jvm.Cond.methodLink "TabledStore" (87 : Nat) ({ cls := "TabledStore$Memory", name := "itsClass", desc := "(I)I" } : Jvm.MethodName)) ∈ WB_ := wb_mk (i := 439) (by decide +kernel) (by decide +kernel)
theorem wd_447 : (Jvm.Cond.methodLink "TabledStore" (90 : Nat) ({ cls := "TabledStore$Memory", name := "setItsClass", desc := "(II)V" } : Jvm.MethodName)) ∈ WB_ := wb_mk (i := 447) (by decide +kernel) (by decide +kernel)
theorem wd_448 : (Jvm.Cond.instanceMethod ({ cls := "TabledStore$Memory", name := "setItsClass", desc := "(II)V" } : Jvm.MethodName)) ∈ WB_ := wb_mk (i := 448) (by decide +kernel) (by decide +kernel)
theorem wd_449 : (Jvm.Cond.selects "TabledStore$Memory" ({ cls := "TabledStore$Memory", name := "setItsClass", desc := "(II)V" } : Jvm.MethodName) ({ cls := "TabledStore$Memory", name := "setItsClass", desc := "(II)V" } : Jvm.MethodName)) ∈ WB_ := wb_mk (i := 449) (by decide +kernel) (by decide +kernel)
theorem wd_450 : (Jvm.Cond.code ({ cls := "TabledStore$Memory", name := "setItsClass", desc := "(II)V" } : Jvm.MethodName) prog_2_method_11_code (3 : Nat) (Option.none : Option Jvm.ClassFile.FieldType)) ∈ WB_ := wb_mk (i := 450) (by decide +kernel) (by decide +kernel)
theorem wd_458 : (Jvm.Cond.methodLink "TabledStore" (93 : Nat) ({ cls := "TabledStore", name := "needBytes", desc := "(I)V" } : Jvm.MethodName)) ∈ WB_ := wb_mk (i := 458) (by decide +kernel) (by decide +kernel)
theorem wd_460 : (Jvm.Cond.instanceMethod ({ cls := "TabledStore", name := "needBytes", desc := "(I)V" } : Jvm.MethodName)) ∈ WB_ := wb_mk (i := 460) (by decide +kernel) (by decide +kernel)
theorem wd_461 : (Jvm.Cond.code ({ cls := "TabledStore", name := "needBytes", desc := "(I)V" } : Jvm.MethodName) prog_1_method_31_code (2 : Nat) (Option.none : Option Jvm.ClassFile.FieldType)) ∈ WB_ := wb_mk (i := 461) (by decide +kernel) (by decide +kernel)
theorem wd_462 : (Jvm.Cond.methodLink "TabledStore" (143 : Nat) ({ cls := "TabledStore$Memory", name := "holdsBytes", desc := "(I)Z" } : Jvm.MethodName)) ∈ WB_ := wb_mk (i := 462) (by decide +kernel) (by decide +kernel)
theorem wd_463 : (Jvm.Cond.instanceMethod ({ cls := "TabledStore$Memory", name := "holdsBytes", desc := "(I)Z" } : Jvm.MethodName)) ∈ WB_ := wb_mk (i := 463) (by decide +kernel) (by decide +kernel)
theorem wd_464 : (Jvm.Cond.selects "TabledStore$Memory" ({ cls := "TabledStore$Memory", name := "holdsBytes", desc := "(I)Z" } : Jvm.MethodName) ({ cls := "TabledStore$Memory", name := "holdsBytes", desc := "(I)Z" } : Jvm.MethodName)) ∈ WB_ := wb_mk (i := 464) (by decide +kernel) (by decide +kernel)
theorem wd_465 : (Jvm.Cond.code ({ cls := "TabledStore$Memory", name := "holdsBytes", desc := "(I)Z" } : Jvm.MethodName) prog_2_method_7_code (2 : Nat) (Option.some Jvm.ClassFile.FieldType.boolean)) ∈ WB_ := wb_mk (i := 465) (by decide +kernel) (by decide +kernel)
theorem wd_467 : (Jvm.Cond.methodLink "TabledStore" (96 : Nat) ({ cls := "TabledStore$Memory", name := "oneByte", desc := "(II)I" } : Jvm.MethodName)) ∈ WB_ := wb_mk (i := 467) (by decide +kernel) (by decide +kernel)
theorem wd_468 : (Jvm.Cond.instanceMethod ({ cls := "TabledStore$Memory", name := "oneByte", desc := "(II)I" } : Jvm.MethodName)) ∈ WB_ := wb_mk (i := 468) (by decide +kernel) (by decide +kernel)
theorem wd_469 : (Jvm.Cond.selects "TabledStore$Memory" ({ cls := "TabledStore$Memory", name := "oneByte", desc := "(II)I" } : Jvm.MethodName) ({ cls := "TabledStore$Memory", name := "oneByte", desc := "(II)I" } : Jvm.MethodName)) ∈ WB_ := wb_mk (i := 469) (by decide +kernel) (by decide +kernel)
theorem wd_470 : (Jvm.Cond.code ({ cls := "TabledStore$Memory", name := "oneByte", desc := "(II)I" } : Jvm.MethodName) prog_2_method_14_code (4 : Nat) (Option.some Jvm.ClassFile.FieldType.int)) ∈ WB_ := wb_mk (i := 470) (by decide +kernel) (by decide +kernel)
theorem wd_471 : (Jvm.Cond.methodLink "TabledStore$Memory" (53 : Nat) ({ cls := "TabledStore$Memory", name := "shiftOf", desc := "(I)I" } : Jvm.MethodName)) ∈ WB_ := wb_mk (i := 471) (by decide +kernel) (by decide +kernel)
theorem wd_472 : (Jvm.Cond.static ({ cls := "TabledStore$Memory", name := "shiftOf", desc := "(I)I" } : Jvm.MethodName)) ∈ WB_ := wb_mk (i := 472) (by decide +kernel) (by decide +kernel)
theorem wd_473 : (Jvm.Cond.code ({ cls := "TabledStore$Memory", name := "shiftOf", desc := "(I)I" } : Jvm.MethodName) prog_2_method_16_code (1 : Nat) (Option.some Jvm.ClassFile.FieldType.int)) ∈ WB_ := wb_mk (i := 473) (by decide +kernel) (by decide +kernel)
theorem wd_481 : (Jvm.Cond.methodLink "TabledStore" (99 : Nat) ({ cls := "java/lang/Math", name := "min", desc := "(II)I" } : Jvm.MethodName)) ∈ WB_ := wb_mk (i := 481) (by decide +kernel) (by decide +kernel)
theorem wd_482 : (Jvm.Cond.static ({ cls := "java/lang/Math", name := "min", desc := "(II)I" } : Jvm.MethodName)) ∈ WB_ := wb_mk (i := 482) (by decide +kernel) (by decide +kernel)
theorem wd_483 : (Jvm.Cond.code ({ cls := "java/lang/Math", name := "min", desc := "(II)I" } : Jvm.MethodName) prog_9_method_69_code (2 : Nat) (Option.some Jvm.ClassFile.FieldType.int)) ∈ WB_ := wb_mk (i := 483) (by decide +kernel) (by decide +kernel)
theorem wd_484 : (Jvm.Cond.methodLink "TabledStore" (104 : Nat) ({ cls := "TabledStore$Memory", name := "setOneByte", desc := "(III)V" } : Jvm.MethodName)) ∈ WB_ := wb_mk (i := 484) (by decide +kernel) (by decide +kernel)
theorem wd_485 : (Jvm.Cond.instanceMethod ({ cls := "TabledStore$Memory", name := "setOneByte", desc := "(III)V" } : Jvm.MethodName)) ∈ WB_ := wb_mk (i := 485) (by decide +kernel) (by decide +kernel)
theorem wd_486 : (Jvm.Cond.selects "TabledStore$Memory" ({ cls := "TabledStore$Memory", name := "setOneByte", desc := "(III)V" } : Jvm.MethodName) ({ cls := "TabledStore$Memory", name := "setOneByte", desc := "(III)V" } : Jvm.MethodName)) ∈ WB_ := wb_mk (i := 486) (by decide +kernel) (by decide +kernel)
theorem wd_487 : (Jvm.Cond.code ({ cls := "TabledStore$Memory", name := "setOneByte", desc := "(III)V" } : Jvm.MethodName) prog_2_method_15_code (6 : Nat) (Option.none : Option Jvm.ClassFile.FieldType)) ∈ WB_ := wb_mk (i := 487) (by decide +kernel) (by decide +kernel)
theorem wd_495 : (Jvm.Cond.methodLink "TabledStore" (107 : Nat) ({ cls := "TabledStore$Value", name := "isNumber", desc := "(I)Z" } : Jvm.MethodName)) ∈ WB_ := wb_mk (i := 495) (by decide +kernel) (by decide +kernel)
theorem wd_503 : (Jvm.Cond.methodLink "TabledStore" (110 : Nat) ({ cls := "TabledStore$Value", name := "toNumber", desc := "(I)I" } : Jvm.MethodName)) ∈ WB_ := wb_mk (i := 503) (by decide +kernel) (by decide +kernel)
theorem wd_504 : (Jvm.Cond.static ({ cls := "TabledStore$Value", name := "toNumber", desc := "(I)I" } : Jvm.MethodName)) ∈ WB_ := wb_mk (i := 504) (by decide +kernel) (by decide +kernel)
theorem wd_505 : (Jvm.Cond.code ({ cls := "TabledStore$Value", name := "toNumber", desc := "(I)I" } : Jvm.MethodName) prog_3_method_6_code (1 : Nat) (Option.some Jvm.ClassFile.FieldType.int)) ∈ WB_ := wb_mk (i := 505) (by decide +kernel) (by decide +kernel)
theorem wd_520 : (Jvm.Cond.methodLink "TabledStore" (116 : Nat) ({ cls := "TabledStore$Memory", name := "swap", desc := "(II)V" } : Jvm.MethodName)) ∈ WB_ := wb_mk (i := 520) (by decide +kernel) (by decide +kernel)
theorem wd_521 : (Jvm.Cond.instanceMethod ({ cls := "TabledStore$Memory", name := "swap", desc := "(II)V" } : Jvm.MethodName)) ∈ WB_ := wb_mk (i := 521) (by decide +kernel) (by decide +kernel)
theorem wd_522 : (Jvm.Cond.selects "TabledStore$Memory" ({ cls := "TabledStore$Memory", name := "swap", desc := "(II)V" } : Jvm.MethodName) ({ cls := "TabledStore$Memory", name := "swap", desc := "(II)V" } : Jvm.MethodName)) ∈ WB_ := wb_mk (i := 522) (by decide +kernel) (by decide +kernel)
theorem wd_523 : (Jvm.Cond.code ({ cls := "TabledStore$Memory", name := "swap", desc := "(II)V" } : Jvm.MethodName) prog_2_method_24_code (5 : Nat) (Option.none : Option Jvm.ClassFile.FieldType)) ∈ WB_ := wb_mk (i := 523) (by decide +kernel) (by decide +kernel)
theorem wd_524 : (Jvm.Cond.methodLink "TabledStore$Memory" (96 : Nat) ({ cls := "TabledStore$Memory", name := "seat", desc := "(II)V" } : Jvm.MethodName)) ∈ WB_ := wb_mk (i := 524) (by decide +kernel) (by decide +kernel)
theorem wd_526 : (Jvm.Cond.instanceMethod ({ cls := "TabledStore$Memory", name := "seat", desc := "(II)V" } : Jvm.MethodName)) ∈ WB_ := wb_mk (i := 526) (by decide +kernel) (by decide +kernel)
theorem wd_527 : (Jvm.Cond.code ({ cls := "TabledStore$Memory", name := "seat", desc := "(II)V" } : Jvm.MethodName) prog_2_method_25_code (3 : Nat) (Option.none : Option Jvm.ClassFile.FieldType)) ∈ WB_ := wb_mk (i := 527) (by decide +kernel) (by decide +kernel)
theorem wd_535 : (Jvm.Cond.constant "TabledStore" (132 : Nat) (2147483647 : Int32)) ∈ WB_ := wb_mk (i := 535) (by decide +kernel) (by decide +kernel)
theorem wd_536 : (Jvm.Cond.methodLink "TabledStore" (133 : Nat) ({ cls := "TabledStore$Memory", name := "findOfClass", desc := "(II)I" } : Jvm.MethodName)) ∈ WB_ := wb_mk (i := 536) (by decide +kernel) (by decide +kernel)
theorem wd_537 : (Jvm.Cond.instanceMethod ({ cls := "TabledStore$Memory", name := "findOfClass", desc := "(II)I" } : Jvm.MethodName)) ∈ WB_ := wb_mk (i := 537) (by decide +kernel) (by decide +kernel)
theorem wd_538 : (Jvm.Cond.selects "TabledStore$Memory" ({ cls := "TabledStore$Memory", name := "findOfClass", desc := "(II)I" } : Jvm.MethodName) ({ cls := "TabledStore$Memory", name := "findOfClass", desc := "(II)I" } : Jvm.MethodName)) ∈ WB_ := wb_mk (i := 538) (by decide +kernel) (by decide +kernel)
theorem wd_539 : (Jvm.Cond.code ({ cls := "TabledStore$Memory", name := "findOfClass", desc := "(II)I" } : Jvm.MethodName) prog_2_method_35_code (5 : Nat) (Option.some Jvm.ClassFile.FieldType.int)) ∈ WB_ := wb_mk (i := 539) (by decide +kernel) (by decide +kernel)
theorem wd_547 : (Jvm.Cond.methodLink "TabledStore" (136 : Nat) ({ cls := "TabledStore$Memory", name := "countHolders", desc := "(I)I" } : Jvm.MethodName)) ∈ WB_ := wb_mk (i := 547) (by decide +kernel) (by decide +kernel)
theorem wd_548 : (Jvm.Cond.instanceMethod ({ cls := "TabledStore$Memory", name := "countHolders", desc := "(I)I" } : Jvm.MethodName)) ∈ WB_ := wb_mk (i := 548) (by decide +kernel) (by decide +kernel)
theorem wd_549 : (Jvm.Cond.selects "TabledStore$Memory" ({ cls := "TabledStore$Memory", name := "countHolders", desc := "(I)I" } : Jvm.MethodName) ({ cls := "TabledStore$Memory", name := "countHolders", desc := "(I)I" } : Jvm.MethodName)) ∈ WB_ := wb_mk (i := 549) (by decide +kernel) (by decide +kernel)
theorem wd_550 : (Jvm.Cond.code ({ cls := "TabledStore$Memory", name := "countHolders", desc := "(I)I" } : Jvm.MethodName) prog_2_method_36_code (6 : Nat) (Option.some Jvm.ClassFile.FieldType.int)) ∈ WB_ := wb_mk (i := 550) (by decide +kernel) (by decide +kernel)
theorem wd_558 : (Jvm.Cond.methodLink "TabledStore" (139 : Nat) ({ cls := "TabledStore$Memory", name := "leadsTo", desc := "(II)Z" } : Jvm.MethodName)) ∈ WB_ := wb_mk (i := 558) (by decide +kernel) (by decide +kernel)
theorem wd_559 : (Jvm.Cond.instanceMethod ({ cls := "TabledStore$Memory", name := "leadsTo", desc := "(II)Z" } : Jvm.MethodName)) ∈ WB_ := wb_mk (i := 559) (by decide +kernel) (by decide +kernel)
theorem wd_560 : (Jvm.Cond.selects "TabledStore$Memory" ({ cls := "TabledStore$Memory", name := "leadsTo", desc := "(II)Z" } : Jvm.MethodName) ({ cls := "TabledStore$Memory", name := "leadsTo", desc := "(II)Z" } : Jvm.MethodName)) ∈ WB_ := wb_mk (i := 560) (by decide +kernel) (by decide +kernel)
theorem wd_561 : (Jvm.Cond.code ({ cls := "TabledStore$Memory", name := "leadsTo", desc := "(II)Z" } : Jvm.MethodName) prog_2_method_27_code (3 : Nat) (Option.some Jvm.ClassFile.FieldType.boolean)) ∈ WB_ := wb_mk (i := 561) (by decide +kernel) (by decide +kernel)
theorem g_V_7 : GoodIn WB_ (va_wsS R_V 7 y_V_isNumber ws_V_isNumber) := gS_ wd_124 wd_125 wd_40 wd_126
theorem g_M_33 : GoodIn WB_ (va_wsS R_M 33 y_M_isOfBytes ws_M_isOfBytes) := gS_ wd_142 wd_143 wd_34 wd_144
theorem g_M_37 : GoodIn WB_ (va_wsS R_M 37 y_V_toEntry ws_V_toEntry) := gS_ wd_127 wd_128 wd_40 wd_129
theorem g_M_43 : GoodIn WB_ (va_wsS R_M 43 y_V_isObject ws_V_isObject) := gS_ wd_121 wd_122 wd_40 wd_123
theorem g_M_46 : GoodIn WB_ (wsV R_M 46 R_M y_M_place ws_M_place) := gV_ wd_331 wd_333 wd_10 wd_34 wd_334
theorem g_M_53 : GoodIn WB_ (va_wsS R_M 53 y_M_shiftOf ws_M_shiftOf) := gS_ wd_471 wd_472 wd_34 wd_473
theorem g_M_92 : GoodIn WB_ (wsV R_M 92 R_M y_M_freeWords ws_M_freeWords) := gV_ wd_303 wd_160 wd_161 wd_34 wd_162
theorem g_M_63 : GoodIn WB_ (va_wsS R_M 63 y_M_bodyWords ws_M_bodyWords) := gS_ wd_145 wd_146 wd_34 wd_147
theorem g_M_123 : GoodIn WB_ (wsV R_M 123 R_M y_M_bodyWordsAt ws_M_bodyWordsAt) := gV_ wd_152 wd_154 wd_6 wd_34 wd_155
theorem g_M_76 : GoodIn WB_ (va_wsS R_M 76 y_V_ofEntry ws_V_ofEntry) := gS_ wd_305 wd_306 wd_40 wd_307
theorem g_M_120 : GoodIn WB_ (wsV R_M 120 R_M y_M_endOfSlots ws_M_endOfSlots) := gV_ wd_138 wd_140 wd_4 wd_34 wd_141
theorem g_M_56 : GoodIn WB_ (wsV R_M 56 R_M y_M_letGo ws_M_letGo) := gV_ wd_372 wd_267 wd_268 wd_34 wd_269
theorem g_M_49 : GoodIn WB_ (wsV R_M 49 R_M y_M_overwrite ws_M_overwrite) := gV_ wd_368 wd_370 wd_12 wd_34 wd_371
theorem g_M_96 : GoodIn WB_ (wsV R_M 96 R_M y_M_seat ws_M_seat) := gV_ wd_524 wd_526 wd_16 wd_34 wd_527
theorem g_M_111 : GoodIn WB_ (wsV R_M 111 R_M y_M_isReached ws_M_isReached) := gV_ wd_130 wd_132 wd_2 wd_34 wd_133
theorem g_M_102 : GoodIn WB_ (wsV R_M 102 R_M y_M_reach ws_M_reach) := gV_ wd_117 wd_119 wd_1 wd_34 wd_120
theorem g_M_99 : GoodIn WB_ (wsV R_M 99 R_M y_M_startRound ws_M_startRound) := gV_ wd_113 wd_115 wd_0 wd_34 wd_116
theorem g_M_105 : GoodIn WB_ (wsV R_M 105 R_M y_M_spread ws_M_spread) := gV_ wd_134 wd_136 wd_3 wd_34 wd_137
theorem g_M_108 : GoodIn WB_ (wsV R_M 108 R_M y_M_slide ws_M_slide) := gV_ wd_148 wd_150 wd_5 wd_34 wd_151
theorem g_M_66 : GoodIn WB_ (wsV R_M 66 R_M y_M_fits ws_M_fits) := gV_ wd_299 wd_301 wd_9 wd_34 wd_302
theorem g_M_69 : GoodIn WB_ (wsV R_M 69 R_M y_M_settle ws_M_settle) := gV_ wd_304 wd_110 wd_111 wd_34 wd_112
theorem g_M_79 : GoodIn WB_ (wsV R_M 79 R_M y_M_itsClass ws_M_itsClass) := gV_ wd_352 wd_353 wd_354 wd_34 wd_355
theorem g_M_82 : GoodIn WB_ (wsV R_M 82 R_M y_M_build ws_M_build) := gV_ wd_356 wd_296 wd_297 wd_34 wd_298
theorem g_T_16 : GoodIn WB_ (va_wsS R_T 16 y_T_isBetween ws_T_isBetween) := gS_ wd_56 wd_57 wd_33 wd_58
theorem g_T_27 : GoodIn WB_ (va_wsS R_T 27 y_T_needRegister ws_T_needRegister) := gS_ wd_182 wd_183 wd_33 wd_184
theorem g_T_113 : GoodIn WB_ (va_wsS R_T 113 y_V_isObject ws_V_isObject) := gS_ wd_346 wd_122 wd_40 wd_123
theorem g_T_80 : GoodIn WB_ (wsV R_T 80 R_M y_M_holdsSlots ws_M_holdsSlots) := gV_ wd_385 wd_386 wd_387 wd_34 wd_388
theorem g_T_143 : GoodIn WB_ (wsV R_T 143 R_M y_M_holdsBytes ws_M_holdsBytes) := gV_ wd_462 wd_463 wd_464 wd_34 wd_465
theorem g_T_84 : GoodIn WB_ (wsV R_T 84 R_M y_M_count ws_M_count) := gV_ wd_394 wd_395 wd_396 wd_34 wd_397
theorem g_T_146 : GoodIn WB_ (wsV R_T 146 R_M y_M_letGo ws_M_letGo) := gV_ wd_266 wd_267 wd_268 wd_34 wd_269
theorem g_T_33 : GoodIn WB_ (va_wsS R_T 33 y_T_needBetween ws_T_needBetween) := gS_ wd_255 wd_256 wd_33 wd_257
theorem g_T_37 : GoodIn WB_ (va_wsS R_T 37 y_V_ofNumber ws_V_ofNumber) := gS_ wd_259 wd_260 wd_40 wd_261
theorem g_T_43 : GoodIn WB_ (wsV R_T 43 R_T y_T_setRegister ws_T_setRegister) := gV_ wd_262 wd_264 wd_8 wd_33 wd_265
theorem g_T_46 : GoodIn WB_ (va_wsS R_T 46 y_M_shape ws_M_shape) := gS_ wd_292 wd_293 wd_34 wd_294
theorem g_T_50 : GoodIn WB_ (wsV R_T 50 R_M y_M_build ws_M_build) := gV_ wd_295 wd_296 wd_297 wd_34 wd_298
theorem g_T_54 : GoodIn WB_ (va_wsS R_T 54 y_T_needMade ws_T_needMade) := gS_ wd_308 wd_309 wd_33 wd_310
theorem g_T_57 : GoodIn WB_ (wsV R_T 57 R_M y_M_identity ws_M_identity) := gV_ wd_327 wd_328 wd_329 wd_34 wd_330
theorem g_T_60 : GoodIn WB_ (wsV R_T 60 R_T y_T_needObject ws_T_needObject) := gV_ wd_342 wd_344 wd_11 wd_33 wd_345
theorem g_T_63 : GoodIn WB_ (wsV R_T 63 R_M y_M_buildLike ws_M_buildLike) := gV_ wd_348 wd_349 wd_350 wd_34 wd_351
theorem g_T_67 : GoodIn WB_ (wsV R_T 67 R_M y_M_setSlot ws_M_setSlot) := gV_ wd_364 wd_365 wd_366 wd_34 wd_367
theorem g_T_70 : GoodIn WB_ (wsV R_T 70 R_T y_T_needSlots ws_T_needSlots) := gV_ wd_381 wd_383 wd_13 wd_33 wd_384
theorem g_T_73 : GoodIn WB_ (wsV R_T 73 R_T y_T_needIndex ws_T_needIndex) := gV_ wd_390 wd_392 wd_14 wd_33 wd_393
theorem g_T_76 : GoodIn WB_ (wsV R_T 76 R_M y_M_slot ws_M_slot) := gV_ wd_414 wd_415 wd_416 wd_34 wd_417
theorem g_T_87 : GoodIn WB_ (wsV R_T 87 R_M y_M_itsClass ws_M_itsClass) := gV_ wd_439 wd_353 wd_354 wd_34 wd_355
theorem g_T_90 : GoodIn WB_ (wsV R_T 90 R_M y_M_setItsClass ws_M_setItsClass) := gV_ wd_447 wd_448 wd_449 wd_34 wd_450
theorem g_T_93 : GoodIn WB_ (wsV R_T 93 R_T y_T_needBytes ws_T_needBytes) := gV_ wd_458 wd_460 wd_15 wd_33 wd_461
theorem g_T_96 : GoodIn WB_ (wsV R_T 96 R_M y_M_oneByte ws_M_oneByte) := gV_ wd_467 wd_468 wd_469 wd_34 wd_470
theorem g_T_104 : GoodIn WB_ (wsV R_T 104 R_M y_M_setOneByte ws_M_setOneByte) := gV_ wd_484 wd_485 wd_486 wd_34 wd_487
theorem g_T_107 : GoodIn WB_ (va_wsS R_T 107 y_V_isNumber ws_V_isNumber) := gS_ wd_495 wd_125 wd_40 wd_126
theorem g_T_110 : GoodIn WB_ (va_wsS R_T 110 y_V_toNumber ws_V_toNumber) := gS_ wd_503 wd_504 wd_40 wd_505
theorem g_T_116 : GoodIn WB_ (wsV R_T 116 R_M y_M_swap ws_M_swap) := gV_ wd_520 wd_521 wd_522 wd_34 wd_523
theorem g_T_119 : GoodIn WB_ (wsV R_T 119 R_M y_M_settle ws_M_settle) := gV_ wd_109 wd_110 wd_111 wd_34 wd_112
theorem g_T_123 : GoodIn WB_ (wsV R_T 123 R_M y_M_freeWords ws_M_freeWords) := gV_ wd_159 wd_160 wd_161 wd_34 wd_162
theorem g_T_127 : GoodIn WB_ (wsV R_T 127 R_M y_M_freeEntries ws_M_freeEntries) := gV_ wd_167 wd_168 wd_169 wd_34 wd_170
theorem g_T_133 : GoodIn WB_ (wsV R_T 133 R_M y_M_findOfClass ws_M_findOfClass) := gV_ wd_536 wd_537 wd_538 wd_34 wd_539
theorem g_T_136 : GoodIn WB_ (wsV R_T 136 R_M y_M_countHolders ws_M_countHolders) := gV_ wd_547 wd_548 wd_549 wd_34 wd_550
theorem g_T_139 : GoodIn WB_ (wsV R_T 139 R_M y_M_leadsTo ws_M_leadsTo) := gV_ wd_558 wd_559 wd_560 wd_34 wd_561
theorem xa_T_153 : ∀ w ∈ (vx_atS R_T 153 "java/lang/IllegalArgumentException" ["java/lang/RuntimeException", "java/lang/Exception"]).filter goodWord, w ∈ WB_ := by decide +kernel
theorem xa_T_153_n : ∀ w ∈ (vx_atS R_T 153 "java/lang/IllegalArgumentException" ["java/lang/RuntimeException", "java/lang/Exception"]).filter (fun w => !goodWord w), w ∈ [Cond.castable "java/lang/IllegalArgumentException" "java/lang/IllegalArgumentException", Cond.declares (Bundle.initS "java/lang/RuntimeException"), Cond.declares (Bundle.initS "java/lang/Exception"), Cond.declares (Bundle.initS "java/lang/Throwable")] := by decide +kernel
theorem xa_T_173 : ∀ w ∈ (vx_atS R_T 173 "java/lang/UnsupportedOperationException" ["java/lang/RuntimeException", "java/lang/Exception"]).filter goodWord, w ∈ WB_ := by decide +kernel
theorem xa_T_173_n : ∀ w ∈ (vx_atS R_T 173 "java/lang/UnsupportedOperationException" ["java/lang/RuntimeException", "java/lang/Exception"]).filter (fun w => !goodWord w), w ∈ [Cond.castable "java/lang/UnsupportedOperationException" "java/lang/UnsupportedOperationException", Cond.declares (Bundle.initS "java/lang/RuntimeException"), Cond.declares (Bundle.initS "java/lang/Exception"), Cond.declares (Bundle.initS "java/lang/Throwable")] := by decide +kernel
theorem xa_T_168 : ∀ w ∈ (vx_atS R_T 168 "java/lang/IndexOutOfBoundsException" ["java/lang/RuntimeException", "java/lang/Exception"]).filter goodWord, w ∈ WB_ := by decide +kernel
theorem xa_T_168_n : ∀ w ∈ (vx_atS R_T 168 "java/lang/IndexOutOfBoundsException" ["java/lang/RuntimeException", "java/lang/Exception"]).filter (fun w => !goodWord w), w ∈ [Cond.castable "java/lang/IndexOutOfBoundsException" "java/lang/IndexOutOfBoundsException", Cond.declares (Bundle.initS "java/lang/RuntimeException"), Cond.declares (Bundle.initS "java/lang/Exception"), Cond.declares (Bundle.initS "java/lang/Throwable")] := by decide +kernel
end
section
theorem d_V_ofNumber_0 : decode c_V_ofNumber 0 = .ok (.iconst 2, 1) := by decide +kernel
theorem d_V_ofNumber_1 : decode c_V_ofNumber 1 = .ok (.iload_n 0, 1) := by decide +kernel
theorem d_V_ofNumber_2 : decode c_V_ofNumber 2 = .ok (.imul, 1) := by decide +kernel
theorem d_V_ofNumber_3 : decode c_V_ofNumber 3 = .ok (.iconst 1, 1) := by decide +kernel
theorem d_V_ofNumber_4 : decode c_V_ofNumber 4 = .ok (.iadd, 1) := by decide +kernel
theorem d_V_ofNumber_5 : decode c_V_ofNumber 5 = .ok (.ireturn, 1) := by decide +kernel
theorem d_V_ofEntry_0 : decode c_V_ofEntry 0 = .ok (.iconst 2, 1) := by decide +kernel
theorem d_V_ofEntry_1 : decode c_V_ofEntry 1 = .ok (.iload_n 0, 1) := by decide +kernel
theorem d_V_ofEntry_2 : decode c_V_ofEntry 2 = .ok (.imul, 1) := by decide +kernel
theorem d_V_ofEntry_3 : decode c_V_ofEntry 3 = .ok (.iconst 2, 1) := by decide +kernel
theorem d_V_ofEntry_4 : decode c_V_ofEntry 4 = .ok (.iadd, 1) := by decide +kernel
theorem d_V_ofEntry_5 : decode c_V_ofEntry 5 = .ok (.ireturn, 1) := by decide +kernel
theorem d_V_isNumber_0 : decode c_V_isNumber 0 = .ok (.iload_n 0, 1) := by decide +kernel
theorem d_V_isNumber_1 : decode c_V_isNumber 1 = .ok (.iconst 1, 1) := by decide +kernel
theorem d_V_isNumber_2 : decode c_V_isNumber 2 = .ok (.iand, 1) := by decide +kernel
theorem d_V_isNumber_3 : decode c_V_isNumber 3 = .ok (.ifCond .eq 7, 3) := by decide +kernel
theorem d_V_isNumber_6 : decode c_V_isNumber 6 = .ok (.iconst 1, 1) := by decide +kernel
theorem d_V_isNumber_7 : decode c_V_isNumber 7 = .ok (.goto 4, 3) := by decide +kernel
theorem d_V_isNumber_10 : decode c_V_isNumber 10 = .ok (.iconst 0, 1) := by decide +kernel
theorem d_V_isNumber_11 : decode c_V_isNumber 11 = .ok (.ireturn, 1) := by decide +kernel
theorem d_V_isObject_0 : decode c_V_isObject 0 = .ok (.iload_n 0, 1) := by decide +kernel
theorem d_V_isObject_1 : decode c_V_isObject 1 = .ok (.ifCond .eq 14, 3) := by decide +kernel
theorem d_V_isObject_4 : decode c_V_isObject 4 = .ok (.iload_n 0, 1) := by decide +kernel
theorem d_V_isObject_5 : decode c_V_isObject 5 = .ok (.invokestatic 7, 3) := by decide +kernel
theorem d_V_isObject_8 : decode c_V_isObject 8 = .ok (.ifCond .ne 7, 3) := by decide +kernel
theorem d_V_isObject_11 : decode c_V_isObject 11 = .ok (.iconst 1, 1) := by decide +kernel
theorem d_V_isObject_12 : decode c_V_isObject 12 = .ok (.goto 4, 3) := by decide +kernel
theorem d_V_isObject_15 : decode c_V_isObject 15 = .ok (.iconst 0, 1) := by decide +kernel
theorem d_V_isObject_16 : decode c_V_isObject 16 = .ok (.ireturn, 1) := by decide +kernel
theorem d_V_toNumber_0 : decode c_V_toNumber 0 = .ok (.iload_n 0, 1) := by decide +kernel
theorem d_V_toNumber_1 : decode c_V_toNumber 1 = .ok (.iconst 1, 1) := by decide +kernel
theorem d_V_toNumber_2 : decode c_V_toNumber 2 = .ok (.ishr, 1) := by decide +kernel
theorem d_V_toNumber_3 : decode c_V_toNumber 3 = .ok (.ireturn, 1) := by decide +kernel
theorem d_V_toEntry_0 : decode c_V_toEntry 0 = .ok (.iload_n 0, 1) := by decide +kernel
theorem d_V_toEntry_1 : decode c_V_toEntry 1 = .ok (.iconst 1, 1) := by decide +kernel
theorem d_V_toEntry_2 : decode c_V_toEntry 2 = .ok (.ishr, 1) := by decide +kernel
theorem d_V_toEntry_3 : decode c_V_toEntry 3 = .ok (.iconst 1, 1) := by decide +kernel
theorem d_V_toEntry_4 : decode c_V_toEntry 4 = .ok (.isub, 1) := by decide +kernel
theorem d_V_toEntry_5 : decode c_V_toEntry 5 = .ok (.ireturn, 1) := by decide +kernel
theorem d_M_init_0 : decode c_M_init 0 = .ok (.aload_n 0, 1) := by decide +kernel
theorem d_M_init_1 : decode c_M_init 1 = .ok (.invokespecial 1, 3) := by decide +kernel
theorem d_M_init_4 : decode c_M_init 4 = .ok (.aload_n 0, 1) := by decide +kernel
theorem d_M_init_5 : decode c_M_init 5 = .ok (.iload_n 1, 1) := by decide +kernel
theorem d_M_init_6 : decode c_M_init 6 = .ok (.newarray .int, 2) := by decide +kernel
theorem d_M_init_8 : decode c_M_init 8 = .ok (.putfield 7, 3) := by decide +kernel
theorem d_M_init_11 : decode c_M_init 11 = .ok (.aload_n 0, 1) := by decide +kernel
theorem d_M_init_12 : decode c_M_init 12 = .ok (.iload_n 2, 1) := by decide +kernel
theorem d_M_init_13 : decode c_M_init 13 = .ok (.newarray .int, 2) := by decide +kernel
theorem d_M_init_15 : decode c_M_init 15 = .ok (.putfield 13, 3) := by decide +kernel
theorem d_M_init_18 : decode c_M_init 18 = .ok (.aload_n 0, 1) := by decide +kernel
theorem d_M_init_19 : decode c_M_init 19 = .ok (.iload_n 2, 1) := by decide +kernel
theorem d_M_init_20 : decode c_M_init 20 = .ok (.newarray .int, 2) := by decide +kernel
theorem d_M_init_22 : decode c_M_init 22 = .ok (.putfield 16, 3) := by decide +kernel
theorem d_M_init_25 : decode c_M_init 25 = .ok (.aload_n 0, 1) := by decide +kernel
theorem d_M_init_26 : decode c_M_init 26 = .ok (.iload_n 2, 1) := by decide +kernel
theorem d_M_init_27 : decode c_M_init 27 = .ok (.newarray .int, 2) := by decide +kernel
theorem d_M_init_29 : decode c_M_init 29 = .ok (.putfield 19, 3) := by decide +kernel
theorem d_M_init_32 : decode c_M_init 32 = .ok (.aload_n 0, 1) := by decide +kernel
theorem d_M_init_33 : decode c_M_init 33 = .ok (.iload_n 2, 1) := by decide +kernel
theorem d_M_init_34 : decode c_M_init 34 = .ok (.newarray .int, 2) := by decide +kernel
theorem d_M_init_36 : decode c_M_init 36 = .ok (.putfield 22, 3) := by decide +kernel
theorem d_M_init_39 : decode c_M_init 39 = .ok (.iconst 0, 1) := by decide +kernel
theorem d_M_init_40 : decode c_M_init 40 = .ok (.istore_n 3, 1) := by decide +kernel
theorem d_M_init_41 : decode c_M_init 41 = .ok (.iload_n 3, 1) := by decide +kernel
theorem d_M_init_42 : decode c_M_init 42 = .ok (.iload_n 2, 1) := by decide +kernel
theorem d_M_init_43 : decode c_M_init 43 = .ok (.if_icmp .ge 16, 3) := by decide +kernel
theorem d_M_init_46 : decode c_M_init 46 = .ok (.aload_n 0, 1) := by decide +kernel
theorem d_M_init_47 : decode c_M_init 47 = .ok (.getfield 16, 3) := by decide +kernel
theorem d_M_init_50 : decode c_M_init 50 = .ok (.iload_n 3, 1) := by decide +kernel
theorem d_M_init_51 : decode c_M_init 51 = .ok (.iload_n 3, 1) := by decide +kernel
theorem d_M_init_52 : decode c_M_init 52 = .ok (.iastore, 1) := by decide +kernel
theorem d_M_init_53 : decode c_M_init 53 = .ok (.iinc 3 1, 3) := by decide +kernel
theorem d_M_init_56 : decode c_M_init 56 = .ok (.goto (-15), 3) := by decide +kernel
theorem d_M_init_59 : decode c_M_init 59 = .ok (.aload_n 0, 1) := by decide +kernel
theorem d_M_init_60 : decode c_M_init 60 = .ok (.iload_n 2, 1) := by decide +kernel
theorem d_M_init_61 : decode c_M_init 61 = .ok (.putfield 25, 3) := by decide +kernel
theorem d_M_init_64 : decode c_M_init 64 = .ok (.aload_n 0, 1) := by decide +kernel
theorem d_M_init_65 : decode c_M_init 65 = .ok (.iconst 1, 1) := by decide +kernel
theorem d_M_init_66 : decode c_M_init 66 = .ok (.putfield 29, 3) := by decide +kernel
theorem d_M_init_69 : decode c_M_init 69 = .ok (.return_, 1) := by decide +kernel
theorem d_M_shape_0 : decode c_M_shape 0 = .ok (.iload_n 1, 1) := by decide +kernel
theorem d_M_shape_1 : decode c_M_shape 1 = .ok (.ifCond .eq 9, 3) := by decide +kernel
theorem d_M_shape_4 : decode c_M_shape 4 = .ok (.iconst 2, 1) := by decide +kernel
theorem d_M_shape_5 : decode c_M_shape 5 = .ok (.iload_n 0, 1) := by decide +kernel
theorem d_M_shape_6 : decode c_M_shape 6 = .ok (.imul, 1) := by decide +kernel
theorem d_M_shape_7 : decode c_M_shape 7 = .ok (.goto 8, 3) := by decide +kernel
theorem d_M_shape_10 : decode c_M_shape 10 = .ok (.iconst 2, 1) := by decide +kernel
theorem d_M_shape_11 : decode c_M_shape 11 = .ok (.iload_n 0, 1) := by decide +kernel
theorem d_M_shape_12 : decode c_M_shape 12 = .ok (.imul, 1) := by decide +kernel
theorem d_M_shape_13 : decode c_M_shape 13 = .ok (.iconst 1, 1) := by decide +kernel
theorem d_M_shape_14 : decode c_M_shape 14 = .ok (.iadd, 1) := by decide +kernel
theorem d_M_shape_15 : decode c_M_shape 15 = .ok (.ireturn, 1) := by decide +kernel
theorem d_M_isOfBytes_0 : decode c_M_isOfBytes 0 = .ok (.iload_n 0, 1) := by decide +kernel
theorem d_M_isOfBytes_1 : decode c_M_isOfBytes 1 = .ok (.iconst 1, 1) := by decide +kernel
theorem d_M_isOfBytes_2 : decode c_M_isOfBytes 2 = .ok (.iand, 1) := by decide +kernel
theorem d_M_isOfBytes_3 : decode c_M_isOfBytes 3 = .ok (.ifCond .eq 7, 3) := by decide +kernel
theorem d_M_isOfBytes_6 : decode c_M_isOfBytes 6 = .ok (.iconst 1, 1) := by decide +kernel
theorem d_M_isOfBytes_7 : decode c_M_isOfBytes 7 = .ok (.goto 4, 3) := by decide +kernel
theorem d_M_isOfBytes_10 : decode c_M_isOfBytes 10 = .ok (.iconst 0, 1) := by decide +kernel
theorem d_M_isOfBytes_11 : decode c_M_isOfBytes 11 = .ok (.ireturn, 1) := by decide +kernel
theorem d_M_bodyWords_0 : decode c_M_bodyWords 0 = .ok (.iload_n 0, 1) := by decide +kernel
theorem d_M_bodyWords_1 : decode c_M_bodyWords 1 = .ok (.iconst 1, 1) := by decide +kernel
theorem d_M_bodyWords_2 : decode c_M_bodyWords 2 = .ok (.ishr, 1) := by decide +kernel
theorem d_M_bodyWords_3 : decode c_M_bodyWords 3 = .ok (.istore_n 1, 1) := by decide +kernel
theorem d_M_bodyWords_4 : decode c_M_bodyWords 4 = .ok (.iload_n 0, 1) := by decide +kernel
theorem d_M_bodyWords_5 : decode c_M_bodyWords 5 = .ok (.invokestatic 33, 3) := by decide +kernel
theorem d_M_bodyWords_8 : decode c_M_bodyWords 8 = .ok (.ifCond .eq 11, 3) := by decide +kernel
theorem d_M_bodyWords_11 : decode c_M_bodyWords 11 = .ok (.iload_n 1, 1) := by decide +kernel
theorem d_M_bodyWords_12 : decode c_M_bodyWords 12 = .ok (.iconst 3, 1) := by decide +kernel
theorem d_M_bodyWords_13 : decode c_M_bodyWords 13 = .ok (.iadd, 1) := by decide +kernel
theorem d_M_bodyWords_14 : decode c_M_bodyWords 14 = .ok (.iconst 2, 1) := by decide +kernel
theorem d_M_bodyWords_15 : decode c_M_bodyWords 15 = .ok (.ishr, 1) := by decide +kernel
theorem d_M_bodyWords_16 : decode c_M_bodyWords 16 = .ok (.goto 4, 3) := by decide +kernel
theorem d_M_bodyWords_19 : decode c_M_bodyWords 19 = .ok (.iload_n 1, 1) := by decide +kernel
theorem d_M_bodyWords_20 : decode c_M_bodyWords 20 = .ok (.ireturn, 1) := by decide +kernel
theorem d_M_place_0 : decode c_M_place 0 = .ok (.aload_n 0, 1) := by decide +kernel
theorem d_M_place_1 : decode c_M_place 1 = .ok (.getfield 13, 3) := by decide +kernel
theorem d_M_place_4 : decode c_M_place 4 = .ok (.iload_n 1, 1) := by decide +kernel
theorem d_M_place_5 : decode c_M_place 5 = .ok (.invokestatic 37, 3) := by decide +kernel
theorem d_M_place_8 : decode c_M_place 8 = .ok (.iaload, 1) := by decide +kernel
theorem d_M_place_9 : decode c_M_place 9 = .ok (.ireturn, 1) := by decide +kernel
theorem d_M_holdsSlots_0 : decode c_M_holdsSlots 0 = .ok (.iload_n 1, 1) := by decide +kernel
theorem d_M_holdsSlots_1 : decode c_M_holdsSlots 1 = .ok (.invokestatic 43, 3) := by decide +kernel
theorem d_M_holdsSlots_4 : decode c_M_holdsSlots 4 = .ok (.ifCond .eq 25, 3) := by decide +kernel
theorem d_M_holdsSlots_7 : decode c_M_holdsSlots 7 = .ok (.aload_n 0, 1) := by decide +kernel
theorem d_M_holdsSlots_8 : decode c_M_holdsSlots 8 = .ok (.getfield 7, 3) := by decide +kernel
theorem d_M_holdsSlots_11 : decode c_M_holdsSlots 11 = .ok (.aload_n 0, 1) := by decide +kernel
theorem d_M_holdsSlots_12 : decode c_M_holdsSlots 12 = .ok (.iload_n 1, 1) := by decide +kernel
theorem d_M_holdsSlots_13 : decode c_M_holdsSlots 13 = .ok (.invokevirtual 46, 3) := by decide +kernel
theorem d_M_holdsSlots_16 : decode c_M_holdsSlots 16 = .ok (.iconst 3, 1) := by decide +kernel
theorem d_M_holdsSlots_17 : decode c_M_holdsSlots 17 = .ok (.iadd, 1) := by decide +kernel
theorem d_M_holdsSlots_18 : decode c_M_holdsSlots 18 = .ok (.iaload, 1) := by decide +kernel
theorem d_M_holdsSlots_19 : decode c_M_holdsSlots 19 = .ok (.invokestatic 33, 3) := by decide +kernel
theorem d_M_holdsSlots_22 : decode c_M_holdsSlots 22 = .ok (.ifCond .ne 7, 3) := by decide +kernel
theorem d_M_holdsSlots_25 : decode c_M_holdsSlots 25 = .ok (.iconst 1, 1) := by decide +kernel
theorem d_M_holdsSlots_26 : decode c_M_holdsSlots 26 = .ok (.goto 4, 3) := by decide +kernel
theorem d_M_holdsSlots_29 : decode c_M_holdsSlots 29 = .ok (.iconst 0, 1) := by decide +kernel
theorem d_M_holdsSlots_30 : decode c_M_holdsSlots 30 = .ok (.ireturn, 1) := by decide +kernel
theorem d_M_holdsBytes_0 : decode c_M_holdsBytes 0 = .ok (.iload_n 1, 1) := by decide +kernel
theorem d_M_holdsBytes_1 : decode c_M_holdsBytes 1 = .ok (.invokestatic 43, 3) := by decide +kernel
theorem d_M_holdsBytes_4 : decode c_M_holdsBytes 4 = .ok (.ifCond .eq 25, 3) := by decide +kernel
theorem d_M_holdsBytes_7 : decode c_M_holdsBytes 7 = .ok (.aload_n 0, 1) := by decide +kernel
theorem d_M_holdsBytes_8 : decode c_M_holdsBytes 8 = .ok (.getfield 7, 3) := by decide +kernel
theorem d_M_holdsBytes_11 : decode c_M_holdsBytes 11 = .ok (.aload_n 0, 1) := by decide +kernel
theorem d_M_holdsBytes_12 : decode c_M_holdsBytes 12 = .ok (.iload_n 1, 1) := by decide +kernel
theorem d_M_holdsBytes_13 : decode c_M_holdsBytes 13 = .ok (.invokevirtual 46, 3) := by decide +kernel
theorem d_M_holdsBytes_16 : decode c_M_holdsBytes 16 = .ok (.iconst 3, 1) := by decide +kernel
theorem d_M_holdsBytes_17 : decode c_M_holdsBytes 17 = .ok (.iadd, 1) := by decide +kernel
theorem d_M_holdsBytes_18 : decode c_M_holdsBytes 18 = .ok (.iaload, 1) := by decide +kernel
theorem d_M_holdsBytes_19 : decode c_M_holdsBytes 19 = .ok (.invokestatic 33, 3) := by decide +kernel
theorem d_M_holdsBytes_22 : decode c_M_holdsBytes 22 = .ok (.ifCond .eq 7, 3) := by decide +kernel
theorem d_M_holdsBytes_25 : decode c_M_holdsBytes 25 = .ok (.iconst 1, 1) := by decide +kernel
theorem d_M_holdsBytes_26 : decode c_M_holdsBytes 26 = .ok (.goto 4, 3) := by decide +kernel
theorem d_M_holdsBytes_29 : decode c_M_holdsBytes 29 = .ok (.iconst 0, 1) := by decide +kernel
theorem d_M_holdsBytes_30 : decode c_M_holdsBytes 30 = .ok (.ireturn, 1) := by decide +kernel
theorem d_M_count_0 : decode c_M_count 0 = .ok (.aload_n 0, 1) := by decide +kernel
theorem d_M_count_1 : decode c_M_count 1 = .ok (.getfield 7, 3) := by decide +kernel
theorem d_M_count_4 : decode c_M_count 4 = .ok (.aload_n 0, 1) := by decide +kernel
theorem d_M_count_5 : decode c_M_count 5 = .ok (.iload_n 1, 1) := by decide +kernel
theorem d_M_count_6 : decode c_M_count 6 = .ok (.invokevirtual 46, 3) := by decide +kernel
theorem d_M_count_9 : decode c_M_count 9 = .ok (.iconst 3, 1) := by decide +kernel
theorem d_M_count_10 : decode c_M_count 10 = .ok (.iadd, 1) := by decide +kernel
theorem d_M_count_11 : decode c_M_count 11 = .ok (.iaload, 1) := by decide +kernel
theorem d_M_count_12 : decode c_M_count 12 = .ok (.iconst 1, 1) := by decide +kernel
theorem d_M_count_13 : decode c_M_count 13 = .ok (.ishr, 1) := by decide +kernel
theorem d_M_count_14 : decode c_M_count 14 = .ok (.ireturn, 1) := by decide +kernel
theorem d_M_identity_0 : decode c_M_identity 0 = .ok (.aload_n 0, 1) := by decide +kernel
theorem d_M_identity_1 : decode c_M_identity 1 = .ok (.getfield 7, 3) := by decide +kernel
theorem d_M_identity_4 : decode c_M_identity 4 = .ok (.aload_n 0, 1) := by decide +kernel
theorem d_M_identity_5 : decode c_M_identity 5 = .ok (.iload_n 1, 1) := by decide +kernel
theorem d_M_identity_6 : decode c_M_identity 6 = .ok (.invokevirtual 46, 3) := by decide +kernel
theorem d_M_identity_9 : decode c_M_identity 9 = .ok (.iconst 1, 1) := by decide +kernel
theorem d_M_identity_10 : decode c_M_identity 10 = .ok (.iadd, 1) := by decide +kernel
theorem d_M_identity_11 : decode c_M_identity 11 = .ok (.iaload, 1) := by decide +kernel
theorem d_M_identity_12 : decode c_M_identity 12 = .ok (.ireturn, 1) := by decide +kernel
theorem d_M_itsClass_0 : decode c_M_itsClass 0 = .ok (.aload_n 0, 1) := by decide +kernel
theorem d_M_itsClass_1 : decode c_M_itsClass 1 = .ok (.getfield 7, 3) := by decide +kernel
theorem d_M_itsClass_4 : decode c_M_itsClass 4 = .ok (.aload_n 0, 1) := by decide +kernel
theorem d_M_itsClass_5 : decode c_M_itsClass 5 = .ok (.iload_n 1, 1) := by decide +kernel
theorem d_M_itsClass_6 : decode c_M_itsClass 6 = .ok (.invokevirtual 46, 3) := by decide +kernel
theorem d_M_itsClass_9 : decode c_M_itsClass 9 = .ok (.iconst 2, 1) := by decide +kernel
theorem d_M_itsClass_10 : decode c_M_itsClass 10 = .ok (.iadd, 1) := by decide +kernel
theorem d_M_itsClass_11 : decode c_M_itsClass 11 = .ok (.iaload, 1) := by decide +kernel
theorem d_M_itsClass_12 : decode c_M_itsClass 12 = .ok (.ireturn, 1) := by decide +kernel
theorem d_M_setItsClass_0 : decode c_M_setItsClass 0 = .ok (.aload_n 0, 1) := by decide +kernel
theorem d_M_setItsClass_1 : decode c_M_setItsClass 1 = .ok (.aload_n 0, 1) := by decide +kernel
theorem d_M_setItsClass_2 : decode c_M_setItsClass 2 = .ok (.iload_n 1, 1) := by decide +kernel
theorem d_M_setItsClass_3 : decode c_M_setItsClass 3 = .ok (.invokevirtual 46, 3) := by decide +kernel
theorem d_M_setItsClass_6 : decode c_M_setItsClass 6 = .ok (.iconst 2, 1) := by decide +kernel
theorem d_M_setItsClass_7 : decode c_M_setItsClass 7 = .ok (.iadd, 1) := by decide +kernel
theorem d_M_setItsClass_8 : decode c_M_setItsClass 8 = .ok (.iload_n 2, 1) := by decide +kernel
theorem d_M_setItsClass_9 : decode c_M_setItsClass 9 = .ok (.invokevirtual 49, 3) := by decide +kernel
theorem d_M_setItsClass_12 : decode c_M_setItsClass 12 = .ok (.return_, 1) := by decide +kernel
theorem d_M_slot_0 : decode c_M_slot 0 = .ok (.aload_n 0, 1) := by decide +kernel
theorem d_M_slot_1 : decode c_M_slot 1 = .ok (.getfield 7, 3) := by decide +kernel
theorem d_M_slot_4 : decode c_M_slot 4 = .ok (.aload_n 0, 1) := by decide +kernel
theorem d_M_slot_5 : decode c_M_slot 5 = .ok (.iload_n 1, 1) := by decide +kernel
theorem d_M_slot_6 : decode c_M_slot 6 = .ok (.invokevirtual 46, 3) := by decide +kernel
theorem d_M_slot_9 : decode c_M_slot 9 = .ok (.iconst 4, 1) := by decide +kernel
theorem d_M_slot_10 : decode c_M_slot 10 = .ok (.iadd, 1) := by decide +kernel
theorem d_M_slot_11 : decode c_M_slot 11 = .ok (.iload_n 2, 1) := by decide +kernel
theorem d_M_slot_12 : decode c_M_slot 12 = .ok (.iadd, 1) := by decide +kernel
theorem d_M_slot_13 : decode c_M_slot 13 = .ok (.iaload, 1) := by decide +kernel
theorem d_M_slot_14 : decode c_M_slot 14 = .ok (.ireturn, 1) := by decide +kernel
theorem d_M_setSlot_0 : decode c_M_setSlot 0 = .ok (.aload_n 0, 1) := by decide +kernel
theorem d_M_setSlot_1 : decode c_M_setSlot 1 = .ok (.aload_n 0, 1) := by decide +kernel
theorem d_M_setSlot_2 : decode c_M_setSlot 2 = .ok (.iload_n 1, 1) := by decide +kernel
theorem d_M_setSlot_3 : decode c_M_setSlot 3 = .ok (.invokevirtual 46, 3) := by decide +kernel
theorem d_M_setSlot_6 : decode c_M_setSlot 6 = .ok (.iconst 4, 1) := by decide +kernel
theorem d_M_setSlot_7 : decode c_M_setSlot 7 = .ok (.iadd, 1) := by decide +kernel
theorem d_M_setSlot_8 : decode c_M_setSlot 8 = .ok (.iload_n 2, 1) := by decide +kernel
theorem d_M_setSlot_9 : decode c_M_setSlot 9 = .ok (.iadd, 1) := by decide +kernel
theorem d_M_setSlot_10 : decode c_M_setSlot 10 = .ok (.iload_n 3, 1) := by decide +kernel
theorem d_M_setSlot_11 : decode c_M_setSlot 11 = .ok (.invokevirtual 49, 3) := by decide +kernel
theorem d_M_setSlot_14 : decode c_M_setSlot 14 = .ok (.return_, 1) := by decide +kernel
theorem d_M_oneByte_0 : decode c_M_oneByte 0 = .ok (.aload_n 0, 1) := by decide +kernel
theorem d_M_oneByte_1 : decode c_M_oneByte 1 = .ok (.getfield 7, 3) := by decide +kernel
theorem d_M_oneByte_4 : decode c_M_oneByte 4 = .ok (.aload_n 0, 1) := by decide +kernel
theorem d_M_oneByte_5 : decode c_M_oneByte 5 = .ok (.iload_n 1, 1) := by decide +kernel
theorem d_M_oneByte_6 : decode c_M_oneByte 6 = .ok (.invokevirtual 46, 3) := by decide +kernel
theorem d_M_oneByte_9 : decode c_M_oneByte 9 = .ok (.iconst 4, 1) := by decide +kernel
theorem d_M_oneByte_10 : decode c_M_oneByte 10 = .ok (.iadd, 1) := by decide +kernel
theorem d_M_oneByte_11 : decode c_M_oneByte 11 = .ok (.iload_n 2, 1) := by decide +kernel
theorem d_M_oneByte_12 : decode c_M_oneByte 12 = .ok (.iconst 2, 1) := by decide +kernel
theorem d_M_oneByte_13 : decode c_M_oneByte 13 = .ok (.ishr, 1) := by decide +kernel
theorem d_M_oneByte_14 : decode c_M_oneByte 14 = .ok (.iadd, 1) := by decide +kernel
theorem d_M_oneByte_15 : decode c_M_oneByte 15 = .ok (.iaload, 1) := by decide +kernel
theorem d_M_oneByte_16 : decode c_M_oneByte 16 = .ok (.istore_n 3, 1) := by decide +kernel
theorem d_M_oneByte_17 : decode c_M_oneByte 17 = .ok (.iload_n 3, 1) := by decide +kernel
theorem d_M_oneByte_18 : decode c_M_oneByte 18 = .ok (.iload_n 2, 1) := by decide +kernel
theorem d_M_oneByte_19 : decode c_M_oneByte 19 = .ok (.invokestatic 53, 3) := by decide +kernel
theorem d_M_oneByte_22 : decode c_M_oneByte 22 = .ok (.iushr, 1) := by decide +kernel
theorem d_M_oneByte_23 : decode c_M_oneByte 23 = .ok (.sipush 255, 3) := by decide +kernel
theorem d_M_oneByte_26 : decode c_M_oneByte 26 = .ok (.iand, 1) := by decide +kernel
theorem d_M_oneByte_27 : decode c_M_oneByte 27 = .ok (.ireturn, 1) := by decide +kernel
theorem d_M_setOneByte_0 : decode c_M_setOneByte 0 = .ok (.aload_n 0, 1) := by decide +kernel
theorem d_M_setOneByte_1 : decode c_M_setOneByte 1 = .ok (.iload_n 1, 1) := by decide +kernel
theorem d_M_setOneByte_2 : decode c_M_setOneByte 2 = .ok (.invokevirtual 46, 3) := by decide +kernel
theorem d_M_setOneByte_5 : decode c_M_setOneByte 5 = .ok (.iconst 4, 1) := by decide +kernel
theorem d_M_setOneByte_6 : decode c_M_setOneByte 6 = .ok (.iadd, 1) := by decide +kernel
theorem d_M_setOneByte_7 : decode c_M_setOneByte 7 = .ok (.iload_n 2, 1) := by decide +kernel
theorem d_M_setOneByte_8 : decode c_M_setOneByte 8 = .ok (.iconst 2, 1) := by decide +kernel
theorem d_M_setOneByte_9 : decode c_M_setOneByte 9 = .ok (.ishr, 1) := by decide +kernel
theorem d_M_setOneByte_10 : decode c_M_setOneByte 10 = .ok (.iadd, 1) := by decide +kernel
theorem d_M_setOneByte_11 : decode c_M_setOneByte 11 = .ok (.istore 4, 2) := by decide +kernel
theorem d_M_setOneByte_13 : decode c_M_setOneByte 13 = .ok (.aload_n 0, 1) := by decide +kernel
theorem d_M_setOneByte_14 : decode c_M_setOneByte 14 = .ok (.getfield 7, 3) := by decide +kernel
theorem d_M_setOneByte_17 : decode c_M_setOneByte 17 = .ok (.iload 4, 2) := by decide +kernel
theorem d_M_setOneByte_19 : decode c_M_setOneByte 19 = .ok (.iaload, 1) := by decide +kernel
theorem d_M_setOneByte_20 : decode c_M_setOneByte 20 = .ok (.sipush 255, 3) := by decide +kernel
theorem d_M_setOneByte_23 : decode c_M_setOneByte 23 = .ok (.iload_n 2, 1) := by decide +kernel
theorem d_M_setOneByte_24 : decode c_M_setOneByte 24 = .ok (.invokestatic 53, 3) := by decide +kernel
theorem d_M_setOneByte_27 : decode c_M_setOneByte 27 = .ok (.ishl, 1) := by decide +kernel
theorem d_M_setOneByte_28 : decode c_M_setOneByte 28 = .ok (.iconst (-1), 1) := by decide +kernel
theorem d_M_setOneByte_29 : decode c_M_setOneByte 29 = .ok (.ixor, 1) := by decide +kernel
theorem d_M_setOneByte_30 : decode c_M_setOneByte 30 = .ok (.iand, 1) := by decide +kernel
theorem d_M_setOneByte_31 : decode c_M_setOneByte 31 = .ok (.istore 5, 2) := by decide +kernel
theorem d_M_setOneByte_33 : decode c_M_setOneByte 33 = .ok (.aload_n 0, 1) := by decide +kernel
theorem d_M_setOneByte_34 : decode c_M_setOneByte 34 = .ok (.getfield 7, 3) := by decide +kernel
theorem d_M_setOneByte_37 : decode c_M_setOneByte 37 = .ok (.iload 4, 2) := by decide +kernel
theorem d_M_setOneByte_39 : decode c_M_setOneByte 39 = .ok (.iload 5, 2) := by decide +kernel
theorem d_M_setOneByte_41 : decode c_M_setOneByte 41 = .ok (.iload_n 3, 1) := by decide +kernel
theorem d_M_setOneByte_42 : decode c_M_setOneByte 42 = .ok (.iload_n 2, 1) := by decide +kernel
theorem d_M_setOneByte_43 : decode c_M_setOneByte 43 = .ok (.invokestatic 53, 3) := by decide +kernel
theorem d_M_setOneByte_46 : decode c_M_setOneByte 46 = .ok (.ishl, 1) := by decide +kernel
theorem d_M_setOneByte_47 : decode c_M_setOneByte 47 = .ok (.ior, 1) := by decide +kernel
theorem d_M_setOneByte_48 : decode c_M_setOneByte 48 = .ok (.iastore, 1) := by decide +kernel
theorem d_M_setOneByte_49 : decode c_M_setOneByte 49 = .ok (.return_, 1) := by decide +kernel
theorem d_M_shiftOf_0 : decode c_M_shiftOf 0 = .ok (.bipush 8, 2) := by decide +kernel
theorem d_M_shiftOf_2 : decode c_M_shiftOf 2 = .ok (.iload_n 0, 1) := by decide +kernel
theorem d_M_shiftOf_3 : decode c_M_shiftOf 3 = .ok (.iconst 3, 1) := by decide +kernel
theorem d_M_shiftOf_4 : decode c_M_shiftOf 4 = .ok (.iand, 1) := by decide +kernel
theorem d_M_shiftOf_5 : decode c_M_shiftOf 5 = .ok (.imul, 1) := by decide +kernel
theorem d_M_shiftOf_6 : decode c_M_shiftOf 6 = .ok (.ireturn, 1) := by decide +kernel
theorem d_M_overwrite_0 : decode c_M_overwrite 0 = .ok (.aload_n 0, 1) := by decide +kernel
theorem d_M_overwrite_1 : decode c_M_overwrite 1 = .ok (.aload_n 0, 1) := by decide +kernel
theorem d_M_overwrite_2 : decode c_M_overwrite 2 = .ok (.getfield 7, 3) := by decide +kernel
theorem d_M_overwrite_5 : decode c_M_overwrite 5 = .ok (.iload_n 1, 1) := by decide +kernel
theorem d_M_overwrite_6 : decode c_M_overwrite 6 = .ok (.iaload, 1) := by decide +kernel
theorem d_M_overwrite_7 : decode c_M_overwrite 7 = .ok (.invokevirtual 56, 3) := by decide +kernel
theorem d_M_overwrite_10 : decode c_M_overwrite 10 = .ok (.aload_n 0, 1) := by decide +kernel
theorem d_M_overwrite_11 : decode c_M_overwrite 11 = .ok (.getfield 7, 3) := by decide +kernel
theorem d_M_overwrite_14 : decode c_M_overwrite 14 = .ok (.iload_n 1, 1) := by decide +kernel
theorem d_M_overwrite_15 : decode c_M_overwrite 15 = .ok (.iload_n 2, 1) := by decide +kernel
theorem d_M_overwrite_16 : decode c_M_overwrite 16 = .ok (.iastore, 1) := by decide +kernel
theorem d_M_overwrite_17 : decode c_M_overwrite 17 = .ok (.return_, 1) := by decide +kernel
theorem d_M_letGo_0 : decode c_M_letGo 0 = .ok (.iload_n 1, 1) := by decide +kernel
theorem d_M_letGo_1 : decode c_M_letGo 1 = .ok (.invokestatic 43, 3) := by decide +kernel
theorem d_M_letGo_4 : decode c_M_letGo 4 = .ok (.ifCond .eq 8, 3) := by decide +kernel
theorem d_M_letGo_7 : decode c_M_letGo 7 = .ok (.aload_n 0, 1) := by decide +kernel
theorem d_M_letGo_8 : decode c_M_letGo 8 = .ok (.iconst 0, 1) := by decide +kernel
theorem d_M_letGo_9 : decode c_M_letGo 9 = .ok (.putfield 29, 3) := by decide +kernel
theorem d_M_letGo_12 : decode c_M_letGo 12 = .ok (.return_, 1) := by decide +kernel
theorem d_M_freeWords_0 : decode c_M_freeWords 0 = .ok (.aload_n 0, 1) := by decide +kernel
theorem d_M_freeWords_1 : decode c_M_freeWords 1 = .ok (.getfield 7, 3) := by decide +kernel
theorem d_M_freeWords_4 : decode c_M_freeWords 4 = .ok (.arraylength, 1) := by decide +kernel
theorem d_M_freeWords_5 : decode c_M_freeWords 5 = .ok (.aload_n 0, 1) := by decide +kernel
theorem d_M_freeWords_6 : decode c_M_freeWords 6 = .ok (.getfield 60, 3) := by decide +kernel
theorem d_M_freeWords_9 : decode c_M_freeWords 9 = .ok (.isub, 1) := by decide +kernel
theorem d_M_freeWords_10 : decode c_M_freeWords 10 = .ok (.ireturn, 1) := by decide +kernel
theorem d_M_freeEntries_0 : decode c_M_freeEntries 0 = .ok (.aload_n 0, 1) := by decide +kernel
theorem d_M_freeEntries_1 : decode c_M_freeEntries 1 = .ok (.getfield 25, 3) := by decide +kernel
theorem d_M_freeEntries_4 : decode c_M_freeEntries 4 = .ok (.ireturn, 1) := by decide +kernel
theorem d_M_build_0 : decode c_M_build 0 = .ok (.iconst 4, 1) := by decide +kernel
theorem d_M_build_1 : decode c_M_build 1 = .ok (.iload_n 2, 1) := by decide +kernel
theorem d_M_build_2 : decode c_M_build 2 = .ok (.invokestatic 63, 3) := by decide +kernel
theorem d_M_build_5 : decode c_M_build 5 = .ok (.iadd, 1) := by decide +kernel
theorem d_M_build_6 : decode c_M_build 6 = .ok (.istore 4, 2) := by decide +kernel
theorem d_M_build_8 : decode c_M_build 8 = .ok (.aload_n 0, 1) := by decide +kernel
theorem d_M_build_9 : decode c_M_build 9 = .ok (.iload 4, 2) := by decide +kernel
theorem d_M_build_11 : decode c_M_build 11 = .ok (.invokevirtual 66, 3) := by decide +kernel
theorem d_M_build_14 : decode c_M_build 14 = .ok (.ifCond .ne 8, 3) := by decide +kernel
theorem d_M_build_17 : decode c_M_build 17 = .ok (.aload_n 0, 1) := by decide +kernel
theorem d_M_build_18 : decode c_M_build 18 = .ok (.aload_n 3, 1) := by decide +kernel
theorem d_M_build_19 : decode c_M_build 19 = .ok (.invokevirtual 69, 3) := by decide +kernel
theorem d_M_build_22 : decode c_M_build 22 = .ok (.aload_n 0, 1) := by decide +kernel
theorem d_M_build_23 : decode c_M_build 23 = .ok (.iload 4, 2) := by decide +kernel
theorem d_M_build_25 : decode c_M_build 25 = .ok (.invokevirtual 66, 3) := by decide +kernel
theorem d_M_build_28 : decode c_M_build 28 = .ok (.ifCond .ne 5, 3) := by decide +kernel
theorem d_M_build_31 : decode c_M_build 31 = .ok (.iconst 0, 1) := by decide +kernel
theorem d_M_build_32 : decode c_M_build 32 = .ok (.ireturn, 1) := by decide +kernel
theorem d_M_build_33 : decode c_M_build 33 = .ok (.aload_n 0, 1) := by decide +kernel
theorem d_M_build_34 : decode c_M_build 34 = .ok (.dup, 1) := by decide +kernel
theorem d_M_build_35 : decode c_M_build 35 = .ok (.getfield 25, 3) := by decide +kernel
theorem d_M_build_38 : decode c_M_build 38 = .ok (.iconst 1, 1) := by decide +kernel
theorem d_M_build_39 : decode c_M_build 39 = .ok (.isub, 1) := by decide +kernel
theorem d_M_build_40 : decode c_M_build 40 = .ok (.putfield 25, 3) := by decide +kernel
theorem d_M_build_43 : decode c_M_build 43 = .ok (.aload_n 0, 1) := by decide +kernel
theorem d_M_build_44 : decode c_M_build 44 = .ok (.getfield 16, 3) := by decide +kernel
theorem d_M_build_47 : decode c_M_build 47 = .ok (.aload_n 0, 1) := by decide +kernel
theorem d_M_build_48 : decode c_M_build 48 = .ok (.getfield 25, 3) := by decide +kernel
theorem d_M_build_51 : decode c_M_build 51 = .ok (.iaload, 1) := by decide +kernel
theorem d_M_build_52 : decode c_M_build 52 = .ok (.istore 5, 2) := by decide +kernel
theorem d_M_build_54 : decode c_M_build 54 = .ok (.aload_n 0, 1) := by decide +kernel
theorem d_M_build_55 : decode c_M_build 55 = .ok (.getfield 60, 3) := by decide +kernel
theorem d_M_build_58 : decode c_M_build 58 = .ok (.istore 6, 2) := by decide +kernel
theorem d_M_build_60 : decode c_M_build 60 = .ok (.aload_n 0, 1) := by decide +kernel
theorem d_M_build_61 : decode c_M_build 61 = .ok (.dup, 1) := by decide +kernel
theorem d_M_build_62 : decode c_M_build 62 = .ok (.getfield 60, 3) := by decide +kernel
theorem d_M_build_65 : decode c_M_build 65 = .ok (.iload 4, 2) := by decide +kernel
theorem d_M_build_67 : decode c_M_build 67 = .ok (.iadd, 1) := by decide +kernel
theorem d_M_build_68 : decode c_M_build 68 = .ok (.putfield 60, 3) := by decide +kernel
theorem d_M_build_71 : decode c_M_build 71 = .ok (.aload_n 0, 1) := by decide +kernel
theorem d_M_build_72 : decode c_M_build 72 = .ok (.dup, 1) := by decide +kernel
theorem d_M_build_73 : decode c_M_build 73 = .ok (.getfield 73, 3) := by decide +kernel
theorem d_M_build_76 : decode c_M_build 76 = .ok (.iconst 1, 1) := by decide +kernel
theorem d_M_build_77 : decode c_M_build 77 = .ok (.iadd, 1) := by decide +kernel
theorem d_M_build_78 : decode c_M_build 78 = .ok (.putfield 73, 3) := by decide +kernel
theorem d_M_build_81 : decode c_M_build 81 = .ok (.aload_n 0, 1) := by decide +kernel
theorem d_M_build_82 : decode c_M_build 82 = .ok (.getfield 13, 3) := by decide +kernel
theorem d_M_build_85 : decode c_M_build 85 = .ok (.iload 5, 2) := by decide +kernel
theorem d_M_build_87 : decode c_M_build 87 = .ok (.iload 6, 2) := by decide +kernel
theorem d_M_build_89 : decode c_M_build 89 = .ok (.iastore, 1) := by decide +kernel
theorem d_M_build_90 : decode c_M_build 90 = .ok (.aload_n 0, 1) := by decide +kernel
theorem d_M_build_91 : decode c_M_build 91 = .ok (.getfield 7, 3) := by decide +kernel
theorem d_M_build_94 : decode c_M_build 94 = .ok (.iload 6, 2) := by decide +kernel
theorem d_M_build_96 : decode c_M_build 96 = .ok (.iconst 0, 1) := by decide +kernel
theorem d_M_build_97 : decode c_M_build 97 = .ok (.iadd, 1) := by decide +kernel
theorem d_M_build_98 : decode c_M_build 98 = .ok (.iload 5, 2) := by decide +kernel
theorem d_M_build_100 : decode c_M_build 100 = .ok (.iastore, 1) := by decide +kernel
theorem d_M_build_101 : decode c_M_build 101 = .ok (.aload_n 0, 1) := by decide +kernel
theorem d_M_build_102 : decode c_M_build 102 = .ok (.getfield 7, 3) := by decide +kernel
theorem d_M_build_105 : decode c_M_build 105 = .ok (.iload 6, 2) := by decide +kernel
theorem d_M_build_107 : decode c_M_build 107 = .ok (.iconst 1, 1) := by decide +kernel
theorem d_M_build_108 : decode c_M_build 108 = .ok (.iadd, 1) := by decide +kernel
theorem d_M_build_109 : decode c_M_build 109 = .ok (.aload_n 0, 1) := by decide +kernel
theorem d_M_build_110 : decode c_M_build 110 = .ok (.getfield 73, 3) := by decide +kernel
theorem d_M_build_113 : decode c_M_build 113 = .ok (.iastore, 1) := by decide +kernel
theorem d_M_build_114 : decode c_M_build 114 = .ok (.aload_n 0, 1) := by decide +kernel
theorem d_M_build_115 : decode c_M_build 115 = .ok (.getfield 7, 3) := by decide +kernel
theorem d_M_build_118 : decode c_M_build 118 = .ok (.iload 6, 2) := by decide +kernel
theorem d_M_build_120 : decode c_M_build 120 = .ok (.iconst 2, 1) := by decide +kernel
theorem d_M_build_121 : decode c_M_build 121 = .ok (.iadd, 1) := by decide +kernel
theorem d_M_build_122 : decode c_M_build 122 = .ok (.iload_n 1, 1) := by decide +kernel
theorem d_M_build_123 : decode c_M_build 123 = .ok (.iastore, 1) := by decide +kernel
theorem d_M_build_124 : decode c_M_build 124 = .ok (.aload_n 0, 1) := by decide +kernel
theorem d_M_build_125 : decode c_M_build 125 = .ok (.getfield 7, 3) := by decide +kernel
theorem d_M_build_128 : decode c_M_build 128 = .ok (.iload 6, 2) := by decide +kernel
theorem d_M_build_130 : decode c_M_build 130 = .ok (.iconst 3, 1) := by decide +kernel
theorem d_M_build_131 : decode c_M_build 131 = .ok (.iadd, 1) := by decide +kernel
theorem d_M_build_132 : decode c_M_build 132 = .ok (.iload_n 2, 1) := by decide +kernel
theorem d_M_build_133 : decode c_M_build 133 = .ok (.iastore, 1) := by decide +kernel
theorem d_M_build_134 : decode c_M_build 134 = .ok (.iload 6, 2) := by decide +kernel
theorem d_M_build_136 : decode c_M_build 136 = .ok (.iconst 4, 1) := by decide +kernel
theorem d_M_build_137 : decode c_M_build 137 = .ok (.iadd, 1) := by decide +kernel
theorem d_M_build_138 : decode c_M_build 138 = .ok (.istore 7, 2) := by decide +kernel
theorem d_M_build_140 : decode c_M_build 140 = .ok (.iload 7, 2) := by decide +kernel
theorem d_M_build_142 : decode c_M_build 142 = .ok (.aload_n 0, 1) := by decide +kernel
theorem d_M_build_143 : decode c_M_build 143 = .ok (.getfield 60, 3) := by decide +kernel
theorem d_M_build_146 : decode c_M_build 146 = .ok (.if_icmp .ge 17, 3) := by decide +kernel
theorem d_M_build_149 : decode c_M_build 149 = .ok (.aload_n 0, 1) := by decide +kernel
theorem d_M_build_150 : decode c_M_build 150 = .ok (.getfield 7, 3) := by decide +kernel
theorem d_M_build_153 : decode c_M_build 153 = .ok (.iload 7, 2) := by decide +kernel
theorem d_M_build_155 : decode c_M_build 155 = .ok (.iconst 0, 1) := by decide +kernel
theorem d_M_build_156 : decode c_M_build 156 = .ok (.iastore, 1) := by decide +kernel
theorem d_M_build_157 : decode c_M_build 157 = .ok (.iinc 7 1, 3) := by decide +kernel
theorem d_M_build_160 : decode c_M_build 160 = .ok (.goto (-20), 3) := by decide +kernel
theorem d_M_build_163 : decode c_M_build 163 = .ok (.iload 5, 2) := by decide +kernel
theorem d_M_build_165 : decode c_M_build 165 = .ok (.invokestatic 76, 3) := by decide +kernel
theorem d_M_build_168 : decode c_M_build 168 = .ok (.ireturn, 1) := by decide +kernel
theorem d_M_buildLike_0 : decode c_M_buildLike 0 = .ok (.aload_n 0, 1) := by decide +kernel
theorem d_M_buildLike_1 : decode c_M_buildLike 1 = .ok (.getfield 7, 3) := by decide +kernel
theorem d_M_buildLike_4 : decode c_M_buildLike 4 = .ok (.aload_n 0, 1) := by decide +kernel
theorem d_M_buildLike_5 : decode c_M_buildLike 5 = .ok (.iload_n 1, 1) := by decide +kernel
theorem d_M_buildLike_6 : decode c_M_buildLike 6 = .ok (.invokevirtual 46, 3) := by decide +kernel
theorem d_M_buildLike_9 : decode c_M_buildLike 9 = .ok (.iconst 3, 1) := by decide +kernel
theorem d_M_buildLike_10 : decode c_M_buildLike 10 = .ok (.iadd, 1) := by decide +kernel
theorem d_M_buildLike_11 : decode c_M_buildLike 11 = .ok (.iaload, 1) := by decide +kernel
theorem d_M_buildLike_12 : decode c_M_buildLike 12 = .ok (.istore_n 3, 1) := by decide +kernel
theorem d_M_buildLike_13 : decode c_M_buildLike 13 = .ok (.aload_n 0, 1) := by decide +kernel
theorem d_M_buildLike_14 : decode c_M_buildLike 14 = .ok (.aload_n 0, 1) := by decide +kernel
theorem d_M_buildLike_15 : decode c_M_buildLike 15 = .ok (.iload_n 1, 1) := by decide +kernel
theorem d_M_buildLike_16 : decode c_M_buildLike 16 = .ok (.invokevirtual 79, 3) := by decide +kernel
theorem d_M_buildLike_19 : decode c_M_buildLike 19 = .ok (.iload_n 3, 1) := by decide +kernel
theorem d_M_buildLike_20 : decode c_M_buildLike 20 = .ok (.aload_n 2, 1) := by decide +kernel
theorem d_M_buildLike_21 : decode c_M_buildLike 21 = .ok (.invokevirtual 82, 3) := by decide +kernel
theorem d_M_buildLike_24 : decode c_M_buildLike 24 = .ok (.istore 4, 2) := by decide +kernel
theorem d_M_buildLike_26 : decode c_M_buildLike 26 = .ok (.iload 4, 2) := by decide +kernel
theorem d_M_buildLike_28 : decode c_M_buildLike 28 = .ok (.ifCond .eq 33, 3) := by decide +kernel
theorem d_M_buildLike_31 : decode c_M_buildLike 31 = .ok (.aload_n 0, 1) := by decide +kernel
theorem d_M_buildLike_32 : decode c_M_buildLike 32 = .ok (.getfield 7, 3) := by decide +kernel
theorem d_M_buildLike_35 : decode c_M_buildLike 35 = .ok (.aload_n 0, 1) := by decide +kernel
theorem d_M_buildLike_36 : decode c_M_buildLike 36 = .ok (.iload_n 1, 1) := by decide +kernel
theorem d_M_buildLike_37 : decode c_M_buildLike 37 = .ok (.invokevirtual 46, 3) := by decide +kernel
theorem d_M_buildLike_40 : decode c_M_buildLike 40 = .ok (.iconst 4, 1) := by decide +kernel
theorem d_M_buildLike_41 : decode c_M_buildLike 41 = .ok (.iadd, 1) := by decide +kernel
theorem d_M_buildLike_42 : decode c_M_buildLike 42 = .ok (.aload_n 0, 1) := by decide +kernel
theorem d_M_buildLike_43 : decode c_M_buildLike 43 = .ok (.getfield 7, 3) := by decide +kernel
theorem d_M_buildLike_46 : decode c_M_buildLike 46 = .ok (.aload_n 0, 1) := by decide +kernel
theorem d_M_buildLike_47 : decode c_M_buildLike 47 = .ok (.iload 4, 2) := by decide +kernel
theorem d_M_buildLike_49 : decode c_M_buildLike 49 = .ok (.invokevirtual 46, 3) := by decide +kernel
theorem d_M_buildLike_52 : decode c_M_buildLike 52 = .ok (.iconst 4, 1) := by decide +kernel
theorem d_M_buildLike_53 : decode c_M_buildLike 53 = .ok (.iadd, 1) := by decide +kernel
theorem d_M_buildLike_54 : decode c_M_buildLike 54 = .ok (.iload_n 3, 1) := by decide +kernel
theorem d_M_buildLike_55 : decode c_M_buildLike 55 = .ok (.invokestatic 63, 3) := by decide +kernel
theorem d_M_buildLike_58 : decode c_M_buildLike 58 = .ok (.invokestatic 86, 3) := by decide +kernel
theorem d_M_buildLike_61 : decode c_M_buildLike 61 = .ok (.iload 4, 2) := by decide +kernel
theorem d_M_buildLike_63 : decode c_M_buildLike 63 = .ok (.ireturn, 1) := by decide +kernel
theorem d_M_fits_0 : decode c_M_fits 0 = .ok (.aload_n 0, 1) := by decide +kernel
theorem d_M_fits_1 : decode c_M_fits 1 = .ok (.getfield 25, 3) := by decide +kernel
theorem d_M_fits_4 : decode c_M_fits 4 = .ok (.ifCond .le 15, 3) := by decide +kernel
theorem d_M_fits_7 : decode c_M_fits 7 = .ok (.iload_n 1, 1) := by decide +kernel
theorem d_M_fits_8 : decode c_M_fits 8 = .ok (.aload_n 0, 1) := by decide +kernel
theorem d_M_fits_9 : decode c_M_fits 9 = .ok (.invokevirtual 92, 3) := by decide +kernel
theorem d_M_fits_12 : decode c_M_fits 12 = .ok (.if_icmp .gt 7, 3) := by decide +kernel
theorem d_M_fits_15 : decode c_M_fits 15 = .ok (.iconst 1, 1) := by decide +kernel
theorem d_M_fits_16 : decode c_M_fits 16 = .ok (.goto 4, 3) := by decide +kernel
theorem d_M_fits_19 : decode c_M_fits 19 = .ok (.iconst 0, 1) := by decide +kernel
theorem d_M_fits_20 : decode c_M_fits 20 = .ok (.ireturn, 1) := by decide +kernel
theorem d_M_swap_0 : decode c_M_swap 0 = .ok (.aload_n 0, 1) := by decide +kernel
theorem d_M_swap_1 : decode c_M_swap 1 = .ok (.iload_n 1, 1) := by decide +kernel
theorem d_M_swap_2 : decode c_M_swap 2 = .ok (.invokevirtual 46, 3) := by decide +kernel
theorem d_M_swap_5 : decode c_M_swap 5 = .ok (.istore_n 3, 1) := by decide +kernel
theorem d_M_swap_6 : decode c_M_swap 6 = .ok (.aload_n 0, 1) := by decide +kernel
theorem d_M_swap_7 : decode c_M_swap 7 = .ok (.iload_n 2, 1) := by decide +kernel
theorem d_M_swap_8 : decode c_M_swap 8 = .ok (.invokevirtual 46, 3) := by decide +kernel
theorem d_M_swap_11 : decode c_M_swap 11 = .ok (.istore 4, 2) := by decide +kernel
theorem d_M_swap_13 : decode c_M_swap 13 = .ok (.aload_n 0, 1) := by decide +kernel
theorem d_M_swap_14 : decode c_M_swap 14 = .ok (.iload_n 1, 1) := by decide +kernel
theorem d_M_swap_15 : decode c_M_swap 15 = .ok (.invokestatic 37, 3) := by decide +kernel
theorem d_M_swap_18 : decode c_M_swap 18 = .ok (.iload 4, 2) := by decide +kernel
theorem d_M_swap_20 : decode c_M_swap 20 = .ok (.invokevirtual 96, 3) := by decide +kernel
theorem d_M_swap_23 : decode c_M_swap 23 = .ok (.aload_n 0, 1) := by decide +kernel
theorem d_M_swap_24 : decode c_M_swap 24 = .ok (.iload_n 2, 1) := by decide +kernel
theorem d_M_swap_25 : decode c_M_swap 25 = .ok (.invokestatic 37, 3) := by decide +kernel
theorem d_M_swap_28 : decode c_M_swap 28 = .ok (.iload_n 3, 1) := by decide +kernel
theorem d_M_swap_29 : decode c_M_swap 29 = .ok (.invokevirtual 96, 3) := by decide +kernel
theorem d_M_swap_32 : decode c_M_swap 32 = .ok (.return_, 1) := by decide +kernel
theorem d_M_seat_0 : decode c_M_seat 0 = .ok (.aload_n 0, 1) := by decide +kernel
theorem d_M_seat_1 : decode c_M_seat 1 = .ok (.getfield 13, 3) := by decide +kernel
theorem d_M_seat_4 : decode c_M_seat 4 = .ok (.iload_n 1, 1) := by decide +kernel
theorem d_M_seat_5 : decode c_M_seat 5 = .ok (.iload_n 2, 1) := by decide +kernel
theorem d_M_seat_6 : decode c_M_seat 6 = .ok (.iastore, 1) := by decide +kernel
theorem d_M_seat_7 : decode c_M_seat 7 = .ok (.aload_n 0, 1) := by decide +kernel
theorem d_M_seat_8 : decode c_M_seat 8 = .ok (.getfield 7, 3) := by decide +kernel
theorem d_M_seat_11 : decode c_M_seat 11 = .ok (.iload_n 2, 1) := by decide +kernel
theorem d_M_seat_12 : decode c_M_seat 12 = .ok (.iconst 0, 1) := by decide +kernel
theorem d_M_seat_13 : decode c_M_seat 13 = .ok (.iadd, 1) := by decide +kernel
theorem d_M_seat_14 : decode c_M_seat 14 = .ok (.iload_n 1, 1) := by decide +kernel
theorem d_M_seat_15 : decode c_M_seat 15 = .ok (.iastore, 1) := by decide +kernel
theorem d_M_seat_16 : decode c_M_seat 16 = .ok (.return_, 1) := by decide +kernel
theorem d_M_settle_0 : decode c_M_settle 0 = .ok (.aload_n 0, 1) := by decide +kernel
theorem d_M_settle_1 : decode c_M_settle 1 = .ok (.getfield 29, 3) := by decide +kernel
theorem d_M_settle_4 : decode c_M_settle 4 = .ok (.ifCond .eq 4, 3) := by decide +kernel
theorem d_M_settle_7 : decode c_M_settle 7 = .ok (.return_, 1) := by decide +kernel
theorem d_M_settle_8 : decode c_M_settle 8 = .ok (.aload_n 0, 1) := by decide +kernel
theorem d_M_settle_9 : decode c_M_settle 9 = .ok (.invokevirtual 99, 3) := by decide +kernel
theorem d_M_settle_12 : decode c_M_settle 12 = .ok (.aload_n 1, 1) := by decide +kernel
theorem d_M_settle_13 : decode c_M_settle 13 = .ok (.astore_n 2, 1) := by decide +kernel
theorem d_M_settle_14 : decode c_M_settle 14 = .ok (.aload_n 2, 1) := by decide +kernel
theorem d_M_settle_15 : decode c_M_settle 15 = .ok (.arraylength, 1) := by decide +kernel
theorem d_M_settle_16 : decode c_M_settle 16 = .ok (.istore_n 3, 1) := by decide +kernel
theorem d_M_settle_17 : decode c_M_settle 17 = .ok (.iconst 0, 1) := by decide +kernel
theorem d_M_settle_18 : decode c_M_settle 18 = .ok (.istore 4, 2) := by decide +kernel
theorem d_M_settle_20 : decode c_M_settle 20 = .ok (.iload 4, 2) := by decide +kernel
theorem d_M_settle_22 : decode c_M_settle 22 = .ok (.iload_n 3, 1) := by decide +kernel
theorem d_M_settle_23 : decode c_M_settle 23 = .ok (.if_icmp .ge 21, 3) := by decide +kernel
theorem d_M_settle_26 : decode c_M_settle 26 = .ok (.aload_n 2, 1) := by decide +kernel
theorem d_M_settle_27 : decode c_M_settle 27 = .ok (.iload 4, 2) := by decide +kernel
theorem d_M_settle_29 : decode c_M_settle 29 = .ok (.iaload, 1) := by decide +kernel
theorem d_M_settle_30 : decode c_M_settle 30 = .ok (.istore 5, 2) := by decide +kernel
theorem d_M_settle_32 : decode c_M_settle 32 = .ok (.aload_n 0, 1) := by decide +kernel
theorem d_M_settle_33 : decode c_M_settle 33 = .ok (.iload 5, 2) := by decide +kernel
theorem d_M_settle_35 : decode c_M_settle 35 = .ok (.invokevirtual 102, 3) := by decide +kernel
theorem d_M_settle_38 : decode c_M_settle 38 = .ok (.iinc 4 1, 3) := by decide +kernel
theorem d_M_settle_41 : decode c_M_settle 41 = .ok (.goto (-21), 3) := by decide +kernel
theorem d_M_settle_44 : decode c_M_settle 44 = .ok (.aload_n 0, 1) := by decide +kernel
theorem d_M_settle_45 : decode c_M_settle 45 = .ok (.invokevirtual 105, 3) := by decide +kernel
theorem d_M_settle_48 : decode c_M_settle 48 = .ok (.aload_n 0, 1) := by decide +kernel
theorem d_M_settle_49 : decode c_M_settle 49 = .ok (.invokevirtual 108, 3) := by decide +kernel
theorem d_M_settle_52 : decode c_M_settle 52 = .ok (.aload_n 0, 1) := by decide +kernel
theorem d_M_settle_53 : decode c_M_settle 53 = .ok (.iconst 1, 1) := by decide +kernel
theorem d_M_settle_54 : decode c_M_settle 54 = .ok (.putfield 29, 3) := by decide +kernel
theorem d_M_settle_57 : decode c_M_settle 57 = .ok (.return_, 1) := by decide +kernel
theorem d_M_leadsTo_0 : decode c_M_leadsTo 0 = .ok (.aload_n 0, 1) := by decide +kernel
theorem d_M_leadsTo_1 : decode c_M_leadsTo 1 = .ok (.invokevirtual 99, 3) := by decide +kernel
theorem d_M_leadsTo_4 : decode c_M_leadsTo 4 = .ok (.aload_n 0, 1) := by decide +kernel
theorem d_M_leadsTo_5 : decode c_M_leadsTo 5 = .ok (.iload_n 1, 1) := by decide +kernel
theorem d_M_leadsTo_6 : decode c_M_leadsTo 6 = .ok (.invokevirtual 102, 3) := by decide +kernel
theorem d_M_leadsTo_9 : decode c_M_leadsTo 9 = .ok (.aload_n 0, 1) := by decide +kernel
theorem d_M_leadsTo_10 : decode c_M_leadsTo 10 = .ok (.invokevirtual 105, 3) := by decide +kernel
theorem d_M_leadsTo_13 : decode c_M_leadsTo 13 = .ok (.aload_n 0, 1) := by decide +kernel
theorem d_M_leadsTo_14 : decode c_M_leadsTo 14 = .ok (.iload_n 2, 1) := by decide +kernel
theorem d_M_leadsTo_15 : decode c_M_leadsTo 15 = .ok (.invokestatic 37, 3) := by decide +kernel
theorem d_M_leadsTo_18 : decode c_M_leadsTo 18 = .ok (.invokevirtual 111, 3) := by decide +kernel
theorem d_M_leadsTo_21 : decode c_M_leadsTo 21 = .ok (.ireturn, 1) := by decide +kernel
theorem d_M_startRound_0 : decode c_M_startRound 0 = .ok (.aload_n 0, 1) := by decide +kernel
theorem d_M_startRound_1 : decode c_M_startRound 1 = .ok (.dup, 1) := by decide +kernel
theorem d_M_startRound_2 : decode c_M_startRound 2 = .ok (.getfield 114, 3) := by decide +kernel
theorem d_M_startRound_5 : decode c_M_startRound 5 = .ok (.iconst 1, 1) := by decide +kernel
theorem d_M_startRound_6 : decode c_M_startRound 6 = .ok (.iadd, 1) := by decide +kernel
theorem d_M_startRound_7 : decode c_M_startRound 7 = .ok (.putfield 114, 3) := by decide +kernel
theorem d_M_startRound_10 : decode c_M_startRound 10 = .ok (.aload_n 0, 1) := by decide +kernel
theorem d_M_startRound_11 : decode c_M_startRound 11 = .ok (.iconst 0, 1) := by decide +kernel
theorem d_M_startRound_12 : decode c_M_startRound 12 = .ok (.putfield 117, 3) := by decide +kernel
theorem d_M_startRound_15 : decode c_M_startRound 15 = .ok (.return_, 1) := by decide +kernel
theorem d_M_isReached_0 : decode c_M_isReached 0 = .ok (.aload_n 0, 1) := by decide +kernel
theorem d_M_isReached_1 : decode c_M_isReached 1 = .ok (.getfield 22, 3) := by decide +kernel
theorem d_M_isReached_4 : decode c_M_isReached 4 = .ok (.iload_n 1, 1) := by decide +kernel
theorem d_M_isReached_5 : decode c_M_isReached 5 = .ok (.iaload, 1) := by decide +kernel
theorem d_M_isReached_6 : decode c_M_isReached 6 = .ok (.aload_n 0, 1) := by decide +kernel
theorem d_M_isReached_7 : decode c_M_isReached 7 = .ok (.getfield 114, 3) := by decide +kernel
theorem d_M_isReached_10 : decode c_M_isReached 10 = .ok (.if_icmp .ne 7, 3) := by decide +kernel
theorem d_M_isReached_13 : decode c_M_isReached 13 = .ok (.iconst 1, 1) := by decide +kernel
theorem d_M_isReached_14 : decode c_M_isReached 14 = .ok (.goto 4, 3) := by decide +kernel
theorem d_M_isReached_17 : decode c_M_isReached 17 = .ok (.iconst 0, 1) := by decide +kernel
theorem d_M_isReached_18 : decode c_M_isReached 18 = .ok (.ireturn, 1) := by decide +kernel
theorem d_M_reach_0 : decode c_M_reach 0 = .ok (.iload_n 1, 1) := by decide +kernel
theorem d_M_reach_1 : decode c_M_reach 1 = .ok (.invokestatic 43, 3) := by decide +kernel
theorem d_M_reach_4 : decode c_M_reach 4 = .ok (.ifCond .ne 4, 3) := by decide +kernel
theorem d_M_reach_7 : decode c_M_reach 7 = .ok (.return_, 1) := by decide +kernel
theorem d_M_reach_8 : decode c_M_reach 8 = .ok (.iload_n 1, 1) := by decide +kernel
theorem d_M_reach_9 : decode c_M_reach 9 = .ok (.invokestatic 37, 3) := by decide +kernel
theorem d_M_reach_12 : decode c_M_reach 12 = .ok (.istore_n 2, 1) := by decide +kernel
theorem d_M_reach_13 : decode c_M_reach 13 = .ok (.aload_n 0, 1) := by decide +kernel
theorem d_M_reach_14 : decode c_M_reach 14 = .ok (.iload_n 2, 1) := by decide +kernel
theorem d_M_reach_15 : decode c_M_reach 15 = .ok (.invokevirtual 111, 3) := by decide +kernel
theorem d_M_reach_18 : decode c_M_reach 18 = .ok (.ifCond .ne 33, 3) := by decide +kernel
theorem d_M_reach_21 : decode c_M_reach 21 = .ok (.aload_n 0, 1) := by decide +kernel
theorem d_M_reach_22 : decode c_M_reach 22 = .ok (.getfield 22, 3) := by decide +kernel
theorem d_M_reach_25 : decode c_M_reach 25 = .ok (.iload_n 2, 1) := by decide +kernel
theorem d_M_reach_26 : decode c_M_reach 26 = .ok (.aload_n 0, 1) := by decide +kernel
theorem d_M_reach_27 : decode c_M_reach 27 = .ok (.getfield 114, 3) := by decide +kernel
theorem d_M_reach_30 : decode c_M_reach 30 = .ok (.iastore, 1) := by decide +kernel
theorem d_M_reach_31 : decode c_M_reach 31 = .ok (.aload_n 0, 1) := by decide +kernel
theorem d_M_reach_32 : decode c_M_reach 32 = .ok (.getfield 19, 3) := by decide +kernel
theorem d_M_reach_35 : decode c_M_reach 35 = .ok (.aload_n 0, 1) := by decide +kernel
theorem d_M_reach_36 : decode c_M_reach 36 = .ok (.getfield 117, 3) := by decide +kernel
theorem d_M_reach_39 : decode c_M_reach 39 = .ok (.iload_n 2, 1) := by decide +kernel
theorem d_M_reach_40 : decode c_M_reach 40 = .ok (.iastore, 1) := by decide +kernel
theorem d_M_reach_41 : decode c_M_reach 41 = .ok (.aload_n 0, 1) := by decide +kernel
theorem d_M_reach_42 : decode c_M_reach 42 = .ok (.dup, 1) := by decide +kernel
theorem d_M_reach_43 : decode c_M_reach 43 = .ok (.getfield 117, 3) := by decide +kernel
theorem d_M_reach_46 : decode c_M_reach 46 = .ok (.iconst 1, 1) := by decide +kernel
theorem d_M_reach_47 : decode c_M_reach 47 = .ok (.iadd, 1) := by decide +kernel
theorem d_M_reach_48 : decode c_M_reach 48 = .ok (.putfield 117, 3) := by decide +kernel
theorem d_M_reach_51 : decode c_M_reach 51 = .ok (.return_, 1) := by decide +kernel
theorem d_M_spread_0 : decode c_M_spread 0 = .ok (.iconst 0, 1) := by decide +kernel
theorem d_M_spread_1 : decode c_M_spread 1 = .ok (.istore_n 1, 1) := by decide +kernel
theorem d_M_spread_2 : decode c_M_spread 2 = .ok (.iload_n 1, 1) := by decide +kernel
theorem d_M_spread_3 : decode c_M_spread 3 = .ok (.aload_n 0, 1) := by decide +kernel
theorem d_M_spread_4 : decode c_M_spread 4 = .ok (.getfield 19, 3) := by decide +kernel
theorem d_M_spread_7 : decode c_M_spread 7 = .ok (.arraylength, 1) := by decide +kernel
theorem d_M_spread_8 : decode c_M_spread 8 = .ok (.if_icmp .ge 75, 3) := by decide +kernel
theorem d_M_spread_11 : decode c_M_spread 11 = .ok (.iload_n 1, 1) := by decide +kernel
theorem d_M_spread_12 : decode c_M_spread 12 = .ok (.aload_n 0, 1) := by decide +kernel
theorem d_M_spread_13 : decode c_M_spread 13 = .ok (.getfield 117, 3) := by decide +kernel
theorem d_M_spread_16 : decode c_M_spread 16 = .ok (.if_icmp .ge 67, 3) := by decide +kernel
theorem d_M_spread_19 : decode c_M_spread 19 = .ok (.aload_n 0, 1) := by decide +kernel
theorem d_M_spread_20 : decode c_M_spread 20 = .ok (.getfield 13, 3) := by decide +kernel
theorem d_M_spread_23 : decode c_M_spread 23 = .ok (.aload_n 0, 1) := by decide +kernel
theorem d_M_spread_24 : decode c_M_spread 24 = .ok (.getfield 19, 3) := by decide +kernel
theorem d_M_spread_27 : decode c_M_spread 27 = .ok (.iload_n 1, 1) := by decide +kernel
theorem d_M_spread_28 : decode c_M_spread 28 = .ok (.iaload, 1) := by decide +kernel
theorem d_M_spread_29 : decode c_M_spread 29 = .ok (.iaload, 1) := by decide +kernel
theorem d_M_spread_30 : decode c_M_spread 30 = .ok (.istore_n 2, 1) := by decide +kernel
theorem d_M_spread_31 : decode c_M_spread 31 = .ok (.aload_n 0, 1) := by decide +kernel
theorem d_M_spread_32 : decode c_M_spread 32 = .ok (.aload_n 0, 1) := by decide +kernel
theorem d_M_spread_33 : decode c_M_spread 33 = .ok (.getfield 7, 3) := by decide +kernel
theorem d_M_spread_36 : decode c_M_spread 36 = .ok (.iload_n 2, 1) := by decide +kernel
theorem d_M_spread_37 : decode c_M_spread 37 = .ok (.iconst 2, 1) := by decide +kernel
theorem d_M_spread_38 : decode c_M_spread 38 = .ok (.iadd, 1) := by decide +kernel
theorem d_M_spread_39 : decode c_M_spread 39 = .ok (.iaload, 1) := by decide +kernel
theorem d_M_spread_40 : decode c_M_spread 40 = .ok (.invokevirtual 102, 3) := by decide +kernel
theorem d_M_spread_43 : decode c_M_spread 43 = .ok (.aload_n 0, 1) := by decide +kernel
theorem d_M_spread_44 : decode c_M_spread 44 = .ok (.iload_n 2, 1) := by decide +kernel
theorem d_M_spread_45 : decode c_M_spread 45 = .ok (.invokevirtual 120, 3) := by decide +kernel
theorem d_M_spread_48 : decode c_M_spread 48 = .ok (.istore_n 3, 1) := by decide +kernel
theorem d_M_spread_49 : decode c_M_spread 49 = .ok (.iload_n 2, 1) := by decide +kernel
theorem d_M_spread_50 : decode c_M_spread 50 = .ok (.iconst 4, 1) := by decide +kernel
theorem d_M_spread_51 : decode c_M_spread 51 = .ok (.iadd, 1) := by decide +kernel
theorem d_M_spread_52 : decode c_M_spread 52 = .ok (.istore 4, 2) := by decide +kernel
theorem d_M_spread_54 : decode c_M_spread 54 = .ok (.iload 4, 2) := by decide +kernel
theorem d_M_spread_56 : decode c_M_spread 56 = .ok (.iload_n 3, 1) := by decide +kernel
theorem d_M_spread_57 : decode c_M_spread 57 = .ok (.if_icmp .ge 20, 3) := by decide +kernel
theorem d_M_spread_60 : decode c_M_spread 60 = .ok (.aload_n 0, 1) := by decide +kernel
theorem d_M_spread_61 : decode c_M_spread 61 = .ok (.aload_n 0, 1) := by decide +kernel
theorem d_M_spread_62 : decode c_M_spread 62 = .ok (.getfield 7, 3) := by decide +kernel
theorem d_M_spread_65 : decode c_M_spread 65 = .ok (.iload 4, 2) := by decide +kernel
theorem d_M_spread_67 : decode c_M_spread 67 = .ok (.iaload, 1) := by decide +kernel
theorem d_M_spread_68 : decode c_M_spread 68 = .ok (.invokevirtual 102, 3) := by decide +kernel
theorem d_M_spread_71 : decode c_M_spread 71 = .ok (.iinc 4 1, 3) := by decide +kernel
theorem d_M_spread_74 : decode c_M_spread 74 = .ok (.goto (-20), 3) := by decide +kernel
theorem d_M_spread_77 : decode c_M_spread 77 = .ok (.iinc 1 1, 3) := by decide +kernel
theorem d_M_spread_80 : decode c_M_spread 80 = .ok (.goto (-78), 3) := by decide +kernel
theorem d_M_spread_83 : decode c_M_spread 83 = .ok (.return_, 1) := by decide +kernel
theorem d_M_endOfSlots_0 : decode c_M_endOfSlots 0 = .ok (.aload_n 0, 1) := by decide +kernel
theorem d_M_endOfSlots_1 : decode c_M_endOfSlots 1 = .ok (.getfield 7, 3) := by decide +kernel
theorem d_M_endOfSlots_4 : decode c_M_endOfSlots 4 = .ok (.iload_n 1, 1) := by decide +kernel
theorem d_M_endOfSlots_5 : decode c_M_endOfSlots 5 = .ok (.iconst 3, 1) := by decide +kernel
theorem d_M_endOfSlots_6 : decode c_M_endOfSlots 6 = .ok (.iadd, 1) := by decide +kernel
theorem d_M_endOfSlots_7 : decode c_M_endOfSlots 7 = .ok (.iaload, 1) := by decide +kernel
theorem d_M_endOfSlots_8 : decode c_M_endOfSlots 8 = .ok (.istore_n 2, 1) := by decide +kernel
theorem d_M_endOfSlots_9 : decode c_M_endOfSlots 9 = .ok (.iload_n 1, 1) := by decide +kernel
theorem d_M_endOfSlots_10 : decode c_M_endOfSlots 10 = .ok (.iconst 4, 1) := by decide +kernel
theorem d_M_endOfSlots_11 : decode c_M_endOfSlots 11 = .ok (.iadd, 1) := by decide +kernel
theorem d_M_endOfSlots_12 : decode c_M_endOfSlots 12 = .ok (.iload_n 2, 1) := by decide +kernel
theorem d_M_endOfSlots_13 : decode c_M_endOfSlots 13 = .ok (.invokestatic 33, 3) := by decide +kernel
theorem d_M_endOfSlots_16 : decode c_M_endOfSlots 16 = .ok (.ifCond .eq 7, 3) := by decide +kernel
theorem d_M_endOfSlots_19 : decode c_M_endOfSlots 19 = .ok (.iconst 0, 1) := by decide +kernel
theorem d_M_endOfSlots_20 : decode c_M_endOfSlots 20 = .ok (.goto 7, 3) := by decide +kernel
theorem d_M_endOfSlots_23 : decode c_M_endOfSlots 23 = .ok (.iload_n 2, 1) := by decide +kernel
theorem d_M_endOfSlots_24 : decode c_M_endOfSlots 24 = .ok (.invokestatic 63, 3) := by decide +kernel
theorem d_M_endOfSlots_27 : decode c_M_endOfSlots 27 = .ok (.iadd, 1) := by decide +kernel
theorem d_M_endOfSlots_28 : decode c_M_endOfSlots 28 = .ok (.ireturn, 1) := by decide +kernel
theorem d_M_bodyWordsAt_0 : decode c_M_bodyWordsAt 0 = .ok (.aload_n 0, 1) := by decide +kernel
theorem d_M_bodyWordsAt_1 : decode c_M_bodyWordsAt 1 = .ok (.getfield 7, 3) := by decide +kernel
theorem d_M_bodyWordsAt_4 : decode c_M_bodyWordsAt 4 = .ok (.iload_n 1, 1) := by decide +kernel
theorem d_M_bodyWordsAt_5 : decode c_M_bodyWordsAt 5 = .ok (.iconst 3, 1) := by decide +kernel
theorem d_M_bodyWordsAt_6 : decode c_M_bodyWordsAt 6 = .ok (.iadd, 1) := by decide +kernel
theorem d_M_bodyWordsAt_7 : decode c_M_bodyWordsAt 7 = .ok (.iaload, 1) := by decide +kernel
theorem d_M_bodyWordsAt_8 : decode c_M_bodyWordsAt 8 = .ok (.invokestatic 63, 3) := by decide +kernel
theorem d_M_bodyWordsAt_11 : decode c_M_bodyWordsAt 11 = .ok (.ireturn, 1) := by decide +kernel
theorem d_M_slide_0 : decode c_M_slide 0 = .ok (.aload_n 0, 1) := by decide +kernel
theorem d_M_slide_1 : decode c_M_slide 1 = .ok (.getfield 60, 3) := by decide +kernel
theorem d_M_slide_4 : decode c_M_slide 4 = .ok (.istore_n 1, 1) := by decide +kernel
theorem d_M_slide_5 : decode c_M_slide 5 = .ok (.aload_n 0, 1) := by decide +kernel
theorem d_M_slide_6 : decode c_M_slide 6 = .ok (.iconst 0, 1) := by decide +kernel
theorem d_M_slide_7 : decode c_M_slide 7 = .ok (.putfield 60, 3) := by decide +kernel
theorem d_M_slide_10 : decode c_M_slide 10 = .ok (.iconst 0, 1) := by decide +kernel
theorem d_M_slide_11 : decode c_M_slide 11 = .ok (.istore_n 3, 1) := by decide +kernel
theorem d_M_slide_12 : decode c_M_slide 12 = .ok (.iload_n 3, 1) := by decide +kernel
theorem d_M_slide_13 : decode c_M_slide 13 = .ok (.iload_n 1, 1) := by decide +kernel
theorem d_M_slide_14 : decode c_M_slide 14 = .ok (.if_icmp .ge 103, 3) := by decide +kernel
theorem d_M_slide_17 : decode c_M_slide 17 = .ok (.aload_n 0, 1) := by decide +kernel
theorem d_M_slide_18 : decode c_M_slide 18 = .ok (.iload_n 3, 1) := by decide +kernel
theorem d_M_slide_19 : decode c_M_slide 19 = .ok (.invokevirtual 123, 3) := by decide +kernel
theorem d_M_slide_22 : decode c_M_slide 22 = .ok (.istore_n 2, 1) := by decide +kernel
theorem d_M_slide_23 : decode c_M_slide 23 = .ok (.aload_n 0, 1) := by decide +kernel
theorem d_M_slide_24 : decode c_M_slide 24 = .ok (.getfield 7, 3) := by decide +kernel
theorem d_M_slide_27 : decode c_M_slide 27 = .ok (.iload_n 3, 1) := by decide +kernel
theorem d_M_slide_28 : decode c_M_slide 28 = .ok (.iconst 0, 1) := by decide +kernel
theorem d_M_slide_29 : decode c_M_slide 29 = .ok (.iadd, 1) := by decide +kernel
theorem d_M_slide_30 : decode c_M_slide 30 = .ok (.iaload, 1) := by decide +kernel
theorem d_M_slide_31 : decode c_M_slide 31 = .ok (.istore 4, 2) := by decide +kernel
theorem d_M_slide_33 : decode c_M_slide 33 = .ok (.aload_n 0, 1) := by decide +kernel
theorem d_M_slide_34 : decode c_M_slide 34 = .ok (.iload 4, 2) := by decide +kernel
theorem d_M_slide_36 : decode c_M_slide 36 = .ok (.invokevirtual 111, 3) := by decide +kernel
theorem d_M_slide_39 : decode c_M_slide 39 = .ok (.ifCond .eq 48, 3) := by decide +kernel
theorem d_M_slide_42 : decode c_M_slide 42 = .ok (.aload_n 0, 1) := by decide +kernel
theorem d_M_slide_43 : decode c_M_slide 43 = .ok (.getfield 7, 3) := by decide +kernel
theorem d_M_slide_46 : decode c_M_slide 46 = .ok (.iload_n 3, 1) := by decide +kernel
theorem d_M_slide_47 : decode c_M_slide 47 = .ok (.aload_n 0, 1) := by decide +kernel
theorem d_M_slide_48 : decode c_M_slide 48 = .ok (.getfield 7, 3) := by decide +kernel
theorem d_M_slide_51 : decode c_M_slide 51 = .ok (.aload_n 0, 1) := by decide +kernel
theorem d_M_slide_52 : decode c_M_slide 52 = .ok (.getfield 60, 3) := by decide +kernel
theorem d_M_slide_55 : decode c_M_slide 55 = .ok (.iconst 4, 1) := by decide +kernel
theorem d_M_slide_56 : decode c_M_slide 56 = .ok (.iload_n 2, 1) := by decide +kernel
theorem d_M_slide_57 : decode c_M_slide 57 = .ok (.iadd, 1) := by decide +kernel
theorem d_M_slide_58 : decode c_M_slide 58 = .ok (.invokestatic 86, 3) := by decide +kernel
theorem d_M_slide_61 : decode c_M_slide 61 = .ok (.aload_n 0, 1) := by decide +kernel
theorem d_M_slide_62 : decode c_M_slide 62 = .ok (.getfield 13, 3) := by decide +kernel
theorem d_M_slide_65 : decode c_M_slide 65 = .ok (.iload 4, 2) := by decide +kernel
theorem d_M_slide_67 : decode c_M_slide 67 = .ok (.aload_n 0, 1) := by decide +kernel
theorem d_M_slide_68 : decode c_M_slide 68 = .ok (.getfield 60, 3) := by decide +kernel
theorem d_M_slide_71 : decode c_M_slide 71 = .ok (.iastore, 1) := by decide +kernel
theorem d_M_slide_72 : decode c_M_slide 72 = .ok (.aload_n 0, 1) := by decide +kernel
theorem d_M_slide_73 : decode c_M_slide 73 = .ok (.dup, 1) := by decide +kernel
theorem d_M_slide_74 : decode c_M_slide 74 = .ok (.getfield 60, 3) := by decide +kernel
theorem d_M_slide_77 : decode c_M_slide 77 = .ok (.iconst 4, 1) := by decide +kernel
theorem d_M_slide_78 : decode c_M_slide 78 = .ok (.iload_n 2, 1) := by decide +kernel
theorem d_M_slide_79 : decode c_M_slide 79 = .ok (.iadd, 1) := by decide +kernel
theorem d_M_slide_80 : decode c_M_slide 80 = .ok (.iadd, 1) := by decide +kernel
theorem d_M_slide_81 : decode c_M_slide 81 = .ok (.putfield 60, 3) := by decide +kernel
theorem d_M_slide_84 : decode c_M_slide 84 = .ok (.goto 24, 3) := by decide +kernel
theorem d_M_slide_87 : decode c_M_slide 87 = .ok (.aload_n 0, 1) := by decide +kernel
theorem d_M_slide_88 : decode c_M_slide 88 = .ok (.getfield 16, 3) := by decide +kernel
theorem d_M_slide_91 : decode c_M_slide 91 = .ok (.aload_n 0, 1) := by decide +kernel
theorem d_M_slide_92 : decode c_M_slide 92 = .ok (.getfield 25, 3) := by decide +kernel
theorem d_M_slide_95 : decode c_M_slide 95 = .ok (.iload 4, 2) := by decide +kernel
theorem d_M_slide_97 : decode c_M_slide 97 = .ok (.iastore, 1) := by decide +kernel
theorem d_M_slide_98 : decode c_M_slide 98 = .ok (.aload_n 0, 1) := by decide +kernel
theorem d_M_slide_99 : decode c_M_slide 99 = .ok (.dup, 1) := by decide +kernel
theorem d_M_slide_100 : decode c_M_slide 100 = .ok (.getfield 25, 3) := by decide +kernel
theorem d_M_slide_103 : decode c_M_slide 103 = .ok (.iconst 1, 1) := by decide +kernel
theorem d_M_slide_104 : decode c_M_slide 104 = .ok (.iadd, 1) := by decide +kernel
theorem d_M_slide_105 : decode c_M_slide 105 = .ok (.putfield 25, 3) := by decide +kernel
theorem d_M_slide_108 : decode c_M_slide 108 = .ok (.iload_n 3, 1) := by decide +kernel
theorem d_M_slide_109 : decode c_M_slide 109 = .ok (.iconst 4, 1) := by decide +kernel
theorem d_M_slide_110 : decode c_M_slide 110 = .ok (.iload_n 2, 1) := by decide +kernel
theorem d_M_slide_111 : decode c_M_slide 111 = .ok (.iadd, 1) := by decide +kernel
theorem d_M_slide_112 : decode c_M_slide 112 = .ok (.iadd, 1) := by decide +kernel
theorem d_M_slide_113 : decode c_M_slide 113 = .ok (.istore_n 3, 1) := by decide +kernel
theorem d_M_slide_114 : decode c_M_slide 114 = .ok (.goto (-102), 3) := by decide +kernel
theorem d_M_slide_117 : decode c_M_slide 117 = .ok (.return_, 1) := by decide +kernel
theorem d_M_findOfClass_0 : decode c_M_findOfClass 0 = .ok (.iconst 0, 1) := by decide +kernel
theorem d_M_findOfClass_1 : decode c_M_findOfClass 1 = .ok (.istore_n 3, 1) := by decide +kernel
theorem d_M_findOfClass_2 : decode c_M_findOfClass 2 = .ok (.iconst 0, 1) := by decide +kernel
theorem d_M_findOfClass_3 : decode c_M_findOfClass 3 = .ok (.istore 4, 2) := by decide +kernel
theorem d_M_findOfClass_5 : decode c_M_findOfClass 5 = .ok (.iload 4, 2) := by decide +kernel
theorem d_M_findOfClass_7 : decode c_M_findOfClass 7 = .ok (.aload_n 0, 1) := by decide +kernel
theorem d_M_findOfClass_8 : decode c_M_findOfClass 8 = .ok (.getfield 60, 3) := by decide +kernel
theorem d_M_findOfClass_11 : decode c_M_findOfClass 11 = .ok (.if_icmp .ge 53, 3) := by decide +kernel
theorem d_M_findOfClass_14 : decode c_M_findOfClass 14 = .ok (.aload_n 0, 1) := by decide +kernel
theorem d_M_findOfClass_15 : decode c_M_findOfClass 15 = .ok (.getfield 7, 3) := by decide +kernel
theorem d_M_findOfClass_18 : decode c_M_findOfClass 18 = .ok (.iload 4, 2) := by decide +kernel
theorem d_M_findOfClass_20 : decode c_M_findOfClass 20 = .ok (.iconst 2, 1) := by decide +kernel
theorem d_M_findOfClass_21 : decode c_M_findOfClass 21 = .ok (.iadd, 1) := by decide +kernel
theorem d_M_findOfClass_22 : decode c_M_findOfClass 22 = .ok (.iaload, 1) := by decide +kernel
theorem d_M_findOfClass_23 : decode c_M_findOfClass 23 = .ok (.iload_n 1, 1) := by decide +kernel
theorem d_M_findOfClass_24 : decode c_M_findOfClass 24 = .ok (.if_icmp .ne 24, 3) := by decide +kernel
theorem d_M_findOfClass_27 : decode c_M_findOfClass 27 = .ok (.iload_n 3, 1) := by decide +kernel
theorem d_M_findOfClass_28 : decode c_M_findOfClass 28 = .ok (.iload_n 2, 1) := by decide +kernel
theorem d_M_findOfClass_29 : decode c_M_findOfClass 29 = .ok (.if_icmp .ne 16, 3) := by decide +kernel
theorem d_M_findOfClass_32 : decode c_M_findOfClass 32 = .ok (.aload_n 0, 1) := by decide +kernel
theorem d_M_findOfClass_33 : decode c_M_findOfClass 33 = .ok (.getfield 7, 3) := by decide +kernel
theorem d_M_findOfClass_36 : decode c_M_findOfClass 36 = .ok (.iload 4, 2) := by decide +kernel
theorem d_M_findOfClass_38 : decode c_M_findOfClass 38 = .ok (.iconst 0, 1) := by decide +kernel
theorem d_M_findOfClass_39 : decode c_M_findOfClass 39 = .ok (.iadd, 1) := by decide +kernel
theorem d_M_findOfClass_40 : decode c_M_findOfClass 40 = .ok (.iaload, 1) := by decide +kernel
theorem d_M_findOfClass_41 : decode c_M_findOfClass 41 = .ok (.invokestatic 76, 3) := by decide +kernel
theorem d_M_findOfClass_44 : decode c_M_findOfClass 44 = .ok (.ireturn, 1) := by decide +kernel
theorem d_M_findOfClass_45 : decode c_M_findOfClass 45 = .ok (.iinc 3 1, 3) := by decide +kernel
theorem d_M_findOfClass_48 : decode c_M_findOfClass 48 = .ok (.iload 4, 2) := by decide +kernel
theorem d_M_findOfClass_50 : decode c_M_findOfClass 50 = .ok (.iconst 4, 1) := by decide +kernel
theorem d_M_findOfClass_51 : decode c_M_findOfClass 51 = .ok (.aload_n 0, 1) := by decide +kernel
theorem d_M_findOfClass_52 : decode c_M_findOfClass 52 = .ok (.iload 4, 2) := by decide +kernel
theorem d_M_findOfClass_54 : decode c_M_findOfClass 54 = .ok (.invokevirtual 123, 3) := by decide +kernel
theorem d_M_findOfClass_57 : decode c_M_findOfClass 57 = .ok (.iadd, 1) := by decide +kernel
theorem d_M_findOfClass_58 : decode c_M_findOfClass 58 = .ok (.iadd, 1) := by decide +kernel
theorem d_M_findOfClass_59 : decode c_M_findOfClass 59 = .ok (.istore 4, 2) := by decide +kernel
theorem d_M_findOfClass_61 : decode c_M_findOfClass 61 = .ok (.goto (-56), 3) := by decide +kernel
theorem d_M_findOfClass_64 : decode c_M_findOfClass 64 = .ok (.iconst 0, 1) := by decide +kernel
theorem d_M_findOfClass_65 : decode c_M_findOfClass 65 = .ok (.ireturn, 1) := by decide +kernel
theorem d_M_countHolders_0 : decode c_M_countHolders 0 = .ok (.iconst 0, 1) := by decide +kernel
theorem d_M_countHolders_1 : decode c_M_countHolders 1 = .ok (.istore_n 2, 1) := by decide +kernel
theorem d_M_countHolders_2 : decode c_M_countHolders 2 = .ok (.iconst 0, 1) := by decide +kernel
theorem d_M_countHolders_3 : decode c_M_countHolders 3 = .ok (.istore_n 3, 1) := by decide +kernel
theorem d_M_countHolders_4 : decode c_M_countHolders 4 = .ok (.iload_n 3, 1) := by decide +kernel
theorem d_M_countHolders_5 : decode c_M_countHolders 5 = .ok (.aload_n 0, 1) := by decide +kernel
theorem d_M_countHolders_6 : decode c_M_countHolders 6 = .ok (.getfield 60, 3) := by decide +kernel
theorem d_M_countHolders_9 : decode c_M_countHolders 9 = .ok (.if_icmp .ge 70, 3) := by decide +kernel
theorem d_M_countHolders_12 : decode c_M_countHolders 12 = .ok (.aload_n 0, 1) := by decide +kernel
theorem d_M_countHolders_13 : decode c_M_countHolders 13 = .ok (.getfield 7, 3) := by decide +kernel
theorem d_M_countHolders_16 : decode c_M_countHolders 16 = .ok (.iload_n 3, 1) := by decide +kernel
theorem d_M_countHolders_17 : decode c_M_countHolders 17 = .ok (.iconst 2, 1) := by decide +kernel
theorem d_M_countHolders_18 : decode c_M_countHolders 18 = .ok (.iadd, 1) := by decide +kernel
theorem d_M_countHolders_19 : decode c_M_countHolders 19 = .ok (.iaload, 1) := by decide +kernel
theorem d_M_countHolders_20 : decode c_M_countHolders 20 = .ok (.iload_n 1, 1) := by decide +kernel
theorem d_M_countHolders_21 : decode c_M_countHolders 21 = .ok (.if_icmp .ne 6, 3) := by decide +kernel
theorem d_M_countHolders_24 : decode c_M_countHolders 24 = .ok (.iinc 2 1, 3) := by decide +kernel
theorem d_M_countHolders_27 : decode c_M_countHolders 27 = .ok (.aload_n 0, 1) := by decide +kernel
theorem d_M_countHolders_28 : decode c_M_countHolders 28 = .ok (.iload_n 3, 1) := by decide +kernel
theorem d_M_countHolders_29 : decode c_M_countHolders 29 = .ok (.invokevirtual 120, 3) := by decide +kernel
theorem d_M_countHolders_32 : decode c_M_countHolders 32 = .ok (.istore 4, 2) := by decide +kernel
theorem d_M_countHolders_34 : decode c_M_countHolders 34 = .ok (.iload_n 3, 1) := by decide +kernel
theorem d_M_countHolders_35 : decode c_M_countHolders 35 = .ok (.iconst 4, 1) := by decide +kernel
theorem d_M_countHolders_36 : decode c_M_countHolders 36 = .ok (.iadd, 1) := by decide +kernel
theorem d_M_countHolders_37 : decode c_M_countHolders 37 = .ok (.istore 5, 2) := by decide +kernel
theorem d_M_countHolders_39 : decode c_M_countHolders 39 = .ok (.iload 5, 2) := by decide +kernel
theorem d_M_countHolders_41 : decode c_M_countHolders 41 = .ok (.iload 4, 2) := by decide +kernel
theorem d_M_countHolders_43 : decode c_M_countHolders 43 = .ok (.if_icmp .ge 23, 3) := by decide +kernel
theorem d_M_countHolders_46 : decode c_M_countHolders 46 = .ok (.aload_n 0, 1) := by decide +kernel
theorem d_M_countHolders_47 : decode c_M_countHolders 47 = .ok (.getfield 7, 3) := by decide +kernel
theorem d_M_countHolders_50 : decode c_M_countHolders 50 = .ok (.iload 5, 2) := by decide +kernel
theorem d_M_countHolders_52 : decode c_M_countHolders 52 = .ok (.iaload, 1) := by decide +kernel
theorem d_M_countHolders_53 : decode c_M_countHolders 53 = .ok (.iload_n 1, 1) := by decide +kernel
theorem d_M_countHolders_54 : decode c_M_countHolders 54 = .ok (.if_icmp .ne 6, 3) := by decide +kernel
theorem d_M_countHolders_57 : decode c_M_countHolders 57 = .ok (.iinc 2 1, 3) := by decide +kernel
theorem d_M_countHolders_60 : decode c_M_countHolders 60 = .ok (.iinc 5 1, 3) := by decide +kernel
theorem d_M_countHolders_63 : decode c_M_countHolders 63 = .ok (.goto (-24), 3) := by decide +kernel
theorem d_M_countHolders_66 : decode c_M_countHolders 66 = .ok (.iload_n 3, 1) := by decide +kernel
theorem d_M_countHolders_67 : decode c_M_countHolders 67 = .ok (.iconst 4, 1) := by decide +kernel
theorem d_M_countHolders_68 : decode c_M_countHolders 68 = .ok (.aload_n 0, 1) := by decide +kernel
theorem d_M_countHolders_69 : decode c_M_countHolders 69 = .ok (.iload_n 3, 1) := by decide +kernel
theorem d_M_countHolders_70 : decode c_M_countHolders 70 = .ok (.invokevirtual 123, 3) := by decide +kernel
theorem d_M_countHolders_73 : decode c_M_countHolders 73 = .ok (.iadd, 1) := by decide +kernel
theorem d_M_countHolders_74 : decode c_M_countHolders 74 = .ok (.iadd, 1) := by decide +kernel
theorem d_M_countHolders_75 : decode c_M_countHolders 75 = .ok (.istore_n 3, 1) := by decide +kernel
theorem d_M_countHolders_76 : decode c_M_countHolders 76 = .ok (.goto (-72), 3) := by decide +kernel
theorem d_M_countHolders_79 : decode c_M_countHolders 79 = .ok (.iload_n 2, 1) := by decide +kernel
theorem d_M_countHolders_80 : decode c_M_countHolders 80 = .ok (.ireturn, 1) := by decide +kernel
theorem d_T_init_0 : decode c_T_init 0 = .ok (.aload_n 0, 1) := by decide +kernel
theorem d_T_init_1 : decode c_T_init 1 = .ok (.invokespecial 1, 3) := by decide +kernel
theorem d_T_init_4 : decode c_T_init 4 = .ok (.aload_n 0, 1) := by decide +kernel
theorem d_T_init_5 : decode c_T_init 5 = .ok (.bipush 32, 2) := by decide +kernel
theorem d_T_init_7 : decode c_T_init 7 = .ok (.newarray .int, 2) := by decide +kernel
theorem d_T_init_9 : decode c_T_init 9 = .ok (.putfield 9, 3) := by decide +kernel
theorem d_T_init_12 : decode c_T_init 12 = .ok (.aload_n 0, 1) := by decide +kernel
theorem d_T_init_13 : decode c_T_init 13 = .ok (.new 13, 3) := by decide +kernel
theorem d_T_init_16 : decode c_T_init 16 = .ok (.dup, 1) := by decide +kernel
theorem d_T_init_17 : decode c_T_init 17 = .ok (.iload_n 1, 1) := by decide +kernel
theorem d_T_init_18 : decode c_T_init 18 = .ok (.bipush 64, 2) := by decide +kernel
theorem d_T_init_20 : decode c_T_init 20 = .ok (.ldc 15, 2) := by decide +kernel
theorem d_T_init_22 : decode c_T_init 22 = .ok (.invokestatic 16, 3) := by decide +kernel
theorem d_T_init_25 : decode c_T_init 25 = .ok (.ifCond .eq 7, 3) := by decide +kernel
theorem d_T_init_28 : decode c_T_init 28 = .ok (.iload_n 1, 1) := by decide +kernel
theorem d_T_init_29 : decode c_T_init 29 = .ok (.goto 5, 3) := by decide +kernel
theorem d_T_init_32 : decode c_T_init 32 = .ok (.ldc 15, 2) := by decide +kernel
theorem d_T_init_34 : decode c_T_init 34 = .ok (.iload_n 2, 1) := by decide +kernel
theorem d_T_init_35 : decode c_T_init 35 = .ok (.bipush 16, 2) := by decide +kernel
theorem d_T_init_37 : decode c_T_init 37 = .ok (.sipush 8192, 3) := by decide +kernel
theorem d_T_init_40 : decode c_T_init 40 = .ok (.invokestatic 16, 3) := by decide +kernel
theorem d_T_init_43 : decode c_T_init 43 = .ok (.ifCond .eq 7, 3) := by decide +kernel
theorem d_T_init_46 : decode c_T_init 46 = .ok (.iload_n 2, 1) := by decide +kernel
theorem d_T_init_47 : decode c_T_init 47 = .ok (.goto 6, 3) := by decide +kernel
theorem d_T_init_50 : decode c_T_init 50 = .ok (.sipush 8192, 3) := by decide +kernel
theorem d_T_init_53 : decode c_T_init 53 = .ok (.invokespecial 20, 3) := by decide +kernel
theorem d_T_init_56 : decode c_T_init 56 = .ok (.putfield 23, 3) := by decide +kernel
theorem d_T_init_59 : decode c_T_init 59 = .ok (.return_, 1) := by decide +kernel
theorem d_T_number_0 : decode c_T_number 0 = .ok (.iload_n 1, 1) := by decide +kernel
theorem d_T_number_1 : decode c_T_number 1 = .ok (.invokestatic 27, 3) := by decide +kernel
theorem d_T_number_4 : decode c_T_number 4 = .ok (.iload_n 2, 1) := by decide +kernel
theorem d_T_number_5 : decode c_T_number 5 = .ok (.ldc 31, 2) := by decide +kernel
theorem d_T_number_7 : decode c_T_number 7 = .ok (.ldc 32, 2) := by decide +kernel
theorem d_T_number_9 : decode c_T_number 9 = .ok (.invokestatic 33, 3) := by decide +kernel
theorem d_T_number_12 : decode c_T_number 12 = .ok (.aload_n 0, 1) := by decide +kernel
theorem d_T_number_13 : decode c_T_number 13 = .ok (.iload_n 1, 1) := by decide +kernel
theorem d_T_number_14 : decode c_T_number 14 = .ok (.iload_n 2, 1) := by decide +kernel
theorem d_T_number_15 : decode c_T_number 15 = .ok (.invokestatic 37, 3) := by decide +kernel
theorem d_T_number_18 : decode c_T_number 18 = .ok (.invokevirtual 43, 3) := by decide +kernel
theorem d_T_number_21 : decode c_T_number 21 = .ok (.return_, 1) := by decide +kernel
theorem d_T_move_0 : decode c_T_move 0 = .ok (.iload_n 1, 1) := by decide +kernel
theorem d_T_move_1 : decode c_T_move 1 = .ok (.invokestatic 27, 3) := by decide +kernel
theorem d_T_move_4 : decode c_T_move 4 = .ok (.iload_n 2, 1) := by decide +kernel
theorem d_T_move_5 : decode c_T_move 5 = .ok (.invokestatic 27, 3) := by decide +kernel
theorem d_T_move_8 : decode c_T_move 8 = .ok (.aload_n 0, 1) := by decide +kernel
theorem d_T_move_9 : decode c_T_move 9 = .ok (.iload_n 1, 1) := by decide +kernel
theorem d_T_move_10 : decode c_T_move 10 = .ok (.aload_n 0, 1) := by decide +kernel
theorem d_T_move_11 : decode c_T_move 11 = .ok (.getfield 9, 3) := by decide +kernel
theorem d_T_move_14 : decode c_T_move 14 = .ok (.iload_n 2, 1) := by decide +kernel
theorem d_T_move_15 : decode c_T_move 15 = .ok (.iaload, 1) := by decide +kernel
theorem d_T_move_16 : decode c_T_move 16 = .ok (.invokevirtual 43, 3) := by decide +kernel
theorem d_T_move_19 : decode c_T_move 19 = .ok (.return_, 1) := by decide +kernel
theorem d_T_clear_0 : decode c_T_clear 0 = .ok (.iload_n 1, 1) := by decide +kernel
theorem d_T_clear_1 : decode c_T_clear 1 = .ok (.invokestatic 27, 3) := by decide +kernel
theorem d_T_clear_4 : decode c_T_clear 4 = .ok (.aload_n 0, 1) := by decide +kernel
theorem d_T_clear_5 : decode c_T_clear 5 = .ok (.iload_n 1, 1) := by decide +kernel
theorem d_T_clear_6 : decode c_T_clear 6 = .ok (.iconst 0, 1) := by decide +kernel
theorem d_T_clear_7 : decode c_T_clear 7 = .ok (.invokevirtual 43, 3) := by decide +kernel
theorem d_T_clear_10 : decode c_T_clear 10 = .ok (.return_, 1) := by decide +kernel
theorem d_T_make_0 : decode c_T_make 0 = .ok (.iload_n 1, 1) := by decide +kernel
theorem d_T_make_1 : decode c_T_make 1 = .ok (.invokestatic 27, 3) := by decide +kernel
theorem d_T_make_4 : decode c_T_make 4 = .ok (.iload_n 2, 1) := by decide +kernel
theorem d_T_make_5 : decode c_T_make 5 = .ok (.invokestatic 27, 3) := by decide +kernel
theorem d_T_make_8 : decode c_T_make 8 = .ok (.iload_n 3, 1) := by decide +kernel
theorem d_T_make_9 : decode c_T_make 9 = .ok (.iconst 0, 1) := by decide +kernel
theorem d_T_make_10 : decode c_T_make 10 = .ok (.iload 4, 2) := by decide +kernel
theorem d_T_make_12 : decode c_T_make 12 = .ok (.ifCond .eq 9, 3) := by decide +kernel
theorem d_T_make_15 : decode c_T_make 15 = .ok (.sipush 4000, 3) := by decide +kernel
theorem d_T_make_18 : decode c_T_make 18 = .ok (.goto 6, 3) := by decide +kernel
theorem d_T_make_21 : decode c_T_make 21 = .ok (.sipush 16000, 3) := by decide +kernel
theorem d_T_make_24 : decode c_T_make 24 = .ok (.invokestatic 33, 3) := by decide +kernel
theorem d_T_make_27 : decode c_T_make 27 = .ok (.aload_n 0, 1) := by decide +kernel
theorem d_T_make_28 : decode c_T_make 28 = .ok (.getfield 23, 3) := by decide +kernel
theorem d_T_make_31 : decode c_T_make 31 = .ok (.aload_n 0, 1) := by decide +kernel
theorem d_T_make_32 : decode c_T_make 32 = .ok (.getfield 9, 3) := by decide +kernel
theorem d_T_make_35 : decode c_T_make 35 = .ok (.iload_n 2, 1) := by decide +kernel
theorem d_T_make_36 : decode c_T_make 36 = .ok (.iaload, 1) := by decide +kernel
theorem d_T_make_37 : decode c_T_make 37 = .ok (.iload_n 3, 1) := by decide +kernel
theorem d_T_make_38 : decode c_T_make 38 = .ok (.iload 4, 2) := by decide +kernel
theorem d_T_make_40 : decode c_T_make 40 = .ok (.invokestatic 46, 3) := by decide +kernel
theorem d_T_make_43 : decode c_T_make 43 = .ok (.aload_n 0, 1) := by decide +kernel
theorem d_T_make_44 : decode c_T_make 44 = .ok (.getfield 9, 3) := by decide +kernel
theorem d_T_make_47 : decode c_T_make 47 = .ok (.invokevirtual 50, 3) := by decide +kernel
theorem d_T_make_50 : decode c_T_make 50 = .ok (.istore 5, 2) := by decide +kernel
theorem d_T_make_52 : decode c_T_make 52 = .ok (.iload 5, 2) := by decide +kernel
theorem d_T_make_54 : decode c_T_make 54 = .ok (.invokestatic 54, 3) := by decide +kernel
theorem d_T_make_57 : decode c_T_make 57 = .ok (.aload_n 0, 1) := by decide +kernel
theorem d_T_make_58 : decode c_T_make 58 = .ok (.iload_n 1, 1) := by decide +kernel
theorem d_T_make_59 : decode c_T_make 59 = .ok (.iload 5, 2) := by decide +kernel
theorem d_T_make_61 : decode c_T_make 61 = .ok (.invokevirtual 43, 3) := by decide +kernel
theorem d_T_make_64 : decode c_T_make 64 = .ok (.aload_n 0, 1) := by decide +kernel
theorem d_T_make_65 : decode c_T_make 65 = .ok (.getfield 23, 3) := by decide +kernel
theorem d_T_make_68 : decode c_T_make 68 = .ok (.iload 5, 2) := by decide +kernel
theorem d_T_make_70 : decode c_T_make 70 = .ok (.invokevirtual 57, 3) := by decide +kernel
theorem d_T_make_73 : decode c_T_make 73 = .ok (.ireturn, 1) := by decide +kernel
theorem d_T_copy_0 : decode c_T_copy 0 = .ok (.iload_n 1, 1) := by decide +kernel
theorem d_T_copy_1 : decode c_T_copy 1 = .ok (.invokestatic 27, 3) := by decide +kernel
theorem d_T_copy_4 : decode c_T_copy 4 = .ok (.aload_n 0, 1) := by decide +kernel
theorem d_T_copy_5 : decode c_T_copy 5 = .ok (.iload_n 2, 1) := by decide +kernel
theorem d_T_copy_6 : decode c_T_copy 6 = .ok (.invokevirtual 60, 3) := by decide +kernel
theorem d_T_copy_9 : decode c_T_copy 9 = .ok (.aload_n 0, 1) := by decide +kernel
theorem d_T_copy_10 : decode c_T_copy 10 = .ok (.getfield 23, 3) := by decide +kernel
theorem d_T_copy_13 : decode c_T_copy 13 = .ok (.aload_n 0, 1) := by decide +kernel
theorem d_T_copy_14 : decode c_T_copy 14 = .ok (.getfield 9, 3) := by decide +kernel
theorem d_T_copy_17 : decode c_T_copy 17 = .ok (.iload_n 2, 1) := by decide +kernel
theorem d_T_copy_18 : decode c_T_copy 18 = .ok (.iaload, 1) := by decide +kernel
theorem d_T_copy_19 : decode c_T_copy 19 = .ok (.aload_n 0, 1) := by decide +kernel
theorem d_T_copy_20 : decode c_T_copy 20 = .ok (.getfield 9, 3) := by decide +kernel
theorem d_T_copy_23 : decode c_T_copy 23 = .ok (.invokevirtual 63, 3) := by decide +kernel
theorem d_T_copy_26 : decode c_T_copy 26 = .ok (.istore_n 3, 1) := by decide +kernel
theorem d_T_copy_27 : decode c_T_copy 27 = .ok (.iload_n 3, 1) := by decide +kernel
theorem d_T_copy_28 : decode c_T_copy 28 = .ok (.invokestatic 54, 3) := by decide +kernel
theorem d_T_copy_31 : decode c_T_copy 31 = .ok (.aload_n 0, 1) := by decide +kernel
theorem d_T_copy_32 : decode c_T_copy 32 = .ok (.iload_n 1, 1) := by decide +kernel
theorem d_T_copy_33 : decode c_T_copy 33 = .ok (.iload_n 3, 1) := by decide +kernel
theorem d_T_copy_34 : decode c_T_copy 34 = .ok (.invokevirtual 43, 3) := by decide +kernel
theorem d_T_copy_37 : decode c_T_copy 37 = .ok (.aload_n 0, 1) := by decide +kernel
theorem d_T_copy_38 : decode c_T_copy 38 = .ok (.getfield 23, 3) := by decide +kernel
theorem d_T_copy_41 : decode c_T_copy 41 = .ok (.iload_n 3, 1) := by decide +kernel
theorem d_T_copy_42 : decode c_T_copy 42 = .ok (.invokevirtual 57, 3) := by decide +kernel
theorem d_T_copy_45 : decode c_T_copy 45 = .ok (.ireturn, 1) := by decide +kernel
theorem d_T_chain_0 : decode c_T_chain 0 = .ok (.iload_n 1, 1) := by decide +kernel
theorem d_T_chain_1 : decode c_T_chain 1 = .ok (.invokestatic 27, 3) := by decide +kernel
theorem d_T_chain_4 : decode c_T_chain 4 = .ok (.iload_n 2, 1) := by decide +kernel
theorem d_T_chain_5 : decode c_T_chain 5 = .ok (.invokestatic 27, 3) := by decide +kernel
theorem d_T_chain_8 : decode c_T_chain 8 = .ok (.iload_n 3, 1) := by decide +kernel
theorem d_T_chain_9 : decode c_T_chain 9 = .ok (.iconst 1, 1) := by decide +kernel
theorem d_T_chain_10 : decode c_T_chain 10 = .ok (.bipush 100, 2) := by decide +kernel
theorem d_T_chain_12 : decode c_T_chain 12 = .ok (.invokestatic 33, 3) := by decide +kernel
theorem d_T_chain_15 : decode c_T_chain 15 = .ok (.iload 4, 2) := by decide +kernel
theorem d_T_chain_17 : decode c_T_chain 17 = .ok (.iconst 1, 1) := by decide +kernel
theorem d_T_chain_18 : decode c_T_chain 18 = .ok (.sipush 4000, 3) := by decide +kernel
theorem d_T_chain_21 : decode c_T_chain 21 = .ok (.invokestatic 33, 3) := by decide +kernel
theorem d_T_chain_24 : decode c_T_chain 24 = .ok (.iload_n 3, 1) := by decide +kernel
theorem d_T_chain_25 : decode c_T_chain 25 = .ok (.iconst 1, 1) := by decide +kernel
theorem d_T_chain_26 : decode c_T_chain 26 = .ok (.invokestatic 46, 3) := by decide +kernel
theorem d_T_chain_29 : decode c_T_chain 29 = .ok (.istore 5, 2) := by decide +kernel
theorem d_T_chain_31 : decode c_T_chain 31 = .ok (.iconst 0, 1) := by decide +kernel
theorem d_T_chain_32 : decode c_T_chain 32 = .ok (.istore 6, 2) := by decide +kernel
theorem d_T_chain_34 : decode c_T_chain 34 = .ok (.iload 6, 2) := by decide +kernel
theorem d_T_chain_36 : decode c_T_chain 36 = .ok (.iload 4, 2) := by decide +kernel
theorem d_T_chain_38 : decode c_T_chain 38 = .ok (.if_icmp .ge 62, 3) := by decide +kernel
theorem d_T_chain_41 : decode c_T_chain 41 = .ok (.aload_n 0, 1) := by decide +kernel
theorem d_T_chain_42 : decode c_T_chain 42 = .ok (.getfield 23, 3) := by decide +kernel
theorem d_T_chain_45 : decode c_T_chain 45 = .ok (.aload_n 0, 1) := by decide +kernel
theorem d_T_chain_46 : decode c_T_chain 46 = .ok (.getfield 9, 3) := by decide +kernel
theorem d_T_chain_49 : decode c_T_chain 49 = .ok (.iload_n 2, 1) := by decide +kernel
theorem d_T_chain_50 : decode c_T_chain 50 = .ok (.iaload, 1) := by decide +kernel
theorem d_T_chain_51 : decode c_T_chain 51 = .ok (.iload 5, 2) := by decide +kernel
theorem d_T_chain_53 : decode c_T_chain 53 = .ok (.aload_n 0, 1) := by decide +kernel
theorem d_T_chain_54 : decode c_T_chain 54 = .ok (.getfield 9, 3) := by decide +kernel
theorem d_T_chain_57 : decode c_T_chain 57 = .ok (.invokevirtual 50, 3) := by decide +kernel
theorem d_T_chain_60 : decode c_T_chain 60 = .ok (.istore 7, 2) := by decide +kernel
theorem d_T_chain_62 : decode c_T_chain 62 = .ok (.iload 7, 2) := by decide +kernel
theorem d_T_chain_64 : decode c_T_chain 64 = .ok (.ifCond .ne 6, 3) := by decide +kernel
theorem d_T_chain_67 : decode c_T_chain 67 = .ok (.iload 6, 2) := by decide +kernel
theorem d_T_chain_69 : decode c_T_chain 69 = .ok (.ireturn, 1) := by decide +kernel
theorem d_T_chain_70 : decode c_T_chain 70 = .ok (.aload_n 0, 1) := by decide +kernel
theorem d_T_chain_71 : decode c_T_chain 71 = .ok (.getfield 23, 3) := by decide +kernel
theorem d_T_chain_74 : decode c_T_chain 74 = .ok (.iload 7, 2) := by decide +kernel
theorem d_T_chain_76 : decode c_T_chain 76 = .ok (.iconst 0, 1) := by decide +kernel
theorem d_T_chain_77 : decode c_T_chain 77 = .ok (.aload_n 0, 1) := by decide +kernel
theorem d_T_chain_78 : decode c_T_chain 78 = .ok (.getfield 9, 3) := by decide +kernel
theorem d_T_chain_81 : decode c_T_chain 81 = .ok (.iload_n 1, 1) := by decide +kernel
theorem d_T_chain_82 : decode c_T_chain 82 = .ok (.iaload, 1) := by decide +kernel
theorem d_T_chain_83 : decode c_T_chain 83 = .ok (.invokevirtual 67, 3) := by decide +kernel
theorem d_T_chain_86 : decode c_T_chain 86 = .ok (.aload_n 0, 1) := by decide +kernel
theorem d_T_chain_87 : decode c_T_chain 87 = .ok (.getfield 9, 3) := by decide +kernel
theorem d_T_chain_90 : decode c_T_chain 90 = .ok (.iload_n 1, 1) := by decide +kernel
theorem d_T_chain_91 : decode c_T_chain 91 = .ok (.iload 7, 2) := by decide +kernel
theorem d_T_chain_93 : decode c_T_chain 93 = .ok (.iastore, 1) := by decide +kernel
theorem d_T_chain_94 : decode c_T_chain 94 = .ok (.iinc 6 1, 3) := by decide +kernel
theorem d_T_chain_97 : decode c_T_chain 97 = .ok (.goto (-63), 3) := by decide +kernel
theorem d_T_chain_100 : decode c_T_chain 100 = .ok (.iload 4, 2) := by decide +kernel
theorem d_T_chain_102 : decode c_T_chain 102 = .ok (.ireturn, 1) := by decide +kernel
theorem d_T_get_0 : decode c_T_get 0 = .ok (.iload_n 1, 1) := by decide +kernel
theorem d_T_get_1 : decode c_T_get 1 = .ok (.invokestatic 27, 3) := by decide +kernel
theorem d_T_get_4 : decode c_T_get 4 = .ok (.aload_n 0, 1) := by decide +kernel
theorem d_T_get_5 : decode c_T_get 5 = .ok (.iload_n 2, 1) := by decide +kernel
theorem d_T_get_6 : decode c_T_get 6 = .ok (.invokevirtual 70, 3) := by decide +kernel
theorem d_T_get_9 : decode c_T_get 9 = .ok (.aload_n 0, 1) := by decide +kernel
theorem d_T_get_10 : decode c_T_get 10 = .ok (.iload_n 2, 1) := by decide +kernel
theorem d_T_get_11 : decode c_T_get 11 = .ok (.iload_n 3, 1) := by decide +kernel
theorem d_T_get_12 : decode c_T_get 12 = .ok (.invokevirtual 73, 3) := by decide +kernel
theorem d_T_get_15 : decode c_T_get 15 = .ok (.aload_n 0, 1) := by decide +kernel
theorem d_T_get_16 : decode c_T_get 16 = .ok (.iload_n 1, 1) := by decide +kernel
theorem d_T_get_17 : decode c_T_get 17 = .ok (.aload_n 0, 1) := by decide +kernel
theorem d_T_get_18 : decode c_T_get 18 = .ok (.getfield 23, 3) := by decide +kernel
theorem d_T_get_21 : decode c_T_get 21 = .ok (.aload_n 0, 1) := by decide +kernel
theorem d_T_get_22 : decode c_T_get 22 = .ok (.getfield 9, 3) := by decide +kernel
theorem d_T_get_25 : decode c_T_get 25 = .ok (.iload_n 2, 1) := by decide +kernel
theorem d_T_get_26 : decode c_T_get 26 = .ok (.iaload, 1) := by decide +kernel
theorem d_T_get_27 : decode c_T_get 27 = .ok (.iload_n 3, 1) := by decide +kernel
theorem d_T_get_28 : decode c_T_get 28 = .ok (.invokevirtual 76, 3) := by decide +kernel
theorem d_T_get_31 : decode c_T_get 31 = .ok (.invokevirtual 43, 3) := by decide +kernel
theorem d_T_get_34 : decode c_T_get 34 = .ok (.return_, 1) := by decide +kernel
theorem d_T_put_0 : decode c_T_put 0 = .ok (.iload_n 3, 1) := by decide +kernel
theorem d_T_put_1 : decode c_T_put 1 = .ok (.invokestatic 27, 3) := by decide +kernel
theorem d_T_put_4 : decode c_T_put 4 = .ok (.aload_n 0, 1) := by decide +kernel
theorem d_T_put_5 : decode c_T_put 5 = .ok (.iload_n 1, 1) := by decide +kernel
theorem d_T_put_6 : decode c_T_put 6 = .ok (.invokevirtual 70, 3) := by decide +kernel
theorem d_T_put_9 : decode c_T_put 9 = .ok (.aload_n 0, 1) := by decide +kernel
theorem d_T_put_10 : decode c_T_put 10 = .ok (.iload_n 1, 1) := by decide +kernel
theorem d_T_put_11 : decode c_T_put 11 = .ok (.iload_n 2, 1) := by decide +kernel
theorem d_T_put_12 : decode c_T_put 12 = .ok (.invokevirtual 73, 3) := by decide +kernel
theorem d_T_put_15 : decode c_T_put 15 = .ok (.aload_n 0, 1) := by decide +kernel
theorem d_T_put_16 : decode c_T_put 16 = .ok (.getfield 23, 3) := by decide +kernel
theorem d_T_put_19 : decode c_T_put 19 = .ok (.aload_n 0, 1) := by decide +kernel
theorem d_T_put_20 : decode c_T_put 20 = .ok (.getfield 9, 3) := by decide +kernel
theorem d_T_put_23 : decode c_T_put 23 = .ok (.iload_n 1, 1) := by decide +kernel
theorem d_T_put_24 : decode c_T_put 24 = .ok (.iaload, 1) := by decide +kernel
theorem d_T_put_25 : decode c_T_put 25 = .ok (.iload_n 2, 1) := by decide +kernel
theorem d_T_put_26 : decode c_T_put 26 = .ok (.aload_n 0, 1) := by decide +kernel
theorem d_T_put_27 : decode c_T_put 27 = .ok (.getfield 9, 3) := by decide +kernel
theorem d_T_put_30 : decode c_T_put 30 = .ok (.iload_n 3, 1) := by decide +kernel
theorem d_T_put_31 : decode c_T_put 31 = .ok (.iaload, 1) := by decide +kernel
theorem d_T_put_32 : decode c_T_put 32 = .ok (.invokevirtual 67, 3) := by decide +kernel
theorem d_T_put_35 : decode c_T_put 35 = .ok (.return_, 1) := by decide +kernel
theorem d_T_walk_0 : decode c_T_walk 0 = .ok (.iload_n 1, 1) := by decide +kernel
theorem d_T_walk_1 : decode c_T_walk 1 = .ok (.invokestatic 27, 3) := by decide +kernel
theorem d_T_walk_4 : decode c_T_walk 4 = .ok (.iload_n 3, 1) := by decide +kernel
theorem d_T_walk_5 : decode c_T_walk 5 = .ok (.iconst 0, 1) := by decide +kernel
theorem d_T_walk_6 : decode c_T_walk 6 = .ok (.sipush 10000, 3) := by decide +kernel
theorem d_T_walk_9 : decode c_T_walk 9 = .ok (.invokestatic 33, 3) := by decide +kernel
theorem d_T_walk_12 : decode c_T_walk 12 = .ok (.aload_n 0, 1) := by decide +kernel
theorem d_T_walk_13 : decode c_T_walk 13 = .ok (.getfield 9, 3) := by decide +kernel
theorem d_T_walk_16 : decode c_T_walk 16 = .ok (.iload_n 1, 1) := by decide +kernel
theorem d_T_walk_17 : decode c_T_walk 17 = .ok (.iaload, 1) := by decide +kernel
theorem d_T_walk_18 : decode c_T_walk 18 = .ok (.istore 4, 2) := by decide +kernel
theorem d_T_walk_20 : decode c_T_walk 20 = .ok (.iconst 0, 1) := by decide +kernel
theorem d_T_walk_21 : decode c_T_walk 21 = .ok (.istore 5, 2) := by decide +kernel
theorem d_T_walk_23 : decode c_T_walk 23 = .ok (.iload 5, 2) := by decide +kernel
theorem d_T_walk_25 : decode c_T_walk 25 = .ok (.iload_n 3, 1) := by decide +kernel
theorem d_T_walk_26 : decode c_T_walk 26 = .ok (.if_icmp .ge 52, 3) := by decide +kernel
theorem d_T_walk_29 : decode c_T_walk 29 = .ok (.aload_n 0, 1) := by decide +kernel
theorem d_T_walk_30 : decode c_T_walk 30 = .ok (.getfield 23, 3) := by decide +kernel
theorem d_T_walk_33 : decode c_T_walk 33 = .ok (.iload 4, 2) := by decide +kernel
theorem d_T_walk_35 : decode c_T_walk 35 = .ok (.invokevirtual 80, 3) := by decide +kernel
theorem d_T_walk_38 : decode c_T_walk 38 = .ok (.ifCond .eq 40, 3) := by decide +kernel
theorem d_T_walk_41 : decode c_T_walk 41 = .ok (.iload_n 2, 1) := by decide +kernel
theorem d_T_walk_42 : decode c_T_walk 42 = .ok (.iconst 0, 1) := by decide +kernel
theorem d_T_walk_43 : decode c_T_walk 43 = .ok (.aload_n 0, 1) := by decide +kernel
theorem d_T_walk_44 : decode c_T_walk 44 = .ok (.getfield 23, 3) := by decide +kernel
theorem d_T_walk_47 : decode c_T_walk 47 = .ok (.iload 4, 2) := by decide +kernel
theorem d_T_walk_49 : decode c_T_walk 49 = .ok (.invokevirtual 84, 3) := by decide +kernel
theorem d_T_walk_52 : decode c_T_walk 52 = .ok (.iconst 1, 1) := by decide +kernel
theorem d_T_walk_53 : decode c_T_walk 53 = .ok (.isub, 1) := by decide +kernel
theorem d_T_walk_54 : decode c_T_walk 54 = .ok (.invokestatic 16, 3) := by decide +kernel
theorem d_T_walk_57 : decode c_T_walk 57 = .ok (.ifCond .eq 21, 3) := by decide +kernel
theorem d_T_walk_60 : decode c_T_walk 60 = .ok (.aload_n 0, 1) := by decide +kernel
theorem d_T_walk_61 : decode c_T_walk 61 = .ok (.getfield 23, 3) := by decide +kernel
theorem d_T_walk_64 : decode c_T_walk 64 = .ok (.iload 4, 2) := by decide +kernel
theorem d_T_walk_66 : decode c_T_walk 66 = .ok (.iload_n 2, 1) := by decide +kernel
theorem d_T_walk_67 : decode c_T_walk 67 = .ok (.invokevirtual 76, 3) := by decide +kernel
theorem d_T_walk_70 : decode c_T_walk 70 = .ok (.istore 4, 2) := by decide +kernel
theorem d_T_walk_72 : decode c_T_walk 72 = .ok (.iinc 5 1, 3) := by decide +kernel
theorem d_T_walk_75 : decode c_T_walk 75 = .ok (.goto (-52), 3) := by decide +kernel
theorem d_T_walk_78 : decode c_T_walk 78 = .ok (.aload_n 0, 1) := by decide +kernel
theorem d_T_walk_79 : decode c_T_walk 79 = .ok (.iload_n 1, 1) := by decide +kernel
theorem d_T_walk_80 : decode c_T_walk 80 = .ok (.iload 4, 2) := by decide +kernel
theorem d_T_walk_82 : decode c_T_walk 82 = .ok (.invokevirtual 43, 3) := by decide +kernel
theorem d_T_walk_85 : decode c_T_walk 85 = .ok (.iload 5, 2) := by decide +kernel
theorem d_T_walk_87 : decode c_T_walk 87 = .ok (.ireturn, 1) := by decide +kernel
theorem d_T_classOf_0 : decode c_T_classOf 0 = .ok (.iload_n 1, 1) := by decide +kernel
theorem d_T_classOf_1 : decode c_T_classOf 1 = .ok (.invokestatic 27, 3) := by decide +kernel
theorem d_T_classOf_4 : decode c_T_classOf 4 = .ok (.aload_n 0, 1) := by decide +kernel
theorem d_T_classOf_5 : decode c_T_classOf 5 = .ok (.iload_n 2, 1) := by decide +kernel
theorem d_T_classOf_6 : decode c_T_classOf 6 = .ok (.invokevirtual 60, 3) := by decide +kernel
theorem d_T_classOf_9 : decode c_T_classOf 9 = .ok (.aload_n 0, 1) := by decide +kernel
theorem d_T_classOf_10 : decode c_T_classOf 10 = .ok (.iload_n 1, 1) := by decide +kernel
theorem d_T_classOf_11 : decode c_T_classOf 11 = .ok (.aload_n 0, 1) := by decide +kernel
theorem d_T_classOf_12 : decode c_T_classOf 12 = .ok (.getfield 23, 3) := by decide +kernel
theorem d_T_classOf_15 : decode c_T_classOf 15 = .ok (.aload_n 0, 1) := by decide +kernel
theorem d_T_classOf_16 : decode c_T_classOf 16 = .ok (.getfield 9, 3) := by decide +kernel
theorem d_T_classOf_19 : decode c_T_classOf 19 = .ok (.iload_n 2, 1) := by decide +kernel
theorem d_T_classOf_20 : decode c_T_classOf 20 = .ok (.iaload, 1) := by decide +kernel
theorem d_T_classOf_21 : decode c_T_classOf 21 = .ok (.invokevirtual 87, 3) := by decide +kernel
theorem d_T_classOf_24 : decode c_T_classOf 24 = .ok (.invokevirtual 43, 3) := by decide +kernel
theorem d_T_classOf_27 : decode c_T_classOf 27 = .ok (.return_, 1) := by decide +kernel
theorem d_T_setClass_0 : decode c_T_setClass 0 = .ok (.aload_n 0, 1) := by decide +kernel
theorem d_T_setClass_1 : decode c_T_setClass 1 = .ok (.iload_n 1, 1) := by decide +kernel
theorem d_T_setClass_2 : decode c_T_setClass 2 = .ok (.invokevirtual 60, 3) := by decide +kernel
theorem d_T_setClass_5 : decode c_T_setClass 5 = .ok (.iload_n 2, 1) := by decide +kernel
theorem d_T_setClass_6 : decode c_T_setClass 6 = .ok (.invokestatic 27, 3) := by decide +kernel
theorem d_T_setClass_9 : decode c_T_setClass 9 = .ok (.aload_n 0, 1) := by decide +kernel
theorem d_T_setClass_10 : decode c_T_setClass 10 = .ok (.getfield 23, 3) := by decide +kernel
theorem d_T_setClass_13 : decode c_T_setClass 13 = .ok (.aload_n 0, 1) := by decide +kernel
theorem d_T_setClass_14 : decode c_T_setClass 14 = .ok (.getfield 9, 3) := by decide +kernel
theorem d_T_setClass_17 : decode c_T_setClass 17 = .ok (.iload_n 1, 1) := by decide +kernel
theorem d_T_setClass_18 : decode c_T_setClass 18 = .ok (.iaload, 1) := by decide +kernel
theorem d_T_setClass_19 : decode c_T_setClass 19 = .ok (.aload_n 0, 1) := by decide +kernel
theorem d_T_setClass_20 : decode c_T_setClass 20 = .ok (.getfield 9, 3) := by decide +kernel
theorem d_T_setClass_23 : decode c_T_setClass 23 = .ok (.iload_n 2, 1) := by decide +kernel
theorem d_T_setClass_24 : decode c_T_setClass 24 = .ok (.iaload, 1) := by decide +kernel
theorem d_T_setClass_25 : decode c_T_setClass 25 = .ok (.invokevirtual 90, 3) := by decide +kernel
theorem d_T_setClass_28 : decode c_T_setClass 28 = .ok (.return_, 1) := by decide +kernel
theorem d_T_byteAt_0 : decode c_T_byteAt 0 = .ok (.aload_n 0, 1) := by decide +kernel
theorem d_T_byteAt_1 : decode c_T_byteAt 1 = .ok (.iload_n 1, 1) := by decide +kernel
theorem d_T_byteAt_2 : decode c_T_byteAt 2 = .ok (.invokevirtual 93, 3) := by decide +kernel
theorem d_T_byteAt_5 : decode c_T_byteAt 5 = .ok (.aload_n 0, 1) := by decide +kernel
theorem d_T_byteAt_6 : decode c_T_byteAt 6 = .ok (.iload_n 1, 1) := by decide +kernel
theorem d_T_byteAt_7 : decode c_T_byteAt 7 = .ok (.iload_n 2, 1) := by decide +kernel
theorem d_T_byteAt_8 : decode c_T_byteAt 8 = .ok (.invokevirtual 73, 3) := by decide +kernel
theorem d_T_byteAt_11 : decode c_T_byteAt 11 = .ok (.aload_n 0, 1) := by decide +kernel
theorem d_T_byteAt_12 : decode c_T_byteAt 12 = .ok (.getfield 23, 3) := by decide +kernel
theorem d_T_byteAt_15 : decode c_T_byteAt 15 = .ok (.aload_n 0, 1) := by decide +kernel
theorem d_T_byteAt_16 : decode c_T_byteAt 16 = .ok (.getfield 9, 3) := by decide +kernel
theorem d_T_byteAt_19 : decode c_T_byteAt 19 = .ok (.iload_n 1, 1) := by decide +kernel
theorem d_T_byteAt_20 : decode c_T_byteAt 20 = .ok (.iaload, 1) := by decide +kernel
theorem d_T_byteAt_21 : decode c_T_byteAt 21 = .ok (.iload_n 2, 1) := by decide +kernel
theorem d_T_byteAt_22 : decode c_T_byteAt 22 = .ok (.invokevirtual 96, 3) := by decide +kernel
theorem d_T_byteAt_25 : decode c_T_byteAt 25 = .ok (.ireturn, 1) := by decide +kernel
theorem d_T_bytePut_0 : decode c_T_bytePut 0 = .ok (.aload_n 0, 1) := by decide +kernel
theorem d_T_bytePut_1 : decode c_T_bytePut 1 = .ok (.iload_n 1, 1) := by decide +kernel
theorem d_T_bytePut_2 : decode c_T_bytePut 2 = .ok (.invokevirtual 93, 3) := by decide +kernel
theorem d_T_bytePut_5 : decode c_T_bytePut 5 = .ok (.aload_n 0, 1) := by decide +kernel
theorem d_T_bytePut_6 : decode c_T_bytePut 6 = .ok (.iload_n 1, 1) := by decide +kernel
theorem d_T_bytePut_7 : decode c_T_bytePut 7 = .ok (.iload_n 2, 1) := by decide +kernel
theorem d_T_bytePut_8 : decode c_T_bytePut 8 = .ok (.invokevirtual 73, 3) := by decide +kernel
theorem d_T_bytePut_11 : decode c_T_bytePut 11 = .ok (.aload_n 0, 1) := by decide +kernel
theorem d_T_bytePut_12 : decode c_T_bytePut 12 = .ok (.getfield 9, 3) := by decide +kernel
theorem d_T_bytePut_15 : decode c_T_bytePut 15 = .ok (.iload_n 1, 1) := by decide +kernel
theorem d_T_bytePut_16 : decode c_T_bytePut 16 = .ok (.iaload, 1) := by decide +kernel
theorem d_T_bytePut_17 : decode c_T_bytePut 17 = .ok (.istore 5, 2) := by decide +kernel
theorem d_T_bytePut_19 : decode c_T_bytePut 19 = .ok (.bipush 8, 2) := by decide +kernel
theorem d_T_bytePut_21 : decode c_T_bytePut 21 = .ok (.aload_n 0, 1) := by decide +kernel
theorem d_T_bytePut_22 : decode c_T_bytePut 22 = .ok (.getfield 23, 3) := by decide +kernel
theorem d_T_bytePut_25 : decode c_T_bytePut 25 = .ok (.iload 5, 2) := by decide +kernel
theorem d_T_bytePut_27 : decode c_T_bytePut 27 = .ok (.invokevirtual 84, 3) := by decide +kernel
theorem d_T_bytePut_30 : decode c_T_bytePut 30 = .ok (.iload_n 2, 1) := by decide +kernel
theorem d_T_bytePut_31 : decode c_T_bytePut 31 = .ok (.isub, 1) := by decide +kernel
theorem d_T_bytePut_32 : decode c_T_bytePut 32 = .ok (.invokestatic 99, 3) := by decide +kernel
theorem d_T_bytePut_35 : decode c_T_bytePut 35 = .ok (.istore 6, 2) := by decide +kernel
theorem d_T_bytePut_37 : decode c_T_bytePut 37 = .ok (.iconst 0, 1) := by decide +kernel
theorem d_T_bytePut_38 : decode c_T_bytePut 38 = .ok (.istore 7, 2) := by decide +kernel
theorem d_T_bytePut_40 : decode c_T_bytePut 40 = .ok (.iload 7, 2) := by decide +kernel
theorem d_T_bytePut_42 : decode c_T_bytePut 42 = .ok (.iload 6, 2) := by decide +kernel
theorem d_T_bytePut_44 : decode c_T_bytePut 44 = .ok (.if_icmp .ge 41, 3) := by decide +kernel
theorem d_T_bytePut_47 : decode c_T_bytePut 47 = .ok (.bipush 8, 2) := by decide +kernel
theorem d_T_bytePut_49 : decode c_T_bytePut 49 = .ok (.bipush 7, 2) := by decide +kernel
theorem d_T_bytePut_51 : decode c_T_bytePut 51 = .ok (.iload 7, 2) := by decide +kernel
theorem d_T_bytePut_53 : decode c_T_bytePut 53 = .ok (.isub, 1) := by decide +kernel
theorem d_T_bytePut_54 : decode c_T_bytePut 54 = .ok (.imul, 1) := by decide +kernel
theorem d_T_bytePut_55 : decode c_T_bytePut 55 = .ok (.istore 8, 2) := by decide +kernel
theorem d_T_bytePut_57 : decode c_T_bytePut 57 = .ok (.aload_n 0, 1) := by decide +kernel
theorem d_T_bytePut_58 : decode c_T_bytePut 58 = .ok (.getfield 23, 3) := by decide +kernel
theorem d_T_bytePut_61 : decode c_T_bytePut 61 = .ok (.iload 5, 2) := by decide +kernel
theorem d_T_bytePut_63 : decode c_T_bytePut 63 = .ok (.iload_n 2, 1) := by decide +kernel
theorem d_T_bytePut_64 : decode c_T_bytePut 64 = .ok (.iload 7, 2) := by decide +kernel
theorem d_T_bytePut_66 : decode c_T_bytePut 66 = .ok (.iadd, 1) := by decide +kernel
theorem d_T_bytePut_67 : decode c_T_bytePut 67 = .ok (.lload_n 3, 1) := by decide +kernel
theorem d_T_bytePut_68 : decode c_T_bytePut 68 = .ok (.iload 8, 2) := by decide +kernel
theorem d_T_bytePut_70 : decode c_T_bytePut 70 = .ok (.lushr, 1) := by decide +kernel
theorem d_T_bytePut_71 : decode c_T_bytePut 71 = .ok (.l2i, 1) := by decide +kernel
theorem d_T_bytePut_72 : decode c_T_bytePut 72 = .ok (.sipush 255, 3) := by decide +kernel
theorem d_T_bytePut_75 : decode c_T_bytePut 75 = .ok (.iand, 1) := by decide +kernel
theorem d_T_bytePut_76 : decode c_T_bytePut 76 = .ok (.invokevirtual 104, 3) := by decide +kernel
theorem d_T_bytePut_79 : decode c_T_bytePut 79 = .ok (.iinc 7 1, 3) := by decide +kernel
theorem d_T_bytePut_82 : decode c_T_bytePut 82 = .ok (.goto (-42), 3) := by decide +kernel
theorem d_T_bytePut_85 : decode c_T_bytePut 85 = .ok (.return_, 1) := by decide +kernel
theorem d_T_kind_0 : decode c_T_kind 0 = .ok (.iload_n 1, 1) := by decide +kernel
theorem d_T_kind_1 : decode c_T_kind 1 = .ok (.invokestatic 27, 3) := by decide +kernel
theorem d_T_kind_4 : decode c_T_kind 4 = .ok (.aload_n 0, 1) := by decide +kernel
theorem d_T_kind_5 : decode c_T_kind 5 = .ok (.getfield 9, 3) := by decide +kernel
theorem d_T_kind_8 : decode c_T_kind 8 = .ok (.iload_n 1, 1) := by decide +kernel
theorem d_T_kind_9 : decode c_T_kind 9 = .ok (.iaload, 1) := by decide +kernel
theorem d_T_kind_10 : decode c_T_kind 10 = .ok (.istore_n 2, 1) := by decide +kernel
theorem d_T_kind_11 : decode c_T_kind 11 = .ok (.iload_n 2, 1) := by decide +kernel
theorem d_T_kind_12 : decode c_T_kind 12 = .ok (.ifCond .ne 5, 3) := by decide +kernel
theorem d_T_kind_15 : decode c_T_kind 15 = .ok (.iconst 0, 1) := by decide +kernel
theorem d_T_kind_16 : decode c_T_kind 16 = .ok (.ireturn, 1) := by decide +kernel
theorem d_T_kind_17 : decode c_T_kind 17 = .ok (.iload_n 2, 1) := by decide +kernel
theorem d_T_kind_18 : decode c_T_kind 18 = .ok (.invokestatic 107, 3) := by decide +kernel
theorem d_T_kind_21 : decode c_T_kind 21 = .ok (.ifCond .eq 5, 3) := by decide +kernel
theorem d_T_kind_24 : decode c_T_kind 24 = .ok (.iconst 1, 1) := by decide +kernel
theorem d_T_kind_25 : decode c_T_kind 25 = .ok (.ireturn, 1) := by decide +kernel
theorem d_T_kind_26 : decode c_T_kind 26 = .ok (.aload_n 0, 1) := by decide +kernel
theorem d_T_kind_27 : decode c_T_kind 27 = .ok (.getfield 23, 3) := by decide +kernel
theorem d_T_kind_30 : decode c_T_kind 30 = .ok (.iload_n 2, 1) := by decide +kernel
theorem d_T_kind_31 : decode c_T_kind 31 = .ok (.invokevirtual 80, 3) := by decide +kernel
theorem d_T_kind_34 : decode c_T_kind 34 = .ok (.ifCond .eq 7, 3) := by decide +kernel
theorem d_T_kind_37 : decode c_T_kind 37 = .ok (.iconst 2, 1) := by decide +kernel
theorem d_T_kind_38 : decode c_T_kind 38 = .ok (.goto 4, 3) := by decide +kernel
theorem d_T_kind_41 : decode c_T_kind 41 = .ok (.iconst 3, 1) := by decide +kernel
theorem d_T_kind_42 : decode c_T_kind 42 = .ok (.ireturn, 1) := by decide +kernel
theorem d_T_value_0 : decode c_T_value 0 = .ok (.iload_n 1, 1) := by decide +kernel
theorem d_T_value_1 : decode c_T_value 1 = .ok (.invokestatic 27, 3) := by decide +kernel
theorem d_T_value_4 : decode c_T_value 4 = .ok (.aload_n 0, 1) := by decide +kernel
theorem d_T_value_5 : decode c_T_value 5 = .ok (.getfield 9, 3) := by decide +kernel
theorem d_T_value_8 : decode c_T_value 8 = .ok (.iload_n 1, 1) := by decide +kernel
theorem d_T_value_9 : decode c_T_value 9 = .ok (.iaload, 1) := by decide +kernel
theorem d_T_value_10 : decode c_T_value 10 = .ok (.istore_n 2, 1) := by decide +kernel
theorem d_T_value_11 : decode c_T_value 11 = .ok (.iload_n 2, 1) := by decide +kernel
theorem d_T_value_12 : decode c_T_value 12 = .ok (.ifCond .ne 5, 3) := by decide +kernel
theorem d_T_value_15 : decode c_T_value 15 = .ok (.iconst 0, 1) := by decide +kernel
theorem d_T_value_16 : decode c_T_value 16 = .ok (.ireturn, 1) := by decide +kernel
theorem d_T_value_17 : decode c_T_value 17 = .ok (.iload_n 2, 1) := by decide +kernel
theorem d_T_value_18 : decode c_T_value 18 = .ok (.invokestatic 107, 3) := by decide +kernel
theorem d_T_value_21 : decode c_T_value 21 = .ok (.ifCond .eq 10, 3) := by decide +kernel
theorem d_T_value_24 : decode c_T_value 24 = .ok (.iload_n 2, 1) := by decide +kernel
theorem d_T_value_25 : decode c_T_value 25 = .ok (.invokestatic 110, 3) := by decide +kernel
theorem d_T_value_28 : decode c_T_value 28 = .ok (.goto 11, 3) := by decide +kernel
theorem d_T_value_31 : decode c_T_value 31 = .ok (.aload_n 0, 1) := by decide +kernel
theorem d_T_value_32 : decode c_T_value 32 = .ok (.getfield 23, 3) := by decide +kernel
theorem d_T_value_35 : decode c_T_value 35 = .ok (.iload_n 2, 1) := by decide +kernel
theorem d_T_value_36 : decode c_T_value 36 = .ok (.invokevirtual 57, 3) := by decide +kernel
theorem d_T_value_39 : decode c_T_value 39 = .ok (.ireturn, 1) := by decide +kernel
theorem d_T_size_0 : decode c_T_size 0 = .ok (.iload_n 1, 1) := by decide +kernel
theorem d_T_size_1 : decode c_T_size 1 = .ok (.invokestatic 27, 3) := by decide +kernel
theorem d_T_size_4 : decode c_T_size 4 = .ok (.aload_n 0, 1) := by decide +kernel
theorem d_T_size_5 : decode c_T_size 5 = .ok (.getfield 9, 3) := by decide +kernel
theorem d_T_size_8 : decode c_T_size 8 = .ok (.iload_n 1, 1) := by decide +kernel
theorem d_T_size_9 : decode c_T_size 9 = .ok (.iaload, 1) := by decide +kernel
theorem d_T_size_10 : decode c_T_size 10 = .ok (.invokestatic 113, 3) := by decide +kernel
theorem d_T_size_13 : decode c_T_size 13 = .ok (.ifCond .eq 19, 3) := by decide +kernel
theorem d_T_size_16 : decode c_T_size 16 = .ok (.aload_n 0, 1) := by decide +kernel
theorem d_T_size_17 : decode c_T_size 17 = .ok (.getfield 23, 3) := by decide +kernel
theorem d_T_size_20 : decode c_T_size 20 = .ok (.aload_n 0, 1) := by decide +kernel
theorem d_T_size_21 : decode c_T_size 21 = .ok (.getfield 9, 3) := by decide +kernel
theorem d_T_size_24 : decode c_T_size 24 = .ok (.iload_n 1, 1) := by decide +kernel
theorem d_T_size_25 : decode c_T_size 25 = .ok (.iaload, 1) := by decide +kernel
theorem d_T_size_26 : decode c_T_size 26 = .ok (.invokevirtual 84, 3) := by decide +kernel
theorem d_T_size_29 : decode c_T_size 29 = .ok (.goto 4, 3) := by decide +kernel
theorem d_T_size_32 : decode c_T_size 32 = .ok (.iconst 0, 1) := by decide +kernel
theorem d_T_size_33 : decode c_T_size 33 = .ok (.ireturn, 1) := by decide +kernel
theorem d_T_become_0 : decode c_T_become 0 = .ok (.aload_n 0, 1) := by decide +kernel
theorem d_T_become_1 : decode c_T_become 1 = .ok (.iload_n 1, 1) := by decide +kernel
theorem d_T_become_2 : decode c_T_become 2 = .ok (.invokevirtual 60, 3) := by decide +kernel
theorem d_T_become_5 : decode c_T_become 5 = .ok (.aload_n 0, 1) := by decide +kernel
theorem d_T_become_6 : decode c_T_become 6 = .ok (.iload_n 2, 1) := by decide +kernel
theorem d_T_become_7 : decode c_T_become 7 = .ok (.invokevirtual 60, 3) := by decide +kernel
theorem d_T_become_10 : decode c_T_become 10 = .ok (.aload_n 0, 1) := by decide +kernel
theorem d_T_become_11 : decode c_T_become 11 = .ok (.getfield 23, 3) := by decide +kernel
theorem d_T_become_14 : decode c_T_become 14 = .ok (.aload_n 0, 1) := by decide +kernel
theorem d_T_become_15 : decode c_T_become 15 = .ok (.getfield 9, 3) := by decide +kernel
theorem d_T_become_18 : decode c_T_become 18 = .ok (.iload_n 1, 1) := by decide +kernel
theorem d_T_become_19 : decode c_T_become 19 = .ok (.iaload, 1) := by decide +kernel
theorem d_T_become_20 : decode c_T_become 20 = .ok (.aload_n 0, 1) := by decide +kernel
theorem d_T_become_21 : decode c_T_become 21 = .ok (.getfield 9, 3) := by decide +kernel
theorem d_T_become_24 : decode c_T_become 24 = .ok (.iload_n 2, 1) := by decide +kernel
theorem d_T_become_25 : decode c_T_become 25 = .ok (.iaload, 1) := by decide +kernel
theorem d_T_become_26 : decode c_T_become 26 = .ok (.invokevirtual 116, 3) := by decide +kernel
theorem d_T_become_29 : decode c_T_become 29 = .ok (.return_, 1) := by decide +kernel
theorem d_T_words_0 : decode c_T_words 0 = .ok (.aload_n 0, 1) := by decide +kernel
theorem d_T_words_1 : decode c_T_words 1 = .ok (.getfield 23, 3) := by decide +kernel
theorem d_T_words_4 : decode c_T_words 4 = .ok (.aload_n 0, 1) := by decide +kernel
theorem d_T_words_5 : decode c_T_words 5 = .ok (.getfield 9, 3) := by decide +kernel
theorem d_T_words_8 : decode c_T_words 8 = .ok (.invokevirtual 119, 3) := by decide +kernel
theorem d_T_words_11 : decode c_T_words 11 = .ok (.aload_n 0, 1) := by decide +kernel
theorem d_T_words_12 : decode c_T_words 12 = .ok (.getfield 23, 3) := by decide +kernel
theorem d_T_words_15 : decode c_T_words 15 = .ok (.invokevirtual 123, 3) := by decide +kernel
theorem d_T_words_18 : decode c_T_words 18 = .ok (.ireturn, 1) := by decide +kernel
theorem d_T_entries_0 : decode c_T_entries 0 = .ok (.aload_n 0, 1) := by decide +kernel
theorem d_T_entries_1 : decode c_T_entries 1 = .ok (.getfield 23, 3) := by decide +kernel
theorem d_T_entries_4 : decode c_T_entries 4 = .ok (.aload_n 0, 1) := by decide +kernel
theorem d_T_entries_5 : decode c_T_entries 5 = .ok (.getfield 9, 3) := by decide +kernel
theorem d_T_entries_8 : decode c_T_entries 8 = .ok (.invokevirtual 119, 3) := by decide +kernel
theorem d_T_entries_11 : decode c_T_entries 11 = .ok (.aload_n 0, 1) := by decide +kernel
theorem d_T_entries_12 : decode c_T_entries 12 = .ok (.getfield 23, 3) := by decide +kernel
theorem d_T_entries_15 : decode c_T_entries 15 = .ok (.invokevirtual 127, 3) := by decide +kernel
theorem d_T_entries_18 : decode c_T_entries 18 = .ok (.ireturn, 1) := by decide +kernel
theorem d_T_instance_0 : decode c_T_instance 0 = .ok (.iload_n 1, 1) := by decide +kernel
theorem d_T_instance_1 : decode c_T_instance 1 = .ok (.invokestatic 27, 3) := by decide +kernel
theorem d_T_instance_4 : decode c_T_instance 4 = .ok (.iload_n 2, 1) := by decide +kernel
theorem d_T_instance_5 : decode c_T_instance 5 = .ok (.invokestatic 27, 3) := by decide +kernel
theorem d_T_instance_8 : decode c_T_instance 8 = .ok (.iload_n 3, 1) := by decide +kernel
theorem d_T_instance_9 : decode c_T_instance 9 = .ok (.iconst 0, 1) := by decide +kernel
theorem d_T_instance_10 : decode c_T_instance 10 = .ok (.ldc 132, 2) := by decide +kernel
theorem d_T_instance_12 : decode c_T_instance 12 = .ok (.invokestatic 33, 3) := by decide +kernel
theorem d_T_instance_15 : decode c_T_instance 15 = .ok (.aload_n 0, 1) := by decide +kernel
theorem d_T_instance_16 : decode c_T_instance 16 = .ok (.getfield 23, 3) := by decide +kernel
theorem d_T_instance_19 : decode c_T_instance 19 = .ok (.aload_n 0, 1) := by decide +kernel
theorem d_T_instance_20 : decode c_T_instance 20 = .ok (.getfield 9, 3) := by decide +kernel
theorem d_T_instance_23 : decode c_T_instance 23 = .ok (.invokevirtual 119, 3) := by decide +kernel
theorem d_T_instance_26 : decode c_T_instance 26 = .ok (.aload_n 0, 1) := by decide +kernel
theorem d_T_instance_27 : decode c_T_instance 27 = .ok (.getfield 23, 3) := by decide +kernel
theorem d_T_instance_30 : decode c_T_instance 30 = .ok (.aload_n 0, 1) := by decide +kernel
theorem d_T_instance_31 : decode c_T_instance 31 = .ok (.getfield 9, 3) := by decide +kernel
theorem d_T_instance_34 : decode c_T_instance 34 = .ok (.iload_n 2, 1) := by decide +kernel
theorem d_T_instance_35 : decode c_T_instance 35 = .ok (.iaload, 1) := by decide +kernel
theorem d_T_instance_36 : decode c_T_instance 36 = .ok (.iload_n 3, 1) := by decide +kernel
theorem d_T_instance_37 : decode c_T_instance 37 = .ok (.invokevirtual 133, 3) := by decide +kernel
theorem d_T_instance_40 : decode c_T_instance 40 = .ok (.istore 4, 2) := by decide +kernel
theorem d_T_instance_42 : decode c_T_instance 42 = .ok (.iload 4, 2) := by decide +kernel
theorem d_T_instance_44 : decode c_T_instance 44 = .ok (.ifCond .ne 5, 3) := by decide +kernel
theorem d_T_instance_47 : decode c_T_instance 47 = .ok (.iconst 0, 1) := by decide +kernel
theorem d_T_instance_48 : decode c_T_instance 48 = .ok (.ireturn, 1) := by decide +kernel
theorem d_T_instance_49 : decode c_T_instance 49 = .ok (.aload_n 0, 1) := by decide +kernel
theorem d_T_instance_50 : decode c_T_instance 50 = .ok (.iload_n 1, 1) := by decide +kernel
theorem d_T_instance_51 : decode c_T_instance 51 = .ok (.iload 4, 2) := by decide +kernel
theorem d_T_instance_53 : decode c_T_instance 53 = .ok (.invokevirtual 43, 3) := by decide +kernel
theorem d_T_instance_56 : decode c_T_instance 56 = .ok (.aload_n 0, 1) := by decide +kernel
theorem d_T_instance_57 : decode c_T_instance 57 = .ok (.getfield 23, 3) := by decide +kernel
theorem d_T_instance_60 : decode c_T_instance 60 = .ok (.iload 4, 2) := by decide +kernel
theorem d_T_instance_62 : decode c_T_instance 62 = .ok (.invokevirtual 57, 3) := by decide +kernel
theorem d_T_instance_65 : decode c_T_instance 65 = .ok (.ireturn, 1) := by decide +kernel
theorem d_T_owners_0 : decode c_T_owners 0 = .ok (.iload_n 1, 1) := by decide +kernel
theorem d_T_owners_1 : decode c_T_owners 1 = .ok (.invokestatic 27, 3) := by decide +kernel
theorem d_T_owners_4 : decode c_T_owners 4 = .ok (.aload_n 0, 1) := by decide +kernel
theorem d_T_owners_5 : decode c_T_owners 5 = .ok (.getfield 9, 3) := by decide +kernel
theorem d_T_owners_8 : decode c_T_owners 8 = .ok (.iload_n 1, 1) := by decide +kernel
theorem d_T_owners_9 : decode c_T_owners 9 = .ok (.iaload, 1) := by decide +kernel
theorem d_T_owners_10 : decode c_T_owners 10 = .ok (.istore_n 2, 1) := by decide +kernel
theorem d_T_owners_11 : decode c_T_owners 11 = .ok (.aload_n 0, 1) := by decide +kernel
theorem d_T_owners_12 : decode c_T_owners 12 = .ok (.getfield 23, 3) := by decide +kernel
theorem d_T_owners_15 : decode c_T_owners 15 = .ok (.aload_n 0, 1) := by decide +kernel
theorem d_T_owners_16 : decode c_T_owners 16 = .ok (.getfield 9, 3) := by decide +kernel
theorem d_T_owners_19 : decode c_T_owners 19 = .ok (.invokevirtual 119, 3) := by decide +kernel
theorem d_T_owners_22 : decode c_T_owners 22 = .ok (.aload_n 0, 1) := by decide +kernel
theorem d_T_owners_23 : decode c_T_owners 23 = .ok (.getfield 23, 3) := by decide +kernel
theorem d_T_owners_26 : decode c_T_owners 26 = .ok (.iload_n 2, 1) := by decide +kernel
theorem d_T_owners_27 : decode c_T_owners 27 = .ok (.invokevirtual 136, 3) := by decide +kernel
theorem d_T_owners_30 : decode c_T_owners 30 = .ok (.istore_n 3, 1) := by decide +kernel
theorem d_T_owners_31 : decode c_T_owners 31 = .ok (.aload_n 0, 1) := by decide +kernel
theorem d_T_owners_32 : decode c_T_owners 32 = .ok (.getfield 9, 3) := by decide +kernel
theorem d_T_owners_35 : decode c_T_owners 35 = .ok (.astore 4, 2) := by decide +kernel
theorem d_T_owners_37 : decode c_T_owners 37 = .ok (.aload 4, 2) := by decide +kernel
theorem d_T_owners_39 : decode c_T_owners 39 = .ok (.arraylength, 1) := by decide +kernel
theorem d_T_owners_40 : decode c_T_owners 40 = .ok (.istore 5, 2) := by decide +kernel
theorem d_T_owners_42 : decode c_T_owners 42 = .ok (.iconst 0, 1) := by decide +kernel
theorem d_T_owners_43 : decode c_T_owners 43 = .ok (.istore 6, 2) := by decide +kernel
theorem d_T_owners_45 : decode c_T_owners 45 = .ok (.iload 6, 2) := by decide +kernel
theorem d_T_owners_47 : decode c_T_owners 47 = .ok (.iload 5, 2) := by decide +kernel
theorem d_T_owners_49 : decode c_T_owners 49 = .ok (.if_icmp .ge 25, 3) := by decide +kernel
theorem d_T_owners_52 : decode c_T_owners 52 = .ok (.aload 4, 2) := by decide +kernel
theorem d_T_owners_54 : decode c_T_owners 54 = .ok (.iload 6, 2) := by decide +kernel
theorem d_T_owners_56 : decode c_T_owners 56 = .ok (.iaload, 1) := by decide +kernel
theorem d_T_owners_57 : decode c_T_owners 57 = .ok (.istore 7, 2) := by decide +kernel
theorem d_T_owners_59 : decode c_T_owners 59 = .ok (.iload 7, 2) := by decide +kernel
theorem d_T_owners_61 : decode c_T_owners 61 = .ok (.iload_n 2, 1) := by decide +kernel
theorem d_T_owners_62 : decode c_T_owners 62 = .ok (.if_icmp .ne 6, 3) := by decide +kernel
theorem d_T_owners_65 : decode c_T_owners 65 = .ok (.iinc 3 1, 3) := by decide +kernel
theorem d_T_owners_68 : decode c_T_owners 68 = .ok (.iinc 6 1, 3) := by decide +kernel
theorem d_T_owners_71 : decode c_T_owners 71 = .ok (.goto (-26), 3) := by decide +kernel
theorem d_T_owners_74 : decode c_T_owners 74 = .ok (.iload_n 3, 1) := by decide +kernel
theorem d_T_owners_75 : decode c_T_owners 75 = .ok (.ireturn, 1) := by decide +kernel
theorem d_T_reaches_0 : decode c_T_reaches 0 = .ok (.aload_n 0, 1) := by decide +kernel
theorem d_T_reaches_1 : decode c_T_reaches 1 = .ok (.iload_n 1, 1) := by decide +kernel
theorem d_T_reaches_2 : decode c_T_reaches 2 = .ok (.invokevirtual 60, 3) := by decide +kernel
theorem d_T_reaches_5 : decode c_T_reaches 5 = .ok (.aload_n 0, 1) := by decide +kernel
theorem d_T_reaches_6 : decode c_T_reaches 6 = .ok (.iload_n 2, 1) := by decide +kernel
theorem d_T_reaches_7 : decode c_T_reaches 7 = .ok (.invokevirtual 60, 3) := by decide +kernel
theorem d_T_reaches_10 : decode c_T_reaches 10 = .ok (.aload_n 0, 1) := by decide +kernel
theorem d_T_reaches_11 : decode c_T_reaches 11 = .ok (.getfield 23, 3) := by decide +kernel
theorem d_T_reaches_14 : decode c_T_reaches 14 = .ok (.aload_n 0, 1) := by decide +kernel
theorem d_T_reaches_15 : decode c_T_reaches 15 = .ok (.getfield 9, 3) := by decide +kernel
theorem d_T_reaches_18 : decode c_T_reaches 18 = .ok (.iload_n 1, 1) := by decide +kernel
theorem d_T_reaches_19 : decode c_T_reaches 19 = .ok (.iaload, 1) := by decide +kernel
theorem d_T_reaches_20 : decode c_T_reaches 20 = .ok (.aload_n 0, 1) := by decide +kernel
theorem d_T_reaches_21 : decode c_T_reaches 21 = .ok (.getfield 9, 3) := by decide +kernel
theorem d_T_reaches_24 : decode c_T_reaches 24 = .ok (.iload_n 2, 1) := by decide +kernel
theorem d_T_reaches_25 : decode c_T_reaches 25 = .ok (.iaload, 1) := by decide +kernel
theorem d_T_reaches_26 : decode c_T_reaches 26 = .ok (.invokevirtual 139, 3) := by decide +kernel
theorem d_T_reaches_29 : decode c_T_reaches 29 = .ok (.ireturn, 1) := by decide +kernel
theorem d_T_sum_0 : decode c_T_sum 0 = .ok (.iload_n 1, 1) := by decide +kernel
theorem d_T_sum_1 : decode c_T_sum 1 = .ok (.invokestatic 27, 3) := by decide +kernel
theorem d_T_sum_4 : decode c_T_sum 4 = .ok (.aload_n 0, 1) := by decide +kernel
theorem d_T_sum_5 : decode c_T_sum 5 = .ok (.getfield 9, 3) := by decide +kernel
theorem d_T_sum_8 : decode c_T_sum 8 = .ok (.iload_n 1, 1) := by decide +kernel
theorem d_T_sum_9 : decode c_T_sum 9 = .ok (.iaload, 1) := by decide +kernel
theorem d_T_sum_10 : decode c_T_sum 10 = .ok (.istore_n 2, 1) := by decide +kernel
theorem d_T_sum_11 : decode c_T_sum 11 = .ok (.aload_n 0, 1) := by decide +kernel
theorem d_T_sum_12 : decode c_T_sum 12 = .ok (.getfield 23, 3) := by decide +kernel
theorem d_T_sum_15 : decode c_T_sum 15 = .ok (.iload_n 2, 1) := by decide +kernel
theorem d_T_sum_16 : decode c_T_sum 16 = .ok (.invokevirtual 143, 3) := by decide +kernel
theorem d_T_sum_19 : decode c_T_sum 19 = .ok (.ifCond .ne 5, 3) := by decide +kernel
theorem d_T_sum_22 : decode c_T_sum 22 = .ok (.iconst 0, 1) := by decide +kernel
theorem d_T_sum_23 : decode c_T_sum 23 = .ok (.ireturn, 1) := by decide +kernel
theorem d_T_sum_24 : decode c_T_sum 24 = .ok (.bipush 7, 2) := by decide +kernel
theorem d_T_sum_26 : decode c_T_sum 26 = .ok (.istore_n 3, 1) := by decide +kernel
theorem d_T_sum_27 : decode c_T_sum 27 = .ok (.aload_n 0, 1) := by decide +kernel
theorem d_T_sum_28 : decode c_T_sum 28 = .ok (.getfield 23, 3) := by decide +kernel
theorem d_T_sum_31 : decode c_T_sum 31 = .ok (.iload_n 2, 1) := by decide +kernel
theorem d_T_sum_32 : decode c_T_sum 32 = .ok (.invokevirtual 84, 3) := by decide +kernel
theorem d_T_sum_35 : decode c_T_sum 35 = .ok (.istore 4, 2) := by decide +kernel
theorem d_T_sum_37 : decode c_T_sum 37 = .ok (.iconst 0, 1) := by decide +kernel
theorem d_T_sum_38 : decode c_T_sum 38 = .ok (.istore 5, 2) := by decide +kernel
theorem d_T_sum_40 : decode c_T_sum 40 = .ok (.iload 5, 2) := by decide +kernel
theorem d_T_sum_42 : decode c_T_sum 42 = .ok (.iload 4, 2) := by decide +kernel
theorem d_T_sum_44 : decode c_T_sum 44 = .ok (.if_icmp .ge 25, 3) := by decide +kernel
theorem d_T_sum_47 : decode c_T_sum 47 = .ok (.bipush 31, 2) := by decide +kernel
theorem d_T_sum_49 : decode c_T_sum 49 = .ok (.iload_n 3, 1) := by decide +kernel
theorem d_T_sum_50 : decode c_T_sum 50 = .ok (.imul, 1) := by decide +kernel
theorem d_T_sum_51 : decode c_T_sum 51 = .ok (.aload_n 0, 1) := by decide +kernel
theorem d_T_sum_52 : decode c_T_sum 52 = .ok (.getfield 23, 3) := by decide +kernel
theorem d_T_sum_55 : decode c_T_sum 55 = .ok (.iload_n 2, 1) := by decide +kernel
theorem d_T_sum_56 : decode c_T_sum 56 = .ok (.iload 5, 2) := by decide +kernel
theorem d_T_sum_58 : decode c_T_sum 58 = .ok (.invokevirtual 96, 3) := by decide +kernel
theorem d_T_sum_61 : decode c_T_sum 61 = .ok (.iadd, 1) := by decide +kernel
theorem d_T_sum_62 : decode c_T_sum 62 = .ok (.istore_n 3, 1) := by decide +kernel
theorem d_T_sum_63 : decode c_T_sum 63 = .ok (.iinc 5 1, 3) := by decide +kernel
theorem d_T_sum_66 : decode c_T_sum 66 = .ok (.goto (-26), 3) := by decide +kernel
theorem d_T_sum_69 : decode c_T_sum 69 = .ok (.iload_n 3, 1) := by decide +kernel
theorem d_T_sum_70 : decode c_T_sum 70 = .ok (.ireturn, 1) := by decide +kernel
theorem d_T_setRegister_0 : decode c_T_setRegister 0 = .ok (.aload_n 0, 1) := by decide +kernel
theorem d_T_setRegister_1 : decode c_T_setRegister 1 = .ok (.getfield 23, 3) := by decide +kernel
theorem d_T_setRegister_4 : decode c_T_setRegister 4 = .ok (.aload_n 0, 1) := by decide +kernel
theorem d_T_setRegister_5 : decode c_T_setRegister 5 = .ok (.getfield 9, 3) := by decide +kernel
theorem d_T_setRegister_8 : decode c_T_setRegister 8 = .ok (.iload_n 1, 1) := by decide +kernel
theorem d_T_setRegister_9 : decode c_T_setRegister 9 = .ok (.iaload, 1) := by decide +kernel
theorem d_T_setRegister_10 : decode c_T_setRegister 10 = .ok (.invokevirtual 146, 3) := by decide +kernel
theorem d_T_setRegister_13 : decode c_T_setRegister 13 = .ok (.aload_n 0, 1) := by decide +kernel
theorem d_T_setRegister_14 : decode c_T_setRegister 14 = .ok (.getfield 9, 3) := by decide +kernel
theorem d_T_setRegister_17 : decode c_T_setRegister 17 = .ok (.iload_n 1, 1) := by decide +kernel
theorem d_T_setRegister_18 : decode c_T_setRegister 18 = .ok (.iload_n 2, 1) := by decide +kernel
theorem d_T_setRegister_19 : decode c_T_setRegister 19 = .ok (.iastore, 1) := by decide +kernel
theorem d_T_setRegister_20 : decode c_T_setRegister 20 = .ok (.return_, 1) := by decide +kernel
theorem d_T_isBetween_0 : decode c_T_isBetween 0 = .ok (.iload_n 0, 1) := by decide +kernel
theorem d_T_isBetween_1 : decode c_T_isBetween 1 = .ok (.iload_n 1, 1) := by decide +kernel
theorem d_T_isBetween_2 : decode c_T_isBetween 2 = .ok (.if_icmp .lt 12, 3) := by decide +kernel
theorem d_T_isBetween_5 : decode c_T_isBetween 5 = .ok (.iload_n 0, 1) := by decide +kernel
theorem d_T_isBetween_6 : decode c_T_isBetween 6 = .ok (.iload_n 2, 1) := by decide +kernel
theorem d_T_isBetween_7 : decode c_T_isBetween 7 = .ok (.if_icmp .gt 7, 3) := by decide +kernel
theorem d_T_isBetween_10 : decode c_T_isBetween 10 = .ok (.iconst 1, 1) := by decide +kernel
theorem d_T_isBetween_11 : decode c_T_isBetween 11 = .ok (.goto 4, 3) := by decide +kernel
theorem d_T_isBetween_14 : decode c_T_isBetween 14 = .ok (.iconst 0, 1) := by decide +kernel
theorem d_T_isBetween_15 : decode c_T_isBetween 15 = .ok (.ireturn, 1) := by decide +kernel
theorem d_T_needBetween_0 : decode c_T_needBetween 0 = .ok (.iload_n 0, 1) := by decide +kernel
theorem d_T_needBetween_1 : decode c_T_needBetween 1 = .ok (.iload_n 1, 1) := by decide +kernel
theorem d_T_needBetween_2 : decode c_T_needBetween 2 = .ok (.iload_n 2, 1) := by decide +kernel
theorem d_T_needBetween_3 : decode c_T_needBetween 3 = .ok (.invokestatic 16, 3) := by decide +kernel
theorem d_T_needBetween_6 : decode c_T_needBetween 6 = .ok (.ifCond .ne 13, 3) := by decide +kernel
theorem d_T_needBetween_9 : decode c_T_needBetween 9 = .ok (.new 149, 3) := by decide +kernel
theorem d_T_needBetween_12 : decode c_T_needBetween 12 = .ok (.dup, 1) := by decide +kernel
theorem d_T_needBetween_13 : decode c_T_needBetween 13 = .ok (.ldc 151, 2) := by decide +kernel
theorem d_T_needBetween_15 : decode c_T_needBetween 15 = .ok (.invokespecial 153, 3) := by decide +kernel
theorem d_T_needBetween_18 : decode c_T_needBetween 18 = .ok (.athrow, 1) := by decide +kernel
theorem d_T_needBetween_19 : decode c_T_needBetween 19 = .ok (.return_, 1) := by decide +kernel
theorem d_T_needRegister_0 : decode c_T_needRegister 0 = .ok (.iload_n 0, 1) := by decide +kernel
theorem d_T_needRegister_1 : decode c_T_needRegister 1 = .ok (.iconst 0, 1) := by decide +kernel
theorem d_T_needRegister_2 : decode c_T_needRegister 2 = .ok (.bipush 31, 2) := by decide +kernel
theorem d_T_needRegister_4 : decode c_T_needRegister 4 = .ok (.invokestatic 16, 3) := by decide +kernel
theorem d_T_needRegister_7 : decode c_T_needRegister 7 = .ok (.ifCond .ne 13, 3) := by decide +kernel
theorem d_T_needRegister_10 : decode c_T_needRegister 10 = .ok (.new 149, 3) := by decide +kernel
theorem d_T_needRegister_13 : decode c_T_needRegister 13 = .ok (.dup, 1) := by decide +kernel
theorem d_T_needRegister_14 : decode c_T_needRegister 14 = .ok (.ldc 156, 2) := by decide +kernel
theorem d_T_needRegister_16 : decode c_T_needRegister 16 = .ok (.invokespecial 153, 3) := by decide +kernel
theorem d_T_needRegister_19 : decode c_T_needRegister 19 = .ok (.athrow, 1) := by decide +kernel
theorem d_T_needRegister_20 : decode c_T_needRegister 20 = .ok (.return_, 1) := by decide +kernel
theorem d_T_needObject_0 : decode c_T_needObject 0 = .ok (.iload_n 1, 1) := by decide +kernel
theorem d_T_needObject_1 : decode c_T_needObject 1 = .ok (.invokestatic 27, 3) := by decide +kernel
theorem d_T_needObject_4 : decode c_T_needObject 4 = .ok (.aload_n 0, 1) := by decide +kernel
theorem d_T_needObject_5 : decode c_T_needObject 5 = .ok (.getfield 9, 3) := by decide +kernel
theorem d_T_needObject_8 : decode c_T_needObject 8 = .ok (.iload_n 1, 1) := by decide +kernel
theorem d_T_needObject_9 : decode c_T_needObject 9 = .ok (.iaload, 1) := by decide +kernel
theorem d_T_needObject_10 : decode c_T_needObject 10 = .ok (.invokestatic 113, 3) := by decide +kernel
theorem d_T_needObject_13 : decode c_T_needObject 13 = .ok (.ifCond .ne 13, 3) := by decide +kernel
theorem d_T_needObject_16 : decode c_T_needObject 16 = .ok (.new 149, 3) := by decide +kernel
theorem d_T_needObject_19 : decode c_T_needObject 19 = .ok (.dup, 1) := by decide +kernel
theorem d_T_needObject_20 : decode c_T_needObject 20 = .ok (.ldc 158, 2) := by decide +kernel
theorem d_T_needObject_22 : decode c_T_needObject 22 = .ok (.invokespecial 153, 3) := by decide +kernel
theorem d_T_needObject_25 : decode c_T_needObject 25 = .ok (.athrow, 1) := by decide +kernel
theorem d_T_needObject_26 : decode c_T_needObject 26 = .ok (.return_, 1) := by decide +kernel
theorem d_T_needSlots_0 : decode c_T_needSlots 0 = .ok (.iload_n 1, 1) := by decide +kernel
theorem d_T_needSlots_1 : decode c_T_needSlots 1 = .ok (.invokestatic 27, 3) := by decide +kernel
theorem d_T_needSlots_4 : decode c_T_needSlots 4 = .ok (.aload_n 0, 1) := by decide +kernel
theorem d_T_needSlots_5 : decode c_T_needSlots 5 = .ok (.getfield 23, 3) := by decide +kernel
theorem d_T_needSlots_8 : decode c_T_needSlots 8 = .ok (.aload_n 0, 1) := by decide +kernel
theorem d_T_needSlots_9 : decode c_T_needSlots 9 = .ok (.getfield 9, 3) := by decide +kernel
theorem d_T_needSlots_12 : decode c_T_needSlots 12 = .ok (.iload_n 1, 1) := by decide +kernel
theorem d_T_needSlots_13 : decode c_T_needSlots 13 = .ok (.iaload, 1) := by decide +kernel
theorem d_T_needSlots_14 : decode c_T_needSlots 14 = .ok (.invokevirtual 80, 3) := by decide +kernel
theorem d_T_needSlots_17 : decode c_T_needSlots 17 = .ok (.ifCond .ne 13, 3) := by decide +kernel
theorem d_T_needSlots_20 : decode c_T_needSlots 20 = .ok (.new 149, 3) := by decide +kernel
theorem d_T_needSlots_23 : decode c_T_needSlots 23 = .ok (.dup, 1) := by decide +kernel
theorem d_T_needSlots_24 : decode c_T_needSlots 24 = .ok (.ldc 160, 2) := by decide +kernel
theorem d_T_needSlots_26 : decode c_T_needSlots 26 = .ok (.invokespecial 153, 3) := by decide +kernel
theorem d_T_needSlots_29 : decode c_T_needSlots 29 = .ok (.athrow, 1) := by decide +kernel
theorem d_T_needSlots_30 : decode c_T_needSlots 30 = .ok (.return_, 1) := by decide +kernel
theorem d_T_needBytes_0 : decode c_T_needBytes 0 = .ok (.iload_n 1, 1) := by decide +kernel
theorem d_T_needBytes_1 : decode c_T_needBytes 1 = .ok (.invokestatic 27, 3) := by decide +kernel
theorem d_T_needBytes_4 : decode c_T_needBytes 4 = .ok (.aload_n 0, 1) := by decide +kernel
theorem d_T_needBytes_5 : decode c_T_needBytes 5 = .ok (.getfield 23, 3) := by decide +kernel
theorem d_T_needBytes_8 : decode c_T_needBytes 8 = .ok (.aload_n 0, 1) := by decide +kernel
theorem d_T_needBytes_9 : decode c_T_needBytes 9 = .ok (.getfield 9, 3) := by decide +kernel
theorem d_T_needBytes_12 : decode c_T_needBytes 12 = .ok (.iload_n 1, 1) := by decide +kernel
theorem d_T_needBytes_13 : decode c_T_needBytes 13 = .ok (.iaload, 1) := by decide +kernel
theorem d_T_needBytes_14 : decode c_T_needBytes 14 = .ok (.invokevirtual 143, 3) := by decide +kernel
theorem d_T_needBytes_17 : decode c_T_needBytes 17 = .ok (.ifCond .ne 13, 3) := by decide +kernel
theorem d_T_needBytes_20 : decode c_T_needBytes 20 = .ok (.new 149, 3) := by decide +kernel
theorem d_T_needBytes_23 : decode c_T_needBytes 23 = .ok (.dup, 1) := by decide +kernel
theorem d_T_needBytes_24 : decode c_T_needBytes 24 = .ok (.ldc 162, 2) := by decide +kernel
theorem d_T_needBytes_26 : decode c_T_needBytes 26 = .ok (.invokespecial 153, 3) := by decide +kernel
theorem d_T_needBytes_29 : decode c_T_needBytes 29 = .ok (.athrow, 1) := by decide +kernel
theorem d_T_needBytes_30 : decode c_T_needBytes 30 = .ok (.return_, 1) := by decide +kernel
theorem d_T_needIndex_0 : decode c_T_needIndex 0 = .ok (.iload_n 2, 1) := by decide +kernel
theorem d_T_needIndex_1 : decode c_T_needIndex 1 = .ok (.iconst 0, 1) := by decide +kernel
theorem d_T_needIndex_2 : decode c_T_needIndex 2 = .ok (.aload_n 0, 1) := by decide +kernel
theorem d_T_needIndex_3 : decode c_T_needIndex 3 = .ok (.getfield 23, 3) := by decide +kernel
theorem d_T_needIndex_6 : decode c_T_needIndex 6 = .ok (.aload_n 0, 1) := by decide +kernel
theorem d_T_needIndex_7 : decode c_T_needIndex 7 = .ok (.getfield 9, 3) := by decide +kernel
theorem d_T_needIndex_10 : decode c_T_needIndex 10 = .ok (.iload_n 1, 1) := by decide +kernel
theorem d_T_needIndex_11 : decode c_T_needIndex 11 = .ok (.iaload, 1) := by decide +kernel
theorem d_T_needIndex_12 : decode c_T_needIndex 12 = .ok (.invokevirtual 84, 3) := by decide +kernel
theorem d_T_needIndex_15 : decode c_T_needIndex 15 = .ok (.iconst 1, 1) := by decide +kernel
theorem d_T_needIndex_16 : decode c_T_needIndex 16 = .ok (.isub, 1) := by decide +kernel
theorem d_T_needIndex_17 : decode c_T_needIndex 17 = .ok (.invokestatic 16, 3) := by decide +kernel
theorem d_T_needIndex_20 : decode c_T_needIndex 20 = .ok (.ifCond .ne 13, 3) := by decide +kernel
theorem d_T_needIndex_23 : decode c_T_needIndex 23 = .ok (.new 164, 3) := by decide +kernel
theorem d_T_needIndex_26 : decode c_T_needIndex 26 = .ok (.dup, 1) := by decide +kernel
theorem d_T_needIndex_27 : decode c_T_needIndex 27 = .ok (.ldc 166, 2) := by decide +kernel
theorem d_T_needIndex_29 : decode c_T_needIndex 29 = .ok (.invokespecial 168, 3) := by decide +kernel
theorem d_T_needIndex_32 : decode c_T_needIndex 32 = .ok (.athrow, 1) := by decide +kernel
theorem d_T_needIndex_33 : decode c_T_needIndex 33 = .ok (.return_, 1) := by decide +kernel
theorem d_T_needMade_0 : decode c_T_needMade 0 = .ok (.iload_n 0, 1) := by decide +kernel
theorem d_T_needMade_1 : decode c_T_needMade 1 = .ok (.ifCond .ne 13, 3) := by decide +kernel
theorem d_T_needMade_4 : decode c_T_needMade 4 = .ok (.new 169, 3) := by decide +kernel
theorem d_T_needMade_7 : decode c_T_needMade 7 = .ok (.dup, 1) := by decide +kernel
theorem d_T_needMade_8 : decode c_T_needMade 8 = .ok (.ldc 171, 2) := by decide +kernel
theorem d_T_needMade_10 : decode c_T_needMade 10 = .ok (.invokespecial 173, 3) := by decide +kernel
theorem d_T_needMade_13 : decode c_T_needMade 13 = .ok (.athrow, 1) := by decide +kernel
theorem d_T_needMade_14 : decode c_T_needMade 14 = .ok (.return_, 1) := by decide +kernel
end
section
/-! own rows: calls that write nothing; contracts over one world of cells -/
section RQ
variable {p : Program} {l : Launch} {e : Env} {R : Room} {s : State} {m : MethodId} {args : Array Value} {below : List Frame} {meth : Method} {c : Code} {H : Heap} {locs : List Loc} {cells slots : Nat} {Q : State → Prop}
variable {pc : Nat} {ls : Array Slot} {rest st0 : List Value} {a : Array Value}
/-- an int comes back, nothing is written -/
def rq_i (post : Int32 → Prop) : Array Value → State → Outcome → State → Prop := fun _ st o t => ∃ r : Int32, o = .returned (some (.int r)) ∧ post r ∧ t.heap = st.heap
theorem rq_calli {post : Int32 → Prop} (hr : CallRun p l e R s m args below meth c H locs cells slots 0 0 (F0 m pc ls st0) rest (rq_i post a) (fun _ => False))
    (kk : ∀ r : Int32, post r → W p l e R s m args below meth c H locs cells slots Q (F0 m (pc + 3) ls (.int r :: rest))) : W p l e R s m args below meth c H locs cells slots Q (F0 m pc ls st0) := by
  intro T hT X
  obtain ⟨v, st₀, t, T', L, h0, X', hL, e1, ⟨z, hv, hp, hh⟩, st⟩ := hr T hT X
  cases hv
  obtain ⟨t2, a1, b1⟩ := kk z hp T' (by rw [e1, hh, h0]) (Stand.forget X' (fun q h => (hL q h).elim))
  exact ⟨t2, st t2 a1, b1⟩
end RQ
/-- a start: the world ws is there -/
abbrev ro_P (D : va_G) (cl : List vw_C) (ws : va_W) (tys : List (ClassId × FieldType)) (av : List Value) : Array Value → State → Prop := va_Pc av (fun U => va_P D cl ws U.heap ∧ va_K D cl tys U)
/-- a start: the world ws is there, its cells apart, sz the heap's size -/
abbrev rw_P (D : va_G) (cl : List vw_C) (ws : va_W) (tys : List (ClassId × FieldType)) (sz : Nat) (av : List Value) : Array Value → State → Prop := va_Pc av (fun U => U.heap.size = sz ∧ va_P D cl ws U.heap ∧ va_K D cl tys U ∧ va_D (fun _ => True) ws)
/-- an end: the world is w u -/
abbrev rw_B {S : Type} (D : va_G) (cl : List vw_C) (tys : List (ClassId × FieldType)) (A : Nat → Prop) (w : S → va_W) : S → State → Prop := fun u t => va_P D cl (w u) t.heap ∧ va_K D cl tys t ∧ va_D A (w u)
theorem ro_blind {D : va_G} {cl : List vw_C} {ws : va_W} {tys : List (ClassId × FieldType)} {av : List Value} : FrameBlind (ro_P D cl ws tys av) := by
  intro a U g mk q
  obtain ⟨q0, qP, qK⟩ := q
  exact ⟨q0, qP, va_K.moved (u := U) (U := U.calling g mk a) (Vm.Alike.refl U.vm) qK⟩
theorem rw_blind {D : va_G} {cl : List vw_C} {ws : va_W} {tys : List (ClassId × FieldType)} {sz : Nat} {av : List Value} : FrameBlind (rw_P D cl ws tys sz av) := by
  intro a U g mk q
  obtain ⟨q0, qz, qP, qK, qD⟩ := q
  exact ⟨q0, qz, qP, va_K.moved (u := U) (U := U.calling g mk a) (Vm.Alike.refl U.vm) qK, qD⟩
section RP
variable {s : State} {H : Heap} {D : va_G} {cl : List vw_C} {ws : va_W} {tys : List (ClassId × FieldType)} {A : Nat → Prop} {As : List Value} {b ci q0 : Nat} {q : vw_C} {fs : List Value}
theorem ro_PV (hK : va_K D cl tys s) (hP : va_P D cl ws H) (hc : cl[ci]? = some q) (he : ws[q0]? = some (b, .inr (ci, fs))) : PreV s H q.1 b (ro_P D cl ws tys (.ref b :: As)) As :=
  ⟨ro_blind, va_recv hK hP hc he, fun U hU hW => ⟨rfl, by rw [hU]; exact hP, va_K.moved hW.alike hK⟩⟩
theorem rw_PV (hK : va_K D cl tys s) (hP : va_P D cl ws H) (hD : va_D A ws) (hc : cl[ci]? = some q) (he : ws[q0]? = some (b, .inr (ci, fs))) : PreV s H q.1 b (rw_P D cl ws tys H.size (.ref b :: As)) As :=
  ⟨rw_blind, va_recv hK hP hc he, fun U hU hW => ⟨rfl, by rw [hU], by rw [hU]; exact hP, va_K.moved hW.alike hK, hD.weaken (fun _ _ _ _ => trivial)⟩⟩
end RP
/-! what may throw: on a return nothing is written; on a throw nothing old is written -/
def rq_v (post : Prop) : Array Value → State → Outcome → State → Prop := fun _ st o t => o = .returned none ∧ post ∧ t.heap = st.heap
def rq_X (px : String → Prop) : String → State → State → Prop := fun E st t => px E ∧ st.heap.size ≤ t.heap.size ∧ ∀ q : Nat, q < st.heap.size → t.heap[q]? = st.heap[q]?
/-- .. and a method that writes its world: what a throw leaves -/
abbrev rw_X {S : Type} (D : va_G) (cl : List vw_C) (tys : List (ClassId × FieldType)) (A : Nat → Prop) (w : S → va_W) (px : String → S → Prop) : String → State → State → Prop := vx_X (fun _ : S => True) (fun E u t => px E u ∧ rw_B D cl tys A w u t) A
section RX
variable {p : Program} {l : Launch} {e : Env} {R : Room} {s : State} {m : MethodId} {args : Array Value} {below : List Frame} {meth : Method} {c : Code} {H : Heap} {locs : List Loc} {cells slots : Nat} {Q : State → Prop}
variable {pc : Nat} {ls : Array Slot} {rest st0 : List Value} {a : Array Value} {mc ms : Nat}
theorem rx_callv {px : String → Prop} {post : Prop} (hr : vx_Run p l e R s m args below meth c H locs cells slots mc ms (F0 m pc ls st0) rest (rq_v post a) (rq_X px) (fun _ => False))
    (kx : ∀ (E : String) (ce : Cell) (q9 : Addr) (H1 : Heap), px E → H.size ≤ H1.size → (∀ q : Nat, q < H.size → H1[q]? = H[q]?) → H1[q9]? = some ce → ce.vm = .none → s.vm.findClass E = some ce.cls → vx_W p l e R s m args below meth c H1 locs (cells + mc) (slots + ms) Q (F0 m pc ls rest) q9)
    (kk : post → W p l e R s m args below meth c H locs (cells + mc) (slots + ms) Q (F0 m (pc + 3) ls rest)) : W p l e R s m args below meth c H locs cells slots Q (F0 m pc ls st0) := by
  intro T hT X
  rcases hr T hT X with ⟨v, st₀, t, T', L, h0, X', hL, e1, e2, ⟨hv, hp, hh⟩, st⟩ | ⟨q, st₀, t, T', L, E, ce, h0, X', hL, e1, e2, ⟨hp, hz, hk⟩, hce, hcv, hcl, st⟩
  · cases hv
    obtain ⟨t2, a1, b1⟩ := kk hp T' (by rw [e1, hh, h0]) (Stand.forget X' (fun q h => (hL q h).elim))
    exact ⟨t2, st t2 a1, b1⟩
  · rw [h0] at hz hk
    obtain ⟨t2, a1, b1⟩ := kx E ce q t.heap hp hz hk hce hcv hcl T' e1 (Stand.forget X' (fun q h => (hL q h).elim))
    exact ⟨t2, st.trans a1, b1⟩
/-- a throw goes on out of a method that writes nothing -/
theorem rq_out {px : String → Prop} {Qc : Array Value → State → Outcome → State → Prop} {H1 : Heap} {E : String} {ce : Cell} {q : Addr} (hEx : ∀ x ∈ c.exceptionTable.toList, False) (hlocks : meth.locks = false) (hp : px E) (hz : s.heap.size ≤ H1.size) (hk : ∀ q : Nat, q < s.heap.size → H1[q]? = s.heap[q]?)
    (hce : H1[q]? = some ce) (hcv : ce.vm = .none) (hcl : s.vm.findClass E = some ce.cls) (hc : cells ≤ mc) (hs : slots ≤ ms) :
    vx_W p l e R s m args below meth c H1 [] cells slots (vx_MQ below Qc (rq_X px) args s mc ms (fun _ => False)) (F0 m pc ls rest) q :=
  vx_out (fun x hx => (hEx x hx).elim) hlocks hce hcv hcl (fun t ht _ => ⟨hp, by rw [ht]; exact hz, fun q hq => by rw [ht]; exact hk q hq⟩) (fun _ h9 => nomatch h9) hc hs
/-- .. and of one that writes its world -/
theorem rx_out {S : Type} {D : va_G} {cl : List vw_C} {tys : List (ClassId × FieldType)} {A : Nat → Prop} {w : S → va_W} {ws : va_W} {px : String → S → Prop} {Qc : Array Value → State → Outcome → State → Prop} {H1 : Heap} {E : String} {ce : Cell} {q : Addr} (u : S) (hw : w u = ws)
    (hEx : ∀ x ∈ c.exceptionTable.toList, False) (hlocks : meth.locks = false) (hK : va_K D cl tys s) (hP : va_P D cl ws H) (hD : va_D A ws) (hS : va_S A s.heap H locs) (hp : px E u) (hz : H.size ≤ H1.size) (hk : ∀ q : Nat, q < H.size → H1[q]? = H[q]?)
    (hce : H1[q]? = some ce) (hcv : ce.vm = .none) (hcl : s.vm.findClass E = some ce.cls) (hc : cells ≤ mc) (hs : slots ≤ ms) :
    vx_W p l e R s m args below meth c H1 locs cells slots (vx_MQ below Qc (rw_X D cl tys A w px) args s mc ms A) (F0 m pc ls rest) q := by
  refine vx_out (fun x hx => (hEx x hx).elim) hlocks hce hcv hcl (fun t ht hvm => ?_) hS.2.2 hc hs
  subst hw
  exact ⟨u, trivial, ⟨hp, by rw [ht]; exact hP.kept (fun k q hk' => hk q.1 ((hP k q hk').lt)), va_K.moved hvm hK, hD⟩, ⟨by rw [ht]; exact Nat.le_trans hS.1 hz, fun q h1 h2 => by rw [ht, hk q (Nat.lt_of_lt_of_le h1 hS.1)]; exact hS.2.1 q h1 h2⟩⟩
end RX

theorem xc_moved {C D : String} {u U : State} (hvm : u.vm.Alike U.vm) (h : ∀ a, (Cond.castable C D).before a u = true) : ∀ a, (Cond.castable C D).before a U = true := by
  intro a
  have h1 : (Cond.castable C D).before #[] (u.setVm U.vm) = true := by rw [Cond.castable_setVm hvm]; exact h #[]
  exact va_tabs (u := u.setVm U.vm) rfl rfl h1
theorem xd_moved {y : MethodName} {u U : State} (hvm : u.vm.Alike U.vm) (h : ∀ a, (Cond.declares y).before a u = true) : ∀ a, (Cond.declares y).before a U = true := by
  intro a
  have h1 : (Cond.declares y).before #[] (u.setVm U.vm) = true := by rw [Cond.declares_setVm hvm]; exact h #[]
  exact va_tabs (u := u.setVm U.vm) rfl rfl h1
/-- what a throw needs of the heap and of the constants: statics of Throwable out of the written part, the texts -/
def xt_T (A : Nat → Prop) (sa : Nat → Nat) (U : State) (H : Heap) : Prop := vx_Zq Bundle.tN "UNASSIGNED_STACK" Bundle.steD A U H ∧ vx_Zq Bundle.tN "SUPPRESSED_SENTINEL" Bundle.listD A U H ∧ (vk_R R_T 151 "a number is out of its range" (sa 0) U ∧ vk_R R_T 156 "there is no such register" (sa 1) U ∧ vk_R R_T 158 "the register has no object" (sa 2) U ∧ vk_R R_T 160 "the register has no object of slots" (sa 3) U ∧ vk_R R_T 162 "the register has no object of bytes" (sa 4) U ∧ vk_R R_T 166 "the object has no such slot or byte" (sa 5) U ∧ vk_R R_T 171 "there is no room for the object" (sa 6) U ∧ (∀ a, (Cond.castable "java/lang/IllegalArgumentException" "java/lang/IllegalArgumentException").before a U = true) ∧ (∀ a, (Cond.castable "java/lang/IndexOutOfBoundsException" "java/lang/IndexOutOfBoundsException").before a U = true) ∧ (∀ a, (Cond.castable "java/lang/UnsupportedOperationException" "java/lang/UnsupportedOperationException").before a U = true) ∧ (∀ a, (Cond.declares (Bundle.initS "java/lang/RuntimeException")).before a U = true) ∧ (∀ a, (Cond.declares (Bundle.initS "java/lang/Exception")).before a U = true) ∧ (∀ a, (Cond.declares (Bundle.initS "java/lang/Throwable")).before a U = true))
theorem xt_at {A : Nat → Prop} {sa : Nat → Nat} {s : State} {H0 H : Heap} {locs : List Loc} (h : xt_T A sa s H0) (hS : va_S A H0 H locs) : xt_T A sa s H := ⟨h.1.kept hS.2.1, h.2.1.kept hS.2.1, h.2.2⟩
theorem xt_to {A B : Nat → Prop} {sa : Nat → Nat} {s U : State} {H : Heap} (h : xt_T A sa s H) (hW : s.WarmedH U.vm) (hAB : ∀ q, B q → A q) : xt_T B sa U H := by
  refine ⟨(vx_Zq.moved hW.alike h.1).narrow hAB, (vx_Zq.moved hW.alike h.2.1).narrow hAB, ?_⟩
  obtain ⟨-, -, t0, t1, t2, t3, t4, t5, t6, c0, c1, c2, d0, d1, d2⟩ := h
  exact ⟨vk_R.warm hW t0, vk_R.warm hW t1, vk_R.warm hW t2, vk_R.warm hW t3, vk_R.warm hW t4, vk_R.warm hW t5, vk_R.warm hW t6, xc_moved hW.alike c0, xc_moved hW.alike c1, xc_moved hW.alike c2, xd_moved hW.alike d0, xd_moved hW.alike d1, xd_moved hW.alike d2⟩
theorem xt_same {A : Nat → Prop} {sa : Nat → Nat} {s U : State} {H : Heap} (h : xt_T A sa s H) (hv : U.vm = s.vm) : xt_T A sa U H := by
  have hA : s.vm.Alike U.vm := by rw [hv]; exact Vm.Alike.refl _
  refine ⟨vx_Zq.moved hA h.1, vx_Zq.moved hA h.2.1, ?_⟩
  obtain ⟨-, -, t0, t1, t2, t3, t4, t5, t6, c0, c1, c2, d0, d1, d2⟩ := h
  exact ⟨vk_R.same hv t0, vk_R.same hv t1, vk_R.same hv t2, vk_R.same hv t3, vk_R.same hv t4, vk_R.same hv t5, vk_R.same hv t6, xc_moved hA c0, xc_moved hA c1, xc_moved hA c2, xd_moved hA d0, xd_moved hA d1, xd_moved hA d2⟩
abbrev xs_P (sa : Nat → Nat) (av : List Value) : Array Value → State → Prop := va_Pc av (fun U => xt_T (fun _ => False) sa U U.heap)
abbrev xo_P (D : va_G) (cl : List vw_C) (ws : va_W) (tys : List (ClassId × FieldType)) (sa : Nat → Nat) (av : List Value) : Array Value → State → Prop := va_Pc av (fun U => va_P D cl ws U.heap ∧ va_K D cl tys U ∧ xt_T (fun _ => False) sa U U.heap)
abbrev xw_P (D : va_G) (cl : List vw_C) (ws : va_W) (tys : List (ClassId × FieldType)) (sz : Nat) (sa : Nat → Nat) (av : List Value) : Array Value → State → Prop := va_Pc av (fun U => U.heap.size = sz ∧ va_P D cl ws U.heap ∧ va_K D cl tys U ∧ va_D (fun _ => True) ws ∧ xt_T (va_A ws sz) sa U U.heap)
theorem xs_PS {A : Nat → Prop} {sa : Nat → Nat} {s : State} {H : Heap} {As : List Value} (h : xt_T A sa s H) : PreS s H (xs_P sa As) As :=
  ⟨fun a U g mk q => ⟨q.1, xt_same (U := U.calling g mk a) q.2 rfl⟩, fun U hU hW => ⟨rfl, by rw [hU]; exact xt_to h hW (fun _ f => f.elim)⟩⟩
section XP
variable {s : State} {H : Heap} {D : va_G} {cl : List vw_C} {ws : va_W} {tys : List (ClassId × FieldType)} {A : Nat → Prop} {As : List Value} {b ci q0 : Nat} {q : vw_C} {fs : List Value} {sa : Nat → Nat}
theorem xo_PV (hK : va_K D cl tys s) (hP : va_P D cl ws H) (hX : xt_T A sa s H) (hc : cl[ci]? = some q) (he : ws[q0]? = some (b, .inr (ci, fs))) : PreV s H q.1 b (xo_P D cl ws tys sa (.ref b :: As)) As :=
  ⟨fun a U g mk z => ⟨z.1, z.2.1, va_K.moved (u := U) (U := U.calling g mk a) (Vm.Alike.refl U.vm) z.2.2.1, xt_same (U := U.calling g mk a) z.2.2.2 rfl⟩, va_recv hK hP hc he, fun U hU hW => ⟨rfl, by rw [hU]; exact hP, va_K.moved hW.alike hK, by rw [hU]; exact xt_to hX hW (fun _ f => f.elim)⟩⟩
theorem xw_PV (hK : va_K D cl tys s) (hP : va_P D cl ws H) (hD : va_D A ws) (hX : xt_T A sa s H) (hF : ∀ q, va_A ws H.size q → A q) (hc : cl[ci]? = some q) (he : ws[q0]? = some (b, .inr (ci, fs))) : PreV s H q.1 b (xw_P D cl ws tys H.size sa (.ref b :: As)) As :=
  ⟨fun a U g mk z => ⟨z.1, z.2.1, z.2.2.1, va_K.moved (u := U) (U := U.calling g mk a) (Vm.Alike.refl U.vm) z.2.2.2.1, z.2.2.2.2.1, xt_same (U := U.calling g mk a) z.2.2.2.2.2 rfl⟩, va_recv hK hP hc he, fun U hU hW => ⟨rfl, by rw [hU], by rw [hU]; exact hP, va_K.moved hW.alike hK, hD.weaken (fun _ _ _ _ => trivial), by rw [hU]; exact xt_to hX hW hF⟩⟩
end XP

abbrev TSw (cA : ClassId) (a0 : Nat) (aR : Nat) (aM : Nat) (aW : Nat) (aP : Nat) (aS : Nat) (aC : Nat) (aO : Nat) (nW : Nat) (nE : Nat) (R : Nat → Int32) (f : Nat → Int32) (us : Int32) (P : Nat → Int32) (S : Nat → Int32) (sc : Int32) (li : Int32) (rc : Nat → Int32) (rn : Int32) (ro : Nat → Int32) (rd : Int32) (st : Int32) : va_W := [(a0, .inr (0, [.ref aR, .ref aM])), (aR, .inl (cA, 32, .inl R)), (aM, .inr (1, [.ref aW, .int us, .ref aP, .ref aS, .int sc, .int li, .ref aC, .int rn, .ref aO, .int rd, .int st])), (aW, .inl (cA, nW, .inl f)), (aP, .inl (cA, nE, .inl P)), (aS, .inl (cA, nE, .inl S)), (aC, .inl (cA, nE, .inl rc)), (aO, .inl (cA, nE, .inl ro))]
end

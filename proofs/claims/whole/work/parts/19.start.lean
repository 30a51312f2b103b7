theorem wd_50 : (Jvm.Cond.classLink "TabledStoreLaw" (8 : Nat) "TabledStore") ∈ WB_ := wb_mk (i := 50) (by decide +kernel) (by decide +kernel)
theorem wd_51 : (Jvm.Cond.instantiable "TabledStore" (2 : Nat)) ∈ WB_ := wb_mk (i := 51) (by decide +kernel) (by decide +kernel)
theorem wd_52 : (Jvm.Cond.methodLink "TabledStoreLaw" (94 : Nat) ({ cls := "TabledStore", name := "<init>", desc := "(II)V" } : Jvm.MethodName)) ∈ WB_ := wb_mk (i := 52) (by decide +kernel) (by decide +kernel)
theorem wd_53 : (Jvm.Cond.instanceMethod ({ cls := "TabledStore", name := "<init>", desc := "(II)V" } : Jvm.MethodName)) ∈ WB_ := wb_mk (i := 53) (by decide +kernel) (by decide +kernel)
theorem wd_54 : (Jvm.Cond.code ({ cls := "TabledStore", name := "<init>", desc := "(II)V" } : Jvm.MethodName) prog_1_method_1_code (3 : Nat) (Option.none : Option Jvm.ClassFile.FieldType)) ∈ WB_ := wb_mk (i := 54) (by decide +kernel) (by decide +kernel)
theorem wd_203 : (Jvm.Cond.methodLink "TabledStoreLaw" (88 : Nat) ({ cls := "TabledStoreLaw", name := "cell", desc := "([II)I" } : Jvm.MethodName)) ∈ WB_ := wb_mk (i := 203) (by decide +kernel) (by decide +kernel)
theorem wd_204 : (Jvm.Cond.static ({ cls := "TabledStoreLaw", name := "cell", desc := "([II)I" } : Jvm.MethodName)) ∈ WB_ := wb_mk (i := 204) (by decide +kernel) (by decide +kernel)
theorem wd_205 : (Jvm.Cond.code ({ cls := "TabledStoreLaw", name := "cell", desc := "([II)I" } : Jvm.MethodName) method_2_code (2 : Nat) (Option.some Jvm.ClassFile.FieldType.int)) ∈ WB_ := wb_mk (i := 205) (by decide +kernel) (by decide +kernel)
theorem wd_609 : (Jvm.Cond.classLink "TabledStoreLaw" (96 : Nat) "TabledStoreModel") ∈ WB_ := wb_mk (i := 609) (by decide +kernel) (by decide +kernel)
theorem wd_610 : (Jvm.Cond.instantiable "TabledStoreModel" (18 : Nat)) ∈ WB_ := wb_mk (i := 610) (by decide +kernel) (by decide +kernel)
theorem wd_611 : (Jvm.Cond.methodLink "TabledStoreLaw" (98 : Nat) ({ cls := "TabledStoreModel", name := "<init>", desc := "(II)V" } : Jvm.MethodName)) ∈ WB_ := wb_mk (i := 611) (by decide +kernel) (by decide +kernel)
theorem wd_612 : (Jvm.Cond.instanceMethod ({ cls := "TabledStoreModel", name := "<init>", desc := "(II)V" } : Jvm.MethodName)) ∈ WB_ := wb_mk (i := 612) (by decide +kernel) (by decide +kernel)
theorem wd_613 : (Jvm.Cond.code ({ cls := "TabledStoreModel", name := "<init>", desc := "(II)V" } : Jvm.MethodName) prog_5_method_1_code (4 : Nat) (Option.none : Option Jvm.ClassFile.FieldType)) ∈ WB_ := wb_mk (i := 613) (by decide +kernel) (by decide +kernel)
theorem wd_847 : (Jvm.Cond.arrayClass Jvm.ClassFile.FieldType.long) ∈ WB_ := wb_mk (i := 847) (by decide +kernel) (by decide +kernel)
theorem g_L_88 : GoodIn WB_ (va_wsS R_L 88 y_L_cell ws_L_cell) := gS_ wd_203 wd_204 wd_37 wd_205
theorem g_L_94 : GoodIn WB_ ws_T_init := gI_ wd_54
theorem g_L_98 : GoodIn WB_ ws_R_init := gI_ wd_613
def wqL_cell (L : Nat) (xs : Nat → Int32) (k : Int32) (post : Int32 → Prop) : Prop := (nI L ≤ k → post 0) ∧ (¬ nI L ≤ k → (vp_in k L ∧ post (xs k.toNatClampNeg)))
abbrev xc_P (b L : Nat) (xs : Nat → Int32) (k : Int32) : Array Value → State → Prop := fun v U => v = ([.ref b, .int k] : List Value).toArray ∧ va_X b L xs U U.heap ∧ b < U.heap.size
set_option maxHeartbeats 4000000 in
set_option maxRecDepth 100000 in
theorem mL_cell (l : Launch) (b L : Nat) (xs : Nat → Int32) (k : Int32) (post : Int32 → Prop) (h : wqL_cell L xs k post) : Met l y_L_cell ws_L_cell ({ frames := 0, cells := 0, slots := 0, locals := 0 }) (xc_P b L xs k) (rq_i post) 0 0 (fun _ => False) := by
  refine Met.ofW (cc := c_L_cell) (maxL := 2) (ret := (some .int)) (by decide) rfl ?_
  intro p e s m args below meth c s₁ B hml hv
  obtain ⟨rfl, hX, hbl⟩ := hv
  have hx := B.exec
  have hb := B.bytes
  have hr9 := B.returns
  have hlocks := B.notSynchronized
  have hS : va_S (fun _ => False) s.heap s.heap [] := va_S.rf
  have hl := lv_entry ([.ref b, .int k]) (n := 2) (Nat.le_of_ble_eq_true rfl)
  rw [lg_entry_eq]
  generalize (lg_sl ([.ref b, .int k]) ++ List.replicate (2 - (lg_sl ([.ref b, .int k])).length) Slot.unset).toArray = ls at hl ⊢
  have hl : lv_has ls 2 [(0, .ref b), (1, .int k)] := hl
  unfold wqL_cell at h
  refine lv_iload_n hx hb d_L_cell_0 rfl (lv_at hl 1 rfl) ?_
  refine lv_aload_n hx hb d_L_cell_1 rfl (lv_at hl 0 rfl) ?_
  refine va_slen hx hb hX hbl (fun q => q) hS d_L_cell_2 ?_
  refine lv_icmp_ge (tgt := 12) hx hb d_L_cell_3 (by decide) (fun c_3 => ?_) (fun c_3 => ?_)
  · have h := h.1 c_3
    refine lv_iconst (v := (0 : Int32)) hx hb d_L_cell_12 (by decide) ?_
    exact W.iret (v := (0 : Int32)) hx hb hr9 (fun t ht hW => ⟨_, rfl, h, ht⟩) (fun _ h9 => nomatch h9) d_L_cell_13
  · have h := h.2 c_3
    refine lv_aload_n hx hb d_L_cell_6 rfl (lv_at hl 0 rfl) ?_
    refine lv_iload_n hx hb d_L_cell_7 rfl (lv_at hl 1 rfl) ?_
    refine va_sld hx hb hX hbl (fun q => q) hS h.1 d_L_cell_8 ?_
    refine lv_goto (tgt := 13) hx hb d_L_cell_9 (by decide) ?_
    exact W.iret (v := xs k.toNatClampNeg) hx hb hr9 (fun t ht hW => ⟨_, rfl, h.2, ht⟩) (fun _ h9 => nomatch h9) d_L_cell_13
theorem xc_PS {b L : Nat} {xs : Nat → Int32} {k : Int32} {s : State} {H : Heap} (hX : va_X b L xs s H) (hbl : b < H.size) : PreS s H (xc_P b L xs k) [.ref b, .int k] :=
  ⟨fun a U g mk z => ⟨z.1, va_X.moved (u := U) (U := U.calling g mk a) (Vm.Alike.refl U.vm) z.2.1, z.2.2⟩, fun U hU hW => ⟨rfl, by rw [hU]; exact va_X.moved hW.alike hX, by rw [hU]; exact hbl⟩⟩
theorem xt_str {args : Array Value} {s : State} {k : Nat} {tx : String} (h1 : (Cond.stringRef "TabledStore" k tx).before args s = true) (h2 : (Cond.exactly (.string "TabledStore" k) "java/lang/String").before args s = true) : ∃ a, vk_R R_T k tx a s := by
  cases hv : (Term.string "TabledStore" k).eval args s none [] s with
  | none => simp [Cond.before, Cond.holds, Cond.value, hv] at h2
  | some v =>
    cases v with
    | ref a => exact ⟨a, vk_R.of h1 hv⟩
    | null =>
      cases hc : s.vm.findClass "java/lang/String" <;> simp [Cond.before, Cond.holds, Cond.value, hv, hc] at h2
    | _ => simp [Cond.before, Cond.holds, Cond.value, hv] at h2
set_option maxHeartbeats 4000000 in
set_option maxRecDepth 100000 in
theorem xt_start {s : State} {b : Nat} (hts : ∀ w ∈ lw_tbl, w.before #[Value.ref b] s = true) (hgv : (Jvm.Cond.and given_1 narrow_1).before #[Value.ref b] s = true) : ∃ sa : Nat → Nat, xt_T (fun q : Nat => s.heap.size ≤ q) sa s s.heap ∧ xh_N s := by
  have hs := flat_of_before _ hgv
  obtain ⟨t0, e0⟩ := xt_str (s := s) (args := #[Value.ref b]) (k := 159) (tx := "a number is out of its range") (hts _ (List.mem_of_getElem? (i := 290) (by decide +kernel))) (hs _ (by decide +kernel))
  obtain ⟨t1, e1⟩ := xt_str (s := s) (args := #[Value.ref b]) (k := 164) (tx := "there is no such register") (hts _ (List.mem_of_getElem? (i := 258) (by decide +kernel))) (hs _ (by decide +kernel))
  obtain ⟨t2, e2⟩ := xt_str (s := s) (args := #[Value.ref b]) (k := 166) (tx := "the register has no object") (hts _ (List.mem_of_getElem? (i := 374) (by decide +kernel))) (hs _ (by decide +kernel))
  obtain ⟨t3, e3⟩ := xt_str (s := s) (args := #[Value.ref b]) (k := 168) (tx := "the register has no object of slots") (hts _ (List.mem_of_getElem? (i := 420) (by decide +kernel))) (hs _ (by decide +kernel))
  obtain ⟨t4, e4⟩ := xt_str (s := s) (args := #[Value.ref b]) (k := 170) (tx := "the register has no object of bytes") (hts _ (List.mem_of_getElem? (i := 502) (by decide +kernel))) (hs _ (by decide +kernel))
  obtain ⟨t5, e5⟩ := xt_str (s := s) (args := #[Value.ref b]) (k := 174) (tx := "the object has no such slot or byte") (hts _ (List.mem_of_getElem? (i := 438) (by decide +kernel))) (hs _ (by decide +kernel))
  obtain ⟨t6, e6⟩ := xt_str (s := s) (args := #[Value.ref b]) (k := 179) (tx := "there is no room for the object") (hts _ (List.mem_of_getElem? (i := 351) (by decide +kernel))) (hs _ (by decide +kernel))
  refine ⟨fun i => [t0, t1, t2, t3, t4, t5, t6].getD i 0, ⟨?_, ?_, e0, e1, e2, e3, e4, e5, e6, fun a => va_any rfl (hts _ (List.mem_of_getElem? (i := 219) (by decide +kernel))), fun a => va_any rfl (hts _ (List.mem_of_getElem? (i := 431) (by decide +kernel))), fun a => va_any rfl (hts _ (List.mem_of_getElem? (i := 344) (by decide +kernel))), fun a => va_any rfl (hts _ (List.mem_of_getElem? (i := 221) (by decide +kernel))), fun a => va_any rfl (hts _ (List.mem_of_getElem? (i := 223) (by decide +kernel))), fun a => va_any rfl (hts _ (List.mem_of_getElem? (i := 225) (by decide +kernel)))⟩, ?_, ?_⟩
  · exact vx_Zqof (args := #[Value.ref b]) (hts _ (List.mem_of_getElem? (i := 244) (by decide +kernel))) (hts _ (List.mem_of_getElem? (i := 41) (by decide +kernel))) (hs _ (by decide +kernel)) (fun a h => Nat.not_le.mpr h)
  · exact vx_Zqof (args := #[Value.ref b]) (hts _ (List.mem_of_getElem? (i := 246) (by decide +kernel))) (hts _ (List.mem_of_getElem? (i := 41) (by decide +kernel))) (hs _ (by decide +kernel)) (fun a h => Nat.not_le.mpr h)
  · exact va_Nc.of (args := #[Value.ref b]) (hs _ (by decide +kernel))
  · exact va_Nc.of (args := #[Value.ref b]) (hs _ (by decide +kernel))
def wqL_law (L : Nat) (xs : Nat → Int32) : Prop := wqL_cell L xs 0 (fun r6 => wqL_cell L xs 1 (fun r11 => wqT_init r6 r11 (fun nW nE zS => wqL_cell L xs 0 (fun r24 => wqL_cell L xs 1 (fun r29 => wqR_init r24 r29 (fun mwd men zN => wqL_law_43 nW nE L xs 513 2 (fun _ => 0) (fun _ => 0) 0 (fun _ => 0) zS (nI nE) 0 (fun _ => 0) 0 (fun _ => 0) 0 1 0 mwd men (fun _ => 0) (fun _ => 0) (fun _ => 0) (fun _ => 0) (fun _ => 0) (fun _ => 0) 0 0 (fun _ => 0) zN 0 (fun _ => 0) (fun _ => 0) 0 0 (fun _ => 0)))))))
set_option maxHeartbeats 40000000 in
set_option maxRecDepth 100000 in
theorem whole_open {p : Program} {e : Env} {s : State} {m : MethodId} {below : List Frame} {meth : Method} {c : Code} (l : Launch) (hlT : l.stackTraces = false) {b L : Nat} {xs : Nat → Int32} (C0 : lw_At p s m meth c b L xs) (h : wqL_law L xs) : W p l e room_1 s m #[Value.ref b] below meth c s.heap [] 0 0 (lw_Z below #[Value.ref b] s) (entryFrame m ([Value.ref b] : List Value).toArray 7) := by
  obtain ⟨hx, hb, hr9, hml, hown, hts, hX, hbl, hlocks, hgv⟩ := id C0
  have hw : ∀ w ∈ WB_, w.before _ s = true := fun w h => hts w (List.mem_filter.mp h).1
  obtain ⟨sa, hXT, hNC⟩ := xt_start hts hgv
  have hA : ∀ q : Nat, s.heap.size ≤ q → (fun q : Nat => s.heap.size ≤ q) q := fun _ h => h
  have hbA : ¬ (fun q : Nat => s.heap.size ≤ q) b := Nat.not_le.mpr hbl
  have hown : s.vm.findClass R_L = some m.cls := hown
  obtain ⟨k0, iS0, hKn0⟩ := u_known (C := R_T) (T := T_T) (N := 2) (n := 2) hw in_T (hw _ wd_51)
  obtain ⟨k1, iS1, hKn1⟩ := u_known (C := R_M) (T := T_M) (N := 11) (n := 11) hw in_M (hw _ wd_59)
  obtain ⟨k2, iS2, hKn2⟩ := u_known (C := R_R) (T := T_R) (N := 18) (n := 18) hw in_R (hw _ wd_610)
  obtain ⟨dC, dI, hKc⟩ : ∃ (dC : Nat → ClassId) (dI : Nat → Nat → Nat), ∀ (k : Nat) (q : vw_C), vwCl[k]? = some q → u_Kn s q.1 q.2.1 q.2.2 (dC k) (dI k) := by
    refine ⟨fun k => if k = 0 then k0 else if k = 1 then k1 else k2, fun k => if k = 0 then iS0 else if k = 1 then iS1 else iS2, ?_⟩
    intro k q hq
    match k, hq with
    | 0, hq => cases hq; exact hKn0
    | 1, hq => cases hq; exact hKn1
    | 2, hq => cases hq; exact hKn2
    | k + 3, hq => simp [vwCl] at hq
  have hS : va_S (fun q : Nat => s.heap.size ≤ q) s.heap s.heap [] := va_S.rf
  have hK : va_K (dC, dI) vwCl [] s := ⟨hKc, fun k q h => by simp at h⟩
  have hP : va_P (dC, dI) vwCl [] s.heap := fun k q h => by simp at h
  have hD : va_D (fun q : Nat => s.heap.size ≤ q) [] := ⟨fun i j p q h => by simp at h, fun k q h => by simp at h⟩
  have hl := lv_entry ([.ref b]) (n := 7) (Nat.le_of_ble_eq_true rfl)
  rw [lg_entry_eq]
  generalize (lg_sl ([.ref b]) ++ List.replicate (7 - (lg_sl ([.ref b])).length) Slot.unset).toArray = ls at hl ⊢
  have hl : lv_has ls 7 [(0, .ref b)] := hl
  unfold wqL_law at h
  refine va_new (ci := 0) (fs := [.null, .null]) (C := R_T) (T := T_T) (N := 2) hx hb hw in_T ty_T ty_T_ok hown (hw _ wd_50) (hw _ wd_51) (hw _ wd_38) hK hP hD hS hA rfl (fun j hj => by rcases (show j = 0 ∨ j = 1 by omega) with rfl | rfl <;> rfl) (by show 0 + 1 ≤ 601024; omega) (by show 0 + 2 ≤ 7293000; omega) d_L_law_0 (fun a0 H hP hD hS => ?_)
  have hP : va_P (dC, dI) vwCl ([(a0, .inr (0, [.null, .null]))]) H := hP
  have hD : va_D (fun q : Nat => s.heap.size ≤ q) ([(a0, .inr (0, [.null, .null]))]) := hD
  refine lv_dup hx hb d_L_law_3 rfl ?_
  refine lv_aload_n hx hb d_L_law_4 rfl (lv_at hl 0 rfl) ?_
  refine lv_iconst (v := (0 : Int32)) hx hb d_L_law_5 (by decide) ?_
  refine rq_calli (W.runS (As := [.ref b, .int 0]) (rest := [.ref a0, .ref a0]) ⟨hx, hb, hml, hown, hw⟩ (mL_cell l b L xs 0 _ h) (va_cwS 2 hw g_L_88 rfl rfl rfl (by decide +kernel) ⟨Nat.le_of_ble_eq_true rfl, Nat.le_of_ble_eq_true rfl⟩) (xc_PS (hX.kept (hS.2.1 b hbl hbA)) (Nat.lt_of_lt_of_le hbl hS.1)) rfl rfl hl.1 rfl (lv_room (Nat.le_of_ble_eq_true rfl)) d_L_law_6 ⟨by show 1 + 0 ≤ 601024; omega, by show 2 + 0 ≤ 7293000; omega⟩) (fun r6 h => ?_)
  refine lv_aload_n hx hb d_L_law_9 rfl (lv_at hl 0 rfl) ?_
  refine lv_iconst (v := (1 : Int32)) hx hb d_L_law_10 (by decide) ?_
  refine rq_calli (W.runS (As := [.ref b, .int 1]) (rest := [.int r6, .ref a0, .ref a0]) ⟨hx, hb, hml, hown, hw⟩ (mL_cell l b L xs 1 _ h) (va_cwS 2 hw g_L_88 rfl rfl rfl (by decide +kernel) ⟨Nat.le_of_ble_eq_true rfl, Nat.le_of_ble_eq_true rfl⟩) (xc_PS (hX.kept (hS.2.1 b hbl hbA)) (Nat.lt_of_lt_of_le hbl hS.1)) rfl rfl hl.1 rfl (lv_room (Nat.le_of_ble_eq_true rfl)) d_L_law_11 ⟨by show 1 + 0 ≤ 601024; omega, by show 2 + 0 ≤ 7293000; omega⟩) (fun r11 h => ?_)
  have hPc := hP.sub (ws' := [(a0, .inr (0, [.null, .null]))]) [0] rfl
  have hDc := hD.sub (ws' := [(a0, .inr (0, [.null, .null]))]) [0] (by decide) rfl
  have hKd := hK.sub (tys' := []) [] rfl
  have hFc := va_free (wc := [(a0, .inr (0, [.null, .null]))]) hD hS hA [0] rfl
  refine va_callv (va_runI (As := [.int r6, .int r11]) (rest := [.ref a0]) ⟨hx, hb, hml, hown, hw⟩ (mT_init l dC dI a0 H.size r6 r11 _ h) (cwI 2 hw g_L_94 rfl rfl rfl (hw _ wd_38) (hw _ wd_52) (hw _ wd_53) rfl (by decide +kernel) ⟨Nat.le_of_ble_eq_true rfl, Nat.le_of_ble_eq_true rfl⟩) ⟨rw_blind, fun U hU hW => ⟨rfl, by rw [hU], by rw [hU]; exact hPc, va_K.moved hW.alike hKd, hDc.weaken (fun _ _ _ _ => trivial)⟩⟩ rfl rfl hl.1 rfl (lv_room (Nat.le_of_ble_eq_true rfl)) d_L_law_14 ⟨by show 1 + 7 ≤ 601024; omega, by show 2 + 98347 ≤ 7293000; omega⟩) hS (fun q _ h => hFc q h) hFc (fun u t H1 locs ht hvm h hB hz1 hk1 hS => ?_)
  obtain ⟨nW, nE, zS⟩ := u
  obtain ⟨cA, aR, aM, aW, aP, aS, aC, aO, hP1, hK1, hD1⟩ := hB
  rw [ht] at hP1
  have hK1 := va_K.moved hvm.symm hK1
  obtain ⟨hP, hD⟩ := va_join (wr := []) (w1 := TSw cA a0 aR aM aW aP aS aC aO nW nE (fun _ => 0) (fun _ => 0) 0 (fun _ => 0) zS (nI nE) 0 (fun _ => 0) 0 (fun _ => 0) 0 1) hP hD [0] [] rfl rfl (by decide) (by decide) hk1 hFc hP1 hD1
  have hK : va_K (dC, dI) vwCl [(cA, .int)] s := hK1
  generalize H1 = H at hP hS ⊢
  clear hPc hDc hKd hFc hP1 hD1 hK1 hk1
  try dsimp only at h
  have hP : va_P (dC, dI) vwCl (TSw cA a0 aR aM aW aP aS aC aO nW nE (fun _ => 0) (fun _ => 0) 0 (fun _ => 0) zS (nI nE) 0 (fun _ => 0) 0 (fun _ => 0) 0 1) H := hP
  have hD : va_D (fun q : Nat => s.heap.size ≤ q) (TSw cA a0 aR aM aW aP aS aC aO nW nE (fun _ => 0) (fun _ => 0) 0 (fun _ => 0) zS (nI nE) 0 (fun _ => 0) 0 (fun _ => 0) 0 1) := hD
  refine lv_astore_n (lv' := [(1, .ref a0), (0, .ref b)]) hx hb d_L_law_17 rfl hl (by decide) rfl (fun ls hl => ?_)
  refine va_new (ci := 2) (fs := [.int 0, .int 0, .int 0, .null, .null, .null, .null, .null, .null, .int 0, .int 0, .null, .null, .int 0, .null, .null, .int 0, .int 0]) (C := R_R) (T := T_R) (N := 18) hx hb hw in_R ty_R ty_R_ok hown (hw _ wd_609) (hw _ wd_610) (hw _ wd_40) hK hP hD hS hA rfl (fun j hj => by rcases (show j = 0 ∨ j = 1 ∨ j = 2 ∨ j = 3 ∨ j = 4 ∨ j = 5 ∨ j = 6 ∨ j = 7 ∨ j = 8 ∨ j = 9 ∨ j = 10 ∨ j = 11 ∨ j = 12 ∨ j = 13 ∨ j = 14 ∨ j = 15 ∨ j = 16 ∨ j = 17 by omega) with rfl | rfl | rfl | rfl | rfl | rfl | rfl | rfl | rfl | rfl | rfl | rfl | rfl | rfl | rfl | rfl | rfl | rfl <;> rfl) (by show 8 + 1 ≤ 601024; omega) (by show 98349 + 18 ≤ 7293000; omega) d_L_law_18 (fun b0 H hP hD hS => ?_)
  have hP : va_P (dC, dI) vwCl ((TSw cA a0 aR aM aW aP aS aC aO nW nE (fun _ => 0) (fun _ => 0) 0 (fun _ => 0) zS (nI nE) 0 (fun _ => 0) 0 (fun _ => 0) 0 1) ++ [(b0, .inr (2, [.int 0, .int 0, .int 0, .null, .null, .null, .null, .null, .null, .int 0, .int 0, .null, .null, .int 0, .null, .null, .int 0, .int 0]))]) H := hP
  have hD : va_D (fun q : Nat => s.heap.size ≤ q) ((TSw cA a0 aR aM aW aP aS aC aO nW nE (fun _ => 0) (fun _ => 0) 0 (fun _ => 0) zS (nI nE) 0 (fun _ => 0) 0 (fun _ => 0) 0 1) ++ [(b0, .inr (2, [.int 0, .int 0, .int 0, .null, .null, .null, .null, .null, .null, .int 0, .int 0, .null, .null, .int 0, .null, .null, .int 0, .int 0]))]) := hD
  refine lv_dup hx hb d_L_law_21 rfl ?_
  refine lv_aload_n hx hb d_L_law_22 rfl (lv_at hl 1 rfl) ?_
  refine lv_iconst (v := (0 : Int32)) hx hb d_L_law_23 (by decide) ?_
  refine rq_calli (W.runS (As := [.ref b, .int 0]) (rest := [.ref b0, .ref b0]) ⟨hx, hb, hml, hown, hw⟩ (mL_cell l b L xs 0 _ h) (va_cwS 2 hw g_L_88 rfl rfl rfl (by decide +kernel) ⟨Nat.le_of_ble_eq_true rfl, Nat.le_of_ble_eq_true rfl⟩) (xc_PS (hX.kept (hS.2.1 b hbl hbA)) (Nat.lt_of_lt_of_le hbl hS.1)) rfl rfl hl.1 rfl (lv_room (Nat.le_of_ble_eq_true rfl)) d_L_law_24 ⟨by show 9 + 0 ≤ 601024; omega, by show 98367 + 0 ≤ 7293000; omega⟩) (fun r24 h => ?_)
  refine lv_aload_n hx hb d_L_law_27 rfl (lv_at hl 1 rfl) ?_
  refine lv_iconst (v := (1 : Int32)) hx hb d_L_law_28 (by decide) ?_
  refine rq_calli (W.runS (As := [.ref b, .int 1]) (rest := [.int r24, .ref b0, .ref b0]) ⟨hx, hb, hml, hown, hw⟩ (mL_cell l b L xs 1 _ h) (va_cwS 2 hw g_L_88 rfl rfl rfl (by decide +kernel) ⟨Nat.le_of_ble_eq_true rfl, Nat.le_of_ble_eq_true rfl⟩) (xc_PS (hX.kept (hS.2.1 b hbl hbA)) (Nat.lt_of_lt_of_le hbl hS.1)) rfl rfl hl.1 rfl (lv_room (Nat.le_of_ble_eq_true rfl)) d_L_law_29 ⟨by show 9 + 0 ≤ 601024; omega, by show 98367 + 0 ≤ 7293000; omega⟩) (fun r29 h => ?_)
  have hPc := hP.sub (ws' := [(b0, .inr (2, [.int 0, .int 0, .int 0, .null, .null, .null, .null, .null, .null, .int 0, .int 0, .null, .null, .int 0, .null, .null, .int 0, .int 0]))]) [8] rfl
  have hDc := hD.sub (ws' := [(b0, .inr (2, [.int 0, .int 0, .int 0, .null, .null, .null, .null, .null, .null, .int 0, .int 0, .null, .null, .int 0, .null, .null, .int 0, .int 0]))]) [8] (by decide) rfl
  have hKd := hK.sub (tys' := []) [] rfl
  have hFc := va_free (wc := [(b0, .inr (2, [.int 0, .int 0, .int 0, .null, .null, .null, .null, .null, .null, .int 0, .int 0, .null, .null, .int 0, .null, .null, .int 0, .int 0]))]) hD hS hA [8] rfl
  refine va_callv (va_runI (As := [.int r24, .int r29]) (rest := [.ref b0]) ⟨hx, hb, hml, hown, hw⟩ (mR_init l dC dI b0 H.size r24 r29 _ h) (cwI 2 hw g_L_98 rfl rfl rfl (hw _ wd_40) (hw _ wd_611) (hw _ wd_612) rfl (by decide +kernel) ⟨Nat.le_of_ble_eq_true rfl, Nat.le_of_ble_eq_true rfl⟩) ⟨rw_blind, fun U hU hW => ⟨rfl, by rw [hU], by rw [hU]; exact hPc, va_K.moved hW.alike hKd, hDc.weaken (fun _ _ _ _ => trivial)⟩⟩ rfl rfl hl.1 rfl (lv_room (Nat.le_of_ble_eq_true rfl)) d_L_law_32 ⟨by show 9 + 10 ≤ 601024; omega, by show 98367 + 188448 ≤ 7293000; omega⟩) hS (fun q _ h => hFc q h) hFc (fun u t H1 locs ht hvm h hB hz1 hk1 hS => ?_)
  obtain ⟨mwd, men, zN⟩ := u
  obtain ⟨cI, cZ, bR, bI, bC, bY, bZ, bF, bL, bN, bX, bT, hP1, hK1, hD1⟩ := hB
  rw [ht] at hP1
  have hK1 := va_K.moved hvm.symm hK1
  obtain ⟨hP, hD⟩ := va_join (wr := TSw cA a0 aR aM aW aP aS aC aO nW nE (fun _ => 0) (fun _ => 0) 0 (fun _ => 0) zS (nI nE) 0 (fun _ => 0) 0 (fun _ => 0) 0 1) (w1 := RSw cI cZ b0 bR bI bC bY bZ bF bL bN bX bT 0 mwd men (fun _ => 0) (fun _ => 0) (fun _ => 0) (fun _ => 0) (fun _ => 0) (fun _ => 0) 0 0 (fun _ => 0) zN 0 (fun _ => 0) (fun _ => 0) 0 0) hP hD [8] [0, 1, 2, 3, 4, 5, 6, 7] rfl rfl (by decide) (by decide) hk1 hFc hP1 hD1
  have hK : va_K (dC, dI) vwCl [(cA, .int), (cI, .int), (cZ, .boolean)] s := hK.app hK1
  generalize H1 = H at hP hS ⊢
  clear hPc hDc hKd hFc hP1 hD1 hK1 hk1
  try dsimp only at h
  have hP : va_P (dC, dI) vwCl ((TSw cA a0 aR aM aW aP aS aC aO nW nE (fun _ => 0) (fun _ => 0) 0 (fun _ => 0) zS (nI nE) 0 (fun _ => 0) 0 (fun _ => 0) 0 1) ++ (RSw cI cZ b0 bR bI bC bY bZ bF bL bN bX bT 0 mwd men (fun _ => 0) (fun _ => 0) (fun _ => 0) (fun _ => 0) (fun _ => 0) (fun _ => 0) 0 0 (fun _ => 0) zN 0 (fun _ => 0) (fun _ => 0) 0 0)) H := hP
  have hD : va_D (fun q : Nat => s.heap.size ≤ q) ((TSw cA a0 aR aM aW aP aS aC aO nW nE (fun _ => 0) (fun _ => 0) 0 (fun _ => 0) zS (nI nE) 0 (fun _ => 0) 0 (fun _ => 0) 0 1) ++ (RSw cI cZ b0 bR bI bC bY bZ bF bL bN bX bT 0 mwd men (fun _ => 0) (fun _ => 0) (fun _ => 0) (fun _ => 0) (fun _ => 0) (fun _ => 0) 0 0 (fun _ => 0) zN 0 (fun _ => 0) (fun _ => 0) 0 0)) := hD
  refine lv_astore_n (lv' := [(2, .ref b0), (1, .ref a0), (0, .ref b)]) hx hb d_L_law_35 rfl hl (by decide) rfl (fun ls hl => ?_)
  refine lv_iconst (v := (1 : Int32)) hx hb d_L_law_36 (by decide) ?_
  refine va_newa (atype := .long) (ty := .long) (a0 := (1, .inr (.inl (fun _ => (0 : Int64))))) hx hb (hw _ wd_847) rfl hK hP hD hS hA (fun _ => rfl) (by decide) (by decide) (by decide) (by show 19 + 1 ≤ 601024; omega) (by show 286815 + 1 ≤ 7293000; omega) d_L_law_37 (fun aL cL H hK hP hD hS => ?_)
  have hP : va_P (dC, dI) vwCl (LMw cA a0 aR aM aW aP aS aC aO nW nE cI cZ b0 bR bI bC bY bZ bF bL bN bX bT cL aL (fun _ => 0) (fun _ => 0) 0 (fun _ => 0) zS (nI nE) 0 (fun _ => 0) 0 (fun _ => 0) 0 1 0 mwd men (fun _ => 0) (fun _ => 0) (fun _ => 0) (fun _ => 0) (fun _ => 0) (fun _ => 0) 0 0 (fun _ => 0) zN 0 (fun _ => 0) (fun _ => 0) 0 0 (fun _ => (0 : Int64))) H := hP
  have hD : va_D (fun q : Nat => s.heap.size ≤ q) (LMw cA a0 aR aM aW aP aS aC aO nW nE cI cZ b0 bR bI bC bY bZ bF bL bN bX bT cL aL (fun _ => 0) (fun _ => 0) 0 (fun _ => 0) zS (nI nE) 0 (fun _ => 0) 0 (fun _ => 0) 0 1 0 mwd men (fun _ => 0) (fun _ => 0) (fun _ => 0) (fun _ => 0) (fun _ => 0) (fun _ => 0) 0 0 (fun _ => 0) zN 0 (fun _ => 0) (fun _ => 0) 0 0 (fun _ => (0 : Int64))) := hD
  have hK : va_K (dC, dI) vwCl [(cA, .int), (cI, .int), (cZ, .boolean), (cL, .long)] s := hK
  refine lv_astore_n (lv' := [(3, .ref aL), (2, .ref b0), (1, .ref a0), (0, .ref b)]) hx hb d_L_law_39 rfl hl (by decide) rfl (fun ls hl => ?_)
  refine lv_iconst (v := (2 : Int32)) hx hb d_L_law_40 (by decide) ?_
  refine lv_istore (lv' := [(4, .int 2), (3, .ref aL), (2, .ref b0), (1, .ref a0), (0, .ref b)]) hx hb d_L_law_41 hl (by decide) rfl (fun ls hl => ?_)
  refine W.widen (k := 20 + 8 * (513 - 513)) (n := 286816 + 48 * (513 - 513)) (Nat.le_of_ble_eq_true rfl) (Nat.le_of_ble_eq_true rfl) ?_
  exact law_loop l hlT C0 sa hXT hNC dC dI cA a0 aR aM aW aP aS aC aO nW nE cI cZ b0 bR bI bC bY bZ bF bL bN bX bT cL aL hK 513 (Nat.le_refl _) 2 (fun _ => 0) (fun _ => 0) 0 (fun _ => 0) zS (nI nE) 0 (fun _ => 0) 0 (fun _ => 0) 0 1 0 mwd men (fun _ => 0) (fun _ => 0) (fun _ => 0) (fun _ => 0) (fun _ => 0) (fun _ => 0) 0 0 (fun _ => 0) zN 0 (fun _ => 0) (fun _ => 0) 0 0 (fun _ => (0 : Int64)) H _ ls hP hD hS (lv_sub hl [4, 3, 2, 1, 0] rfl) h

/-! the law's helpers: what they need of the start -/
def xh_N (U : State) : Prop := va_Nc "java/lang/UnsupportedOperationException" "java/lang/IllegalArgumentException" U ∧ va_Nc "java/lang/IndexOutOfBoundsException" "java/lang/IllegalArgumentException" U
abbrev xh_P (D : va_G) (cl : List vw_C) (ws : va_W) (tys : List (ClassId × FieldType)) (sz : Nat) (sa : Nat → Nat) (av : List Value) : Array Value → State → Prop := va_Pc av (fun U => U.heap.size = sz ∧ va_P D cl ws U.heap ∧ va_K D cl tys U ∧ va_D (fun _ => True) ws ∧ xt_T (va_A ws sz) sa U U.heap ∧ xh_N U)
theorem xh_PS {s : State} {H : Heap} {D : va_G} {cl : List vw_C} {ws : va_W} {tys : List (ClassId × FieldType)} {A : Nat → Prop} {As : List Value} {sa : Nat → Nat} (hK : va_K D cl tys s) (hP : va_P D cl ws H) (hD : va_D A ws) (hX : xt_T A sa s H) (hF : ∀ q, va_A ws H.size q → A q) (hN : xh_N s) : PreS s H (xh_P D cl ws tys H.size sa As) As :=
  ⟨fun a U g mk z => ⟨z.1, z.2.1, z.2.2.1, va_K.moved (u := U) (U := U.calling g mk a) (Vm.Alike.refl U.vm) z.2.2.2.1, z.2.2.2.2.1, xt_same (U := U.calling g mk a) z.2.2.2.2.2.1 rfl, va_Nc.moved (u := U) (U := U.calling g mk a) (Vm.Alike.refl U.vm) z.2.2.2.2.2.2.1, va_Nc.moved (u := U) (U := U.calling g mk a) (Vm.Alike.refl U.vm) z.2.2.2.2.2.2.2⟩,
    fun U hU hW => ⟨rfl, by rw [hU], by rw [hU]; exact hP, va_K.moved hW.alike hK, hD.weaken (fun _ _ _ _ => trivial), by rw [hU]; exact xt_to hX hW hF, va_Nc.moved hW.alike hN.1, va_Nc.moved hW.alike hN.2⟩⟩
abbrev LHw (cA : ClassId) (a0 : Nat) (aR : Nat) (aM : Nat) (aW : Nat) (aP : Nat) (aS : Nat) (aC : Nat) (aO : Nat) (nW : Nat) (nE : Nat) (cL : ClassId) (aL : Nat) (R : Nat → Int32) (f : Nat → Int32) (us : Int32) (P : Nat → Int32) (S : Nat → Int32) (sc : Int32) (li : Int32) (rc : Nat → Int32) (rn : Int32) (ro : Nat → Int32) (rd : Int32) (st : Int32) (ot : Nat → Int64) : va_W := [(a0, .inr (0, [.ref aR, .ref aM])), (aR, .inl (cA, 32, .inl R)), (aM, .inr (1, [.ref aW, .int us, .ref aP, .ref aS, .int sc, .int li, .ref aC, .int rn, .ref aO, .int rd, .int st])), (aW, .inl (cA, nW, .inl f)), (aP, .inl (cA, nE, .inl P)), (aS, .inl (cA, nE, .inl S)), (aC, .inl (cA, nE, .inl rc)), (aO, .inl (cA, nE, .inl ro)), (aL, .inl (cL, 1, .inr (.inl ot)))]
def wqL_number (nW : Nat) (nE : Nat) (R : Nat → Int32) (st : Int32) (p1 : Int32) (p2 : Int32) (post : Int32 → (Nat → Int32) → Int32 → Prop) : Prop :=
  wqT_number nW nE R st p1 p2 (fun R_3 st_3 => post (0 : Int32) R_3 st_3) (fun E R_3 st_3 => (E = "java/lang/IllegalArgumentException" ∧ (post (1 : Int32) R_3 st_3)))
set_option maxHeartbeats 4000000 in
set_option maxRecDepth 100000 in
theorem mL_number (l : Launch) (hlT : l.stackTraces = false) (sa : Nat → Nat) (dC : Nat → ClassId) (dI : Nat → Nat → Nat) (cA : ClassId) (a0 : Nat) (aR : Nat) (aM : Nat) (aW : Nat) (aP : Nat) (aS : Nat) (aC : Nat) (aO : Nat) (nW : Nat) (nE : Nat) (cL : ClassId) (aL : Nat) (sz : Nat) (R : Nat → Int32) (f : Nat → Int32) (us : Int32) (P : Nat → Int32) (S : Nat → Int32) (sc : Int32) (li : Int32) (rc : Nat → Int32) (rn : Int32) (ro : Nat → Int32) (rd : Int32) (st : Int32) (ot : Nat → Int64) (p1 : Int32) (p2 : Int32) (post : Int32 → (Nat → Int32) → Int32 → Prop) (h : wqL_number nW nE R st p1 p2 post) : Met l y_L_number ws_L_number ({ frames := 8, cells := 2, slots := 12, locals := 144 }) (xh_P (dC, dI) vwCl (LHw cA a0 aR aM aW aP aS aC aO nW nE cL aL R f us P S sc li rc rn ro rd st ot) [(cA, .int), (cL, .long)] sz sa [.ref a0, .int p1, .int p2]) (va_Qi (fun (r : Int32) (u : (Nat → Int32) × Int32) => post r u.1 u.2) (rw_B (dC, dI) vwCl [(cA, .int), (cL, .long)] (va_A (LHw cA a0 aR aM aW aP aS aC aO nW nE cL aL R f us P S sc li rc rn ro rd st ot) sz) (fun u : (Nat → Int32) × Int32 => LHw cA a0 aR aM aW aP aS aC aO nW nE cL aL u.1 f us P S sc li rc rn ro rd u.2 ot)) (va_A (LHw cA a0 aR aM aW aP aS aC aO nW nE cL aL R f us P S sc li rc rn ro rd st ot) sz)) 2 12 (va_A (LHw cA a0 aR aM aW aP aS aC aO nW nE cL aL R f us P S sc li rc rn ro rd st ot) sz) := by
  refine va_MetW (cc := c_L_number) (maxL := 4) (ret := (some .int)) (hh := [(0, 6, 9, 13)]) (by decide) rfl ?_
  intro p e s m args below meth c s₁ B hml hv
  obtain ⟨rfl, hsz, hP, hK, hD0, hXT, hNC⟩ := hv
  have hx := B.exec
  have hb := B.bytes
  have hr9 := B.returns
  have hts := atoms_spec (ws := ws_L_number) B.pre
  have hw : ∀ w ∈ WB_, w.before _ s = true := fun w h => hts w (List.mem_cons_of_mem _ h)
  have hTab : c.exceptionTable.toList = tableOf [(0, 6, 9, 13)] := vx_table (x := y_L_number) B (hts _ List.mem_cons_self)
  have hown : s.vm.findClass R_L = some m.cls := findClass_of_methodNamed B.named
  have hlocks := B.notSynchronized
  subst hsz
  have hD := hD0.self (sz := s.heap.size)
  generalize hAe : va_A (LHw cA a0 aR aM aW aP aS aC aO nW nE cL aL R f us P S sc li rc rn ro rd st ot) s.heap.size = A at hD hXT ⊢
  have hA : ∀ q : Nat, s.heap.size ≤ q → A q := fun q h => by rw [← hAe]; exact Or.inr h
  have hS : va_S A s.heap s.heap [] := va_S.rf
  have hl := lv_entry ([.ref a0, .int p1, .int p2]) (n := 4) (Nat.le_of_ble_eq_true rfl)
  rw [lg_entry_eq]
  generalize (lg_sl ([.ref a0, .int p1, .int p2]) ++ List.replicate (4 - (lg_sl ([.ref a0, .int p1, .int p2])).length) Slot.unset).toArray = ls at hl ⊢
  have hl : lv_has ls 4 [(0, .ref a0), (1, .int p1), (2, .int p2)] := hl
  unfold wqL_number at h
  refine lv_aload_n hx hb d_L_number_0 rfl (lv_at hl 0 rfl) ?_
  refine lv_iload_n hx hb d_L_number_1 rfl (lv_at hl 1 rfl) ?_
  refine lv_iload_n hx hb d_L_number_2 rfl (lv_at hl 2 rfl) ?_
  have hPc := hP.sub (ws' := TSw cA a0 aR aM aW aP aS aC aO nW nE R f us P S sc li rc rn ro rd st) [0, 1, 2, 3, 4, 5, 6, 7] rfl
  have hDc := hD.sub (ws' := TSw cA a0 aR aM aW aP aS aC aO nW nE R f us P S sc li rc rn ro rd st) [0, 1, 2, 3, 4, 5, 6, 7] (by decide) rfl
  have hKc := hK.sub (tys' := [(cA, .int)]) [0] rfl
  have hFc := va_free (wc := TSw cA a0 aR aM aW aP aS aC aO nW nE R f us P S sc li rc rn ro rd st) hD hS hA [0, 1, 2, 3, 4, 5, 6, 7] rfl
  refine vx_callv (vx_runV (As := [.int p1, .int p2]) (rest := []) ⟨hx, hb, hml, hown, hw⟩ (mT_number l hlT sa dC dI cA a0 aR aM aW aP aS aC aO nW nE s.heap.size R f us P S sc li rc rn ro rd st p1 p2 _ _ h) (cwV 2 hw g_L_7 rfl rfl rfl (by decide +kernel) ⟨Nat.le_of_ble_eq_true rfl, Nat.le_of_ble_eq_true rfl⟩) (xw_PV (ci := 0) (q0 := 0) hKc hPc hDc (xt_at hXT hS) hFc rfl rfl) rfl rfl hl.1 rfl (lv_room (Nat.le_of_ble_eq_true rfl)) d_L_number_3 ⟨Nat.le_of_ble_eq_true rfl, Nat.le_of_ble_eq_true rfl⟩) hS (fun q _ h => hFc q h) hFc (fun q _ h => hFc q h) (fun E9 ce q9 u t H1 locs ht hvm _ hB hz1 hk1 hS hce hcv hcl => ?_) (fun u t H1 locs ht hvm h hB hz1 hk1 hS => ?_)
  · obtain ⟨R_3, st_3⟩ := u
    obtain ⟨h, hB⟩ := hB
    obtain ⟨hP1, hK1, hD1⟩ := hB
    rw [ht] at hP1
    obtain ⟨hP, hD⟩ := va_join (wr := [(aL, .inl (cL, 1, .inr (.inl ot)))]) (w1 := TSw cA a0 aR aM aW aP aS aC aO nW nE R_3 f us P S sc li rc rn ro rd st_3) hP hD [0, 1, 2, 3, 4, 5, 6, 7] [8] rfl rfl (by decide) (by decide) hk1 hFc hP1 hD1
    have hP := hP.sub (ws' := LHw cA a0 aR aM aW aP aS aC aO nW nE cL aL R_3 f us P S sc li rc rn ro rd st_3 ot) [1, 2, 3, 4, 5, 6, 7, 8, 0] rfl
    have hD := hD.sub (ws' := LHw cA a0 aR aM aW aP aS aC aO nW nE cL aL R_3 f us P S sc li rc rn ro rd st_3 ot) [1, 2, 3, 4, 5, 6, 7, 8, 0] (by decide) rfl
    generalize H1 = H at hP hS hce ⊢
    clear hPc hDc hKc hFc hP1 hD1 hK1 hk1
    try dsimp only at h
    obtain ⟨rfl, h⟩ := h
    refine vx_catch (own := R_L) (name := "java/lang/IllegalArgumentException") (E := "java/lang/IllegalArgumentException") hown [] ⟨0, 6, 9, 13⟩ [] hTab (fun z hz => nomatch hz) (by decide) (by decide) (hw _ wd_209) (hXT.2.2.2.2.2.2.2.2.2.1 _) hce hcv hcl ?_
    refine lv_astore_n (lv' := [(3, .ref q9), (0, .ref a0), (1, .int p1), (2, .int p2)]) hx hb d_L_number_9 rfl hl (by decide) rfl (fun ls hl => ?_)
    refine lv_iconst (v := (1 : Int32)) hx hb d_L_number_10 (by decide) ?_
    refine W.widen (k := 2) (n := 12) (Nat.le_of_ble_eq_true rfl) (Nat.le_of_ble_eq_true rfl) ?_
    exact W.iret (v := (1 : Int32)) hx hb hr9 (fun t ht hW => ⟨⟨_, (R_3, st_3), rfl, h, by rw [ht]; exact hP, va_K.moved hW.alike hK, hD⟩, hS.F ht⟩) hS.2.2 d_L_number_11
  · obtain ⟨R_3, st_3⟩ := u
    obtain ⟨hP1, hK1, hD1⟩ := hB
    rw [ht] at hP1
    obtain ⟨hP, hD⟩ := va_join (wr := [(aL, .inl (cL, 1, .inr (.inl ot)))]) (w1 := TSw cA a0 aR aM aW aP aS aC aO nW nE R_3 f us P S sc li rc rn ro rd st_3) hP hD [0, 1, 2, 3, 4, 5, 6, 7] [8] rfl rfl (by decide) (by decide) hk1 hFc hP1 hD1
    have hP := hP.sub (ws' := LHw cA a0 aR aM aW aP aS aC aO nW nE cL aL R_3 f us P S sc li rc rn ro rd st_3 ot) [1, 2, 3, 4, 5, 6, 7, 8, 0] rfl
    have hD := hD.sub (ws' := LHw cA a0 aR aM aW aP aS aC aO nW nE cL aL R_3 f us P S sc li rc rn ro rd st_3 ot) [1, 2, 3, 4, 5, 6, 7, 8, 0] (by decide) rfl
    generalize H1 = H at hP hS ⊢
    clear hPc hDc hKc hFc hP1 hD1 hK1 hk1
    try dsimp only at h
    refine lv_goto (tgt := 12) hx hb d_L_number_6 (by decide) ?_
    refine lv_iconst (v := (0 : Int32)) hx hb d_L_number_12 (by decide) ?_
    refine W.widen (k := 2) (n := 12) (Nat.le_of_ble_eq_true rfl) (Nat.le_of_ble_eq_true rfl) ?_
    exact W.iret (v := (0 : Int32)) hx hb hr9 (fun t ht hW => ⟨⟨_, (R_3, st_3), rfl, h, by rw [ht]; exact hP, va_K.moved hW.alike hK, hD⟩, hS.F ht⟩) hS.2.2 d_L_number_13
def wqL_move (nW : Nat) (nE : Nat) (R : Nat → Int32) (st : Int32) (p1 : Int32) (p2 : Int32) (post : Int32 → (Nat → Int32) → Int32 → Prop) : Prop :=
  wqT_move nW nE R st p1 p2 (fun R_3 st_3 => post (0 : Int32) R_3 st_3) (fun E R_3 st_3 => (E = "java/lang/IllegalArgumentException" ∧ (post (1 : Int32) R_3 st_3)))
set_option maxHeartbeats 4000000 in
set_option maxRecDepth 100000 in
theorem mL_move (l : Launch) (hlT : l.stackTraces = false) (sa : Nat → Nat) (dC : Nat → ClassId) (dI : Nat → Nat → Nat) (cA : ClassId) (a0 : Nat) (aR : Nat) (aM : Nat) (aW : Nat) (aP : Nat) (aS : Nat) (aC : Nat) (aO : Nat) (nW : Nat) (nE : Nat) (cL : ClassId) (aL : Nat) (sz : Nat) (R : Nat → Int32) (f : Nat → Int32) (us : Int32) (P : Nat → Int32) (S : Nat → Int32) (sc : Int32) (li : Int32) (rc : Nat → Int32) (rn : Int32) (ro : Nat → Int32) (rd : Int32) (st : Int32) (ot : Nat → Int64) (p1 : Int32) (p2 : Int32) (post : Int32 → (Nat → Int32) → Int32 → Prop) (h : wqL_move nW nE R st p1 p2 post) : Met l y_L_move ws_L_move ({ frames := 8, cells := 2, slots := 12, locals := 142 }) (xh_P (dC, dI) vwCl (LHw cA a0 aR aM aW aP aS aC aO nW nE cL aL R f us P S sc li rc rn ro rd st ot) [(cA, .int), (cL, .long)] sz sa [.ref a0, .int p1, .int p2]) (va_Qi (fun (r : Int32) (u : (Nat → Int32) × Int32) => post r u.1 u.2) (rw_B (dC, dI) vwCl [(cA, .int), (cL, .long)] (va_A (LHw cA a0 aR aM aW aP aS aC aO nW nE cL aL R f us P S sc li rc rn ro rd st ot) sz) (fun u : (Nat → Int32) × Int32 => LHw cA a0 aR aM aW aP aS aC aO nW nE cL aL u.1 f us P S sc li rc rn ro rd u.2 ot)) (va_A (LHw cA a0 aR aM aW aP aS aC aO nW nE cL aL R f us P S sc li rc rn ro rd st ot) sz)) 2 12 (va_A (LHw cA a0 aR aM aW aP aS aC aO nW nE cL aL R f us P S sc li rc rn ro rd st ot) sz) := by
  refine va_MetW (cc := c_L_move) (maxL := 4) (ret := (some .int)) (hh := [(0, 6, 9, 13)]) (by decide) rfl ?_
  intro p e s m args below meth c s₁ B hml hv
  obtain ⟨rfl, hsz, hP, hK, hD0, hXT, hNC⟩ := hv
  have hx := B.exec
  have hb := B.bytes
  have hr9 := B.returns
  have hts := atoms_spec (ws := ws_L_move) B.pre
  have hw : ∀ w ∈ WB_, w.before _ s = true := fun w h => hts w (List.mem_cons_of_mem _ h)
  have hTab : c.exceptionTable.toList = tableOf [(0, 6, 9, 13)] := vx_table (x := y_L_move) B (hts _ List.mem_cons_self)
  have hown : s.vm.findClass R_L = some m.cls := findClass_of_methodNamed B.named
  have hlocks := B.notSynchronized
  subst hsz
  have hD := hD0.self (sz := s.heap.size)
  generalize hAe : va_A (LHw cA a0 aR aM aW aP aS aC aO nW nE cL aL R f us P S sc li rc rn ro rd st ot) s.heap.size = A at hD hXT ⊢
  have hA : ∀ q : Nat, s.heap.size ≤ q → A q := fun q h => by rw [← hAe]; exact Or.inr h
  have hS : va_S A s.heap s.heap [] := va_S.rf
  have hl := lv_entry ([.ref a0, .int p1, .int p2]) (n := 4) (Nat.le_of_ble_eq_true rfl)
  rw [lg_entry_eq]
  generalize (lg_sl ([.ref a0, .int p1, .int p2]) ++ List.replicate (4 - (lg_sl ([.ref a0, .int p1, .int p2])).length) Slot.unset).toArray = ls at hl ⊢
  have hl : lv_has ls 4 [(0, .ref a0), (1, .int p1), (2, .int p2)] := hl
  unfold wqL_move at h
  refine lv_aload_n hx hb d_L_move_0 rfl (lv_at hl 0 rfl) ?_
  refine lv_iload_n hx hb d_L_move_1 rfl (lv_at hl 1 rfl) ?_
  refine lv_iload_n hx hb d_L_move_2 rfl (lv_at hl 2 rfl) ?_
  have hPc := hP.sub (ws' := TSw cA a0 aR aM aW aP aS aC aO nW nE R f us P S sc li rc rn ro rd st) [0, 1, 2, 3, 4, 5, 6, 7] rfl
  have hDc := hD.sub (ws' := TSw cA a0 aR aM aW aP aS aC aO nW nE R f us P S sc li rc rn ro rd st) [0, 1, 2, 3, 4, 5, 6, 7] (by decide) rfl
  have hKc := hK.sub (tys' := [(cA, .int)]) [0] rfl
  have hFc := va_free (wc := TSw cA a0 aR aM aW aP aS aC aO nW nE R f us P S sc li rc rn ro rd st) hD hS hA [0, 1, 2, 3, 4, 5, 6, 7] rfl
  refine vx_callv (vx_runV (As := [.int p1, .int p2]) (rest := []) ⟨hx, hb, hml, hown, hw⟩ (mT_move l hlT sa dC dI cA a0 aR aM aW aP aS aC aO nW nE s.heap.size R f us P S sc li rc rn ro rd st p1 p2 _ _ h) (cwV 2 hw g_L_15 rfl rfl rfl (by decide +kernel) ⟨Nat.le_of_ble_eq_true rfl, Nat.le_of_ble_eq_true rfl⟩) (xw_PV (ci := 0) (q0 := 0) hKc hPc hDc (xt_at hXT hS) hFc rfl rfl) rfl rfl hl.1 rfl (lv_room (Nat.le_of_ble_eq_true rfl)) d_L_move_3 ⟨Nat.le_of_ble_eq_true rfl, Nat.le_of_ble_eq_true rfl⟩) hS (fun q _ h => hFc q h) hFc (fun q _ h => hFc q h) (fun E9 ce q9 u t H1 locs ht hvm _ hB hz1 hk1 hS hce hcv hcl => ?_) (fun u t H1 locs ht hvm h hB hz1 hk1 hS => ?_)
  · obtain ⟨R_3, st_3⟩ := u
    obtain ⟨h, hB⟩ := hB
    obtain ⟨hP1, hK1, hD1⟩ := hB
    rw [ht] at hP1
    obtain ⟨hP, hD⟩ := va_join (wr := [(aL, .inl (cL, 1, .inr (.inl ot)))]) (w1 := TSw cA a0 aR aM aW aP aS aC aO nW nE R_3 f us P S sc li rc rn ro rd st_3) hP hD [0, 1, 2, 3, 4, 5, 6, 7] [8] rfl rfl (by decide) (by decide) hk1 hFc hP1 hD1
    have hP := hP.sub (ws' := LHw cA a0 aR aM aW aP aS aC aO nW nE cL aL R_3 f us P S sc li rc rn ro rd st_3 ot) [1, 2, 3, 4, 5, 6, 7, 8, 0] rfl
    have hD := hD.sub (ws' := LHw cA a0 aR aM aW aP aS aC aO nW nE cL aL R_3 f us P S sc li rc rn ro rd st_3 ot) [1, 2, 3, 4, 5, 6, 7, 8, 0] (by decide) rfl
    generalize H1 = H at hP hS hce ⊢
    clear hPc hDc hKc hFc hP1 hD1 hK1 hk1
    try dsimp only at h
    obtain ⟨rfl, h⟩ := h
    refine vx_catch (own := R_L) (name := "java/lang/IllegalArgumentException") (E := "java/lang/IllegalArgumentException") hown [] ⟨0, 6, 9, 13⟩ [] hTab (fun z hz => nomatch hz) (by decide) (by decide) (hw _ wd_209) (hXT.2.2.2.2.2.2.2.2.2.1 _) hce hcv hcl ?_
    refine lv_astore_n (lv' := [(3, .ref q9), (0, .ref a0), (1, .int p1), (2, .int p2)]) hx hb d_L_move_9 rfl hl (by decide) rfl (fun ls hl => ?_)
    refine lv_iconst (v := (1 : Int32)) hx hb d_L_move_10 (by decide) ?_
    refine W.widen (k := 2) (n := 12) (Nat.le_of_ble_eq_true rfl) (Nat.le_of_ble_eq_true rfl) ?_
    exact W.iret (v := (1 : Int32)) hx hb hr9 (fun t ht hW => ⟨⟨_, (R_3, st_3), rfl, h, by rw [ht]; exact hP, va_K.moved hW.alike hK, hD⟩, hS.F ht⟩) hS.2.2 d_L_move_11
  · obtain ⟨R_3, st_3⟩ := u
    obtain ⟨hP1, hK1, hD1⟩ := hB
    rw [ht] at hP1
    obtain ⟨hP, hD⟩ := va_join (wr := [(aL, .inl (cL, 1, .inr (.inl ot)))]) (w1 := TSw cA a0 aR aM aW aP aS aC aO nW nE R_3 f us P S sc li rc rn ro rd st_3) hP hD [0, 1, 2, 3, 4, 5, 6, 7] [8] rfl rfl (by decide) (by decide) hk1 hFc hP1 hD1
    have hP := hP.sub (ws' := LHw cA a0 aR aM aW aP aS aC aO nW nE cL aL R_3 f us P S sc li rc rn ro rd st_3 ot) [1, 2, 3, 4, 5, 6, 7, 8, 0] rfl
    have hD := hD.sub (ws' := LHw cA a0 aR aM aW aP aS aC aO nW nE cL aL R_3 f us P S sc li rc rn ro rd st_3 ot) [1, 2, 3, 4, 5, 6, 7, 8, 0] (by decide) rfl
    generalize H1 = H at hP hS ⊢
    clear hPc hDc hKc hFc hP1 hD1 hK1 hk1
    try dsimp only at h
    refine lv_goto (tgt := 12) hx hb d_L_move_6 (by decide) ?_
    refine lv_iconst (v := (0 : Int32)) hx hb d_L_move_12 (by decide) ?_
    refine W.widen (k := 2) (n := 12) (Nat.le_of_ble_eq_true rfl) (Nat.le_of_ble_eq_true rfl) ?_
    exact W.iret (v := (0 : Int32)) hx hb hr9 (fun t ht hW => ⟨⟨_, (R_3, st_3), rfl, h, by rw [ht]; exact hP, va_K.moved hW.alike hK, hD⟩, hS.F ht⟩) hS.2.2 d_L_move_13
def wqL_clear (nW : Nat) (nE : Nat) (R : Nat → Int32) (st : Int32) (p1 : Int32) (post : Int32 → (Nat → Int32) → Int32 → Prop) : Prop :=
  wqT_clear nW nE R st p1 (fun R_2 st_2 => post (0 : Int32) R_2 st_2) (fun E R_2 st_2 => (E = "java/lang/IllegalArgumentException" ∧ (post (1 : Int32) R_2 st_2)))
set_option maxHeartbeats 4000000 in
set_option maxRecDepth 100000 in
theorem mL_clear (l : Launch) (hlT : l.stackTraces = false) (sa : Nat → Nat) (dC : Nat → ClassId) (dI : Nat → Nat → Nat) (cA : ClassId) (a0 : Nat) (aR : Nat) (aM : Nat) (aW : Nat) (aP : Nat) (aS : Nat) (aC : Nat) (aO : Nat) (nW : Nat) (nE : Nat) (cL : ClassId) (aL : Nat) (sz : Nat) (R : Nat → Int32) (f : Nat → Int32) (us : Int32) (P : Nat → Int32) (S : Nat → Int32) (sc : Int32) (li : Int32) (rc : Nat → Int32) (rn : Int32) (ro : Nat → Int32) (rd : Int32) (st : Int32) (ot : Nat → Int64) (p1 : Int32) (post : Int32 → (Nat → Int32) → Int32 → Prop) (h : wqL_clear nW nE R st p1 post) : Met l y_L_clear ws_L_clear ({ frames := 8, cells := 1, slots := 6, locals := 141 }) (xh_P (dC, dI) vwCl (LHw cA a0 aR aM aW aP aS aC aO nW nE cL aL R f us P S sc li rc rn ro rd st ot) [(cA, .int), (cL, .long)] sz sa [.ref a0, .int p1]) (va_Qi (fun (r : Int32) (u : (Nat → Int32) × Int32) => post r u.1 u.2) (rw_B (dC, dI) vwCl [(cA, .int), (cL, .long)] (va_A (LHw cA a0 aR aM aW aP aS aC aO nW nE cL aL R f us P S sc li rc rn ro rd st ot) sz) (fun u : (Nat → Int32) × Int32 => LHw cA a0 aR aM aW aP aS aC aO nW nE cL aL u.1 f us P S sc li rc rn ro rd u.2 ot)) (va_A (LHw cA a0 aR aM aW aP aS aC aO nW nE cL aL R f us P S sc li rc rn ro rd st ot) sz)) 1 6 (va_A (LHw cA a0 aR aM aW aP aS aC aO nW nE cL aL R f us P S sc li rc rn ro rd st ot) sz) := by
  refine va_MetW (cc := c_L_clear) (maxL := 3) (ret := (some .int)) (hh := [(0, 5, 8, 13)]) (by decide) rfl ?_
  intro p e s m args below meth c s₁ B hml hv
  obtain ⟨rfl, hsz, hP, hK, hD0, hXT, hNC⟩ := hv
  have hx := B.exec
  have hb := B.bytes
  have hr9 := B.returns
  have hts := atoms_spec (ws := ws_L_clear) B.pre
  have hw : ∀ w ∈ WB_, w.before _ s = true := fun w h => hts w (List.mem_cons_of_mem _ h)
  have hTab : c.exceptionTable.toList = tableOf [(0, 5, 8, 13)] := vx_table (x := y_L_clear) B (hts _ List.mem_cons_self)
  have hown : s.vm.findClass R_L = some m.cls := findClass_of_methodNamed B.named
  have hlocks := B.notSynchronized
  subst hsz
  have hD := hD0.self (sz := s.heap.size)
  generalize hAe : va_A (LHw cA a0 aR aM aW aP aS aC aO nW nE cL aL R f us P S sc li rc rn ro rd st ot) s.heap.size = A at hD hXT ⊢
  have hA : ∀ q : Nat, s.heap.size ≤ q → A q := fun q h => by rw [← hAe]; exact Or.inr h
  have hS : va_S A s.heap s.heap [] := va_S.rf
  have hl := lv_entry ([.ref a0, .int p1]) (n := 3) (Nat.le_of_ble_eq_true rfl)
  rw [lg_entry_eq]
  generalize (lg_sl ([.ref a0, .int p1]) ++ List.replicate (3 - (lg_sl ([.ref a0, .int p1])).length) Slot.unset).toArray = ls at hl ⊢
  have hl : lv_has ls 3 [(0, .ref a0), (1, .int p1)] := hl
  unfold wqL_clear at h
  refine lv_aload_n hx hb d_L_clear_0 rfl (lv_at hl 0 rfl) ?_
  refine lv_iload_n hx hb d_L_clear_1 rfl (lv_at hl 1 rfl) ?_
  have hPc := hP.sub (ws' := TSw cA a0 aR aM aW aP aS aC aO nW nE R f us P S sc li rc rn ro rd st) [0, 1, 2, 3, 4, 5, 6, 7] rfl
  have hDc := hD.sub (ws' := TSw cA a0 aR aM aW aP aS aC aO nW nE R f us P S sc li rc rn ro rd st) [0, 1, 2, 3, 4, 5, 6, 7] (by decide) rfl
  have hKc := hK.sub (tys' := [(cA, .int)]) [0] rfl
  have hFc := va_free (wc := TSw cA a0 aR aM aW aP aS aC aO nW nE R f us P S sc li rc rn ro rd st) hD hS hA [0, 1, 2, 3, 4, 5, 6, 7] rfl
  refine vx_callv (vx_runV (As := [.int p1]) (rest := []) ⟨hx, hb, hml, hown, hw⟩ (mT_clear l hlT sa dC dI cA a0 aR aM aW aP aS aC aO nW nE s.heap.size R f us P S sc li rc rn ro rd st p1 _ _ h) (cwV 1 hw g_L_18 rfl rfl rfl (by decide +kernel) ⟨Nat.le_of_ble_eq_true rfl, Nat.le_of_ble_eq_true rfl⟩) (xw_PV (ci := 0) (q0 := 0) hKc hPc hDc (xt_at hXT hS) hFc rfl rfl) rfl rfl hl.1 rfl (lv_room (Nat.le_of_ble_eq_true rfl)) d_L_clear_2 ⟨Nat.le_of_ble_eq_true rfl, Nat.le_of_ble_eq_true rfl⟩) hS (fun q _ h => hFc q h) hFc (fun q _ h => hFc q h) (fun E9 ce q9 u t H1 locs ht hvm _ hB hz1 hk1 hS hce hcv hcl => ?_) (fun u t H1 locs ht hvm h hB hz1 hk1 hS => ?_)
  · obtain ⟨R_2, st_2⟩ := u
    obtain ⟨h, hB⟩ := hB
    obtain ⟨hP1, hK1, hD1⟩ := hB
    rw [ht] at hP1
    obtain ⟨hP, hD⟩ := va_join (wr := [(aL, .inl (cL, 1, .inr (.inl ot)))]) (w1 := TSw cA a0 aR aM aW aP aS aC aO nW nE R_2 f us P S sc li rc rn ro rd st_2) hP hD [0, 1, 2, 3, 4, 5, 6, 7] [8] rfl rfl (by decide) (by decide) hk1 hFc hP1 hD1
    have hP := hP.sub (ws' := LHw cA a0 aR aM aW aP aS aC aO nW nE cL aL R_2 f us P S sc li rc rn ro rd st_2 ot) [1, 2, 3, 4, 5, 6, 7, 8, 0] rfl
    have hD := hD.sub (ws' := LHw cA a0 aR aM aW aP aS aC aO nW nE cL aL R_2 f us P S sc li rc rn ro rd st_2 ot) [1, 2, 3, 4, 5, 6, 7, 8, 0] (by decide) rfl
    generalize H1 = H at hP hS hce ⊢
    clear hPc hDc hKc hFc hP1 hD1 hK1 hk1
    try dsimp only at h
    obtain ⟨rfl, h⟩ := h
    refine vx_catch (own := R_L) (name := "java/lang/IllegalArgumentException") (E := "java/lang/IllegalArgumentException") hown [] ⟨0, 5, 8, 13⟩ [] hTab (fun z hz => nomatch hz) (by decide) (by decide) (hw _ wd_209) (hXT.2.2.2.2.2.2.2.2.2.1 _) hce hcv hcl ?_
    refine lv_astore_n (lv' := [(2, .ref q9), (0, .ref a0), (1, .int p1)]) hx hb d_L_clear_8 rfl hl (by decide) rfl (fun ls hl => ?_)
    refine lv_iconst (v := (1 : Int32)) hx hb d_L_clear_9 (by decide) ?_
    refine W.widen (k := 1) (n := 6) (Nat.le_of_ble_eq_true rfl) (Nat.le_of_ble_eq_true rfl) ?_
    exact W.iret (v := (1 : Int32)) hx hb hr9 (fun t ht hW => ⟨⟨_, (R_2, st_2), rfl, h, by rw [ht]; exact hP, va_K.moved hW.alike hK, hD⟩, hS.F ht⟩) hS.2.2 d_L_clear_10
  · obtain ⟨R_2, st_2⟩ := u
    obtain ⟨hP1, hK1, hD1⟩ := hB
    rw [ht] at hP1
    obtain ⟨hP, hD⟩ := va_join (wr := [(aL, .inl (cL, 1, .inr (.inl ot)))]) (w1 := TSw cA a0 aR aM aW aP aS aC aO nW nE R_2 f us P S sc li rc rn ro rd st_2) hP hD [0, 1, 2, 3, 4, 5, 6, 7] [8] rfl rfl (by decide) (by decide) hk1 hFc hP1 hD1
    have hP := hP.sub (ws' := LHw cA a0 aR aM aW aP aS aC aO nW nE cL aL R_2 f us P S sc li rc rn ro rd st_2 ot) [1, 2, 3, 4, 5, 6, 7, 8, 0] rfl
    have hD := hD.sub (ws' := LHw cA a0 aR aM aW aP aS aC aO nW nE cL aL R_2 f us P S sc li rc rn ro rd st_2 ot) [1, 2, 3, 4, 5, 6, 7, 8, 0] (by decide) rfl
    generalize H1 = H at hP hS ⊢
    clear hPc hDc hKc hFc hP1 hD1 hK1 hk1
    try dsimp only at h
    refine lv_goto (tgt := 11) hx hb d_L_clear_5 (by decide) ?_
    refine lv_iconst (v := (0 : Int32)) hx hb d_L_clear_11 (by decide) ?_
    refine W.widen (k := 1) (n := 6) (Nat.le_of_ble_eq_true rfl) (Nat.le_of_ble_eq_true rfl) ?_
    exact W.iret (v := (0 : Int32)) hx hb hr9 (fun t ht hW => ⟨⟨_, (R_2, st_2), rfl, h, by rw [ht]; exact hP, va_K.moved hW.alike hK, hD⟩, hS.F ht⟩) hS.2.2 d_L_clear_12
def wqL_make (nW : Nat) (nE : Nat) (R : Nat → Int32) (f : Nat → Int32) (us : Int32) (P : Nat → Int32) (S : Nat → Int32) (sc : Int32) (li : Int32) (rc : Nat → Int32) (rn : Int32) (ro : Nat → Int32) (rd : Int32) (st : Int32) (ot : Nat → Int64) (p1 : Int32) (p2 : Int32) (p3 : Int32) (p4 : Int32) (post : Int32 → (Nat → Int32) → (Nat → Int32) → Int32 → (Nat → Int32) → (Nat → Int32) → Int32 → Int32 → (Nat → Int32) → Int32 → (Nat → Int32) → Int32 → Int32 → (Nat → Int64) → Prop) : Prop :=
  wqT_make nW nE R f us P S sc li rc rn ro rd st p1 p2 p3 p4 (fun r9 R_9 f_9 us_9 P_9 S_9 sc_9 li_9 rc_9 rn_9 ro_9 rd_9 st_9 => vp_in (0 : Int32) 1 ∧ (post (0 : Int32) R_9 f_9 us_9 P_9 S_9 sc_9 li_9 rc_9 rn_9 ro_9 rd_9 st_9 (vp_updL ot (0 : Int32).toNatClampNeg r9.toInt64))) (fun E R_9 f_9 us_9 P_9 S_9 sc_9 li_9 rc_9 rn_9 ro_9 rd_9 st_9 => (E = "java/lang/IllegalArgumentException" ∧ (post (1 : Int32) R_9 f_9 us_9 P_9 S_9 sc_9 li_9 rc_9 rn_9 ro_9 rd_9 st_9 ot)) ∨ (E = "java/lang/UnsupportedOperationException" ∧ (post (2 : Int32) R_9 f_9 us_9 P_9 S_9 sc_9 li_9 rc_9 rn_9 ro_9 rd_9 st_9 ot)))
set_option maxHeartbeats 4000000 in
set_option maxRecDepth 100000 in
theorem mL_make (l : Launch) (hlT : l.stackTraces = false) (sa : Nat → Nat) (dC : Nat → ClassId) (dI : Nat → Nat → Nat) (cA : ClassId) (a0 : Nat) (aR : Nat) (aM : Nat) (aW : Nat) (aP : Nat) (aS : Nat) (aC : Nat) (aO : Nat) (nW : Nat) (nE : Nat) (cL : ClassId) (aL : Nat) (sz : Nat) (R : Nat → Int32) (f : Nat → Int32) (us : Int32) (P : Nat → Int32) (S : Nat → Int32) (sc : Int32) (li : Int32) (rc : Nat → Int32) (rn : Int32) (ro : Nat → Int32) (rd : Int32) (st : Int32) (ot : Nat → Int64) (p1 : Int32) (p2 : Int32) (p3 : Int32) (p4 : Int32) (post : Int32 → (Nat → Int32) → (Nat → Int32) → Int32 → (Nat → Int32) → (Nat → Int32) → Int32 → Int32 → (Nat → Int32) → Int32 → (Nat → Int32) → Int32 → Int32 → (Nat → Int64) → Prop) (h : wqL_make nW nE R f us P S sc li rc rn ro rd st ot p1 p2 p3 p4 post) : Met l y_L_make ws_L_make ({ frames := 8, cells := 4, slots := 24, locals := 165 }) (xh_P (dC, dI) vwCl (LHw cA a0 aR aM aW aP aS aC aO nW nE cL aL R f us P S sc li rc rn ro rd st ot) [(cA, .int), (cL, .long)] sz sa [.ref a0, .int p1, .int p2, .int p3, .int p4, .ref aL]) (va_Qi (fun (r : Int32) (u : (Nat → Int32) × (Nat → Int32) × Int32 × (Nat → Int32) × (Nat → Int32) × Int32 × Int32 × (Nat → Int32) × Int32 × (Nat → Int32) × Int32 × Int32 × (Nat → Int64)) => post r u.1 u.2.1 u.2.2.1 u.2.2.2.1 u.2.2.2.2.1 u.2.2.2.2.2.1 u.2.2.2.2.2.2.1 u.2.2.2.2.2.2.2.1 u.2.2.2.2.2.2.2.2.1 u.2.2.2.2.2.2.2.2.2.1 u.2.2.2.2.2.2.2.2.2.2.1 u.2.2.2.2.2.2.2.2.2.2.2.1 u.2.2.2.2.2.2.2.2.2.2.2.2) (rw_B (dC, dI) vwCl [(cA, .int), (cL, .long)] (va_A (LHw cA a0 aR aM aW aP aS aC aO nW nE cL aL R f us P S sc li rc rn ro rd st ot) sz) (fun u : (Nat → Int32) × (Nat → Int32) × Int32 × (Nat → Int32) × (Nat → Int32) × Int32 × Int32 × (Nat → Int32) × Int32 × (Nat → Int32) × Int32 × Int32 × (Nat → Int64) => LHw cA a0 aR aM aW aP aS aC aO nW nE cL aL u.1 u.2.1 u.2.2.1 u.2.2.2.1 u.2.2.2.2.1 u.2.2.2.2.2.1 u.2.2.2.2.2.2.1 u.2.2.2.2.2.2.2.1 u.2.2.2.2.2.2.2.2.1 u.2.2.2.2.2.2.2.2.2.1 u.2.2.2.2.2.2.2.2.2.2.1 u.2.2.2.2.2.2.2.2.2.2.2.1 u.2.2.2.2.2.2.2.2.2.2.2.2)) (va_A (LHw cA a0 aR aM aW aP aS aC aO nW nE cL aL R f us P S sc li rc rn ro rd st ot) sz)) 4 24 (va_A (LHw cA a0 aR aM aW aP aS aC aO nW nE cL aL R f us P S sc li rc rn ro rd st ot) sz) := by
  refine va_MetW (cc := c_L_make) (maxL := 7) (ret := (some .int)) (hh := [(0, 14, 17, 13), (0, 14, 21, 26)]) (by decide) rfl ?_
  intro p e s m args below meth c s₁ B hml hv
  obtain ⟨rfl, hsz, hP, hK, hD0, hXT, hNC⟩ := hv
  have hx := B.exec
  have hb := B.bytes
  have hr9 := B.returns
  have hts := atoms_spec (ws := ws_L_make) B.pre
  have hw : ∀ w ∈ WB_, w.before _ s = true := fun w h => hts w (List.mem_cons_of_mem _ h)
  have hTab : c.exceptionTable.toList = tableOf [(0, 14, 17, 13), (0, 14, 21, 26)] := vx_table (x := y_L_make) B (hts _ List.mem_cons_self)
  have hown : s.vm.findClass R_L = some m.cls := findClass_of_methodNamed B.named
  have hlocks := B.notSynchronized
  subst hsz
  have hD := hD0.self (sz := s.heap.size)
  generalize hAe : va_A (LHw cA a0 aR aM aW aP aS aC aO nW nE cL aL R f us P S sc li rc rn ro rd st ot) s.heap.size = A at hD hXT ⊢
  have hA : ∀ q : Nat, s.heap.size ≤ q → A q := fun q h => by rw [← hAe]; exact Or.inr h
  have hS : va_S A s.heap s.heap [] := va_S.rf
  have hl := lv_entry ([.ref a0, .int p1, .int p2, .int p3, .int p4, .ref aL]) (n := 7) (Nat.le_of_ble_eq_true rfl)
  rw [lg_entry_eq]
  generalize (lg_sl ([.ref a0, .int p1, .int p2, .int p3, .int p4, .ref aL]) ++ List.replicate (7 - (lg_sl ([.ref a0, .int p1, .int p2, .int p3, .int p4, .ref aL])).length) Slot.unset).toArray = ls at hl ⊢
  have hl : lv_has ls 7 [(0, .ref a0), (1, .int p1), (2, .int p2), (3, .int p3), (4, .int p4), (5, .ref aL)] := hl
  unfold wqL_make at h
  refine lv_aload hx hb d_L_make_0 (lv_at hl 5 rfl) ?_
  refine lv_iconst (v := (0 : Int32)) hx hb d_L_make_2 (by decide) ?_
  refine lv_aload_n hx hb d_L_make_3 rfl (lv_at hl 0 rfl) ?_
  refine lv_iload_n hx hb d_L_make_4 rfl (lv_at hl 1 rfl) ?_
  refine lv_iload_n hx hb d_L_make_5 rfl (lv_at hl 2 rfl) ?_
  refine lv_iload_n hx hb d_L_make_6 rfl (lv_at hl 3 rfl) ?_
  refine lv_iload hx hb d_L_make_7 (lv_at hl 4 rfl) ?_
  have hPc := hP.sub (ws' := TSw cA a0 aR aM aW aP aS aC aO nW nE R f us P S sc li rc rn ro rd st) [0, 1, 2, 3, 4, 5, 6, 7] rfl
  have hDc := hD.sub (ws' := TSw cA a0 aR aM aW aP aS aC aO nW nE R f us P S sc li rc rn ro rd st) [0, 1, 2, 3, 4, 5, 6, 7] (by decide) rfl
  have hKc := hK.sub (tys' := [(cA, .int)]) [0] rfl
  have hFc := va_free (wc := TSw cA a0 aR aM aW aP aS aC aO nW nE R f us P S sc li rc rn ro rd st) hD hS hA [0, 1, 2, 3, 4, 5, 6, 7] rfl
  refine vx_calli (vx_runV (As := [.int p1, .int p2, .int p3, .int p4]) (rest := [.int (0 : Int32), .ref aL]) ⟨hx, hb, hml, hown, hw⟩ (mT_make l hlT sa dC dI cA a0 aR aM aW aP aS aC aO nW nE s.heap.size R f us P S sc li rc rn ro rd st p1 p2 p3 p4 _ _ h) (cwV 4 hw g_L_22 rfl rfl rfl (by decide +kernel) ⟨Nat.le_of_ble_eq_true rfl, Nat.le_of_ble_eq_true rfl⟩) (xw_PV (ci := 0) (q0 := 0) hKc hPc hDc (xt_at hXT hS) hFc rfl rfl) rfl rfl hl.1 rfl (lv_room (Nat.le_of_ble_eq_true rfl)) d_L_make_9 ⟨Nat.le_of_ble_eq_true rfl, Nat.le_of_ble_eq_true rfl⟩) hS (fun q _ h => hFc q h) hFc (fun q _ h => hFc q h) (fun E9 ce q9 u t H1 locs ht hvm _ hB hz1 hk1 hS hce hcv hcl => ?_) (fun r9 u t H1 locs ht hvm h hB hz1 hk1 hS => ?_)
  · obtain ⟨R_9, f_9, us_9, P_9, S_9, sc_9, li_9, rc_9, rn_9, ro_9, rd_9, st_9⟩ := u
    obtain ⟨h, hB⟩ := hB
    obtain ⟨hP1, hK1, hD1⟩ := hB
    rw [ht] at hP1
    obtain ⟨hP, hD⟩ := va_join (wr := [(aL, .inl (cL, 1, .inr (.inl ot)))]) (w1 := TSw cA a0 aR aM aW aP aS aC aO nW nE R_9 f_9 us_9 P_9 S_9 sc_9 li_9 rc_9 rn_9 ro_9 rd_9 st_9) hP hD [0, 1, 2, 3, 4, 5, 6, 7] [8] rfl rfl (by decide) (by decide) hk1 hFc hP1 hD1
    have hP := hP.sub (ws' := LHw cA a0 aR aM aW aP aS aC aO nW nE cL aL R_9 f_9 us_9 P_9 S_9 sc_9 li_9 rc_9 rn_9 ro_9 rd_9 st_9 ot) [1, 2, 3, 4, 5, 6, 7, 8, 0] rfl
    have hD := hD.sub (ws' := LHw cA a0 aR aM aW aP aS aC aO nW nE cL aL R_9 f_9 us_9 P_9 S_9 sc_9 li_9 rc_9 rn_9 ro_9 rd_9 st_9 ot) [1, 2, 3, 4, 5, 6, 7, 8, 0] (by decide) rfl
    generalize H1 = H at hP hS hce ⊢
    clear hPc hDc hKc hFc hP1 hD1 hK1 hk1
    try dsimp only at h
    rcases h with ⟨rfl, h⟩ | ⟨rfl, h⟩
    · refine vx_catch (own := R_L) (name := "java/lang/IllegalArgumentException") (E := "java/lang/IllegalArgumentException") hown [] ⟨0, 14, 17, 13⟩ [⟨0, 14, 21, 26⟩] hTab (fun z hz => nomatch hz) (by decide) (by decide) (hw _ wd_209) (hXT.2.2.2.2.2.2.2.2.2.1 _) hce hcv hcl ?_
      refine lv_astore (lv' := [(6, .ref q9), (0, .ref a0), (1, .int p1), (2, .int p2), (3, .int p3), (4, .int p4), (5, .ref aL)]) hx hb d_L_make_17 hl (by decide) rfl (fun ls hl => ?_)
      refine lv_iconst (v := (1 : Int32)) hx hb d_L_make_19 (by decide) ?_
      refine W.widen (k := 4) (n := 24) (Nat.le_of_ble_eq_true rfl) (Nat.le_of_ble_eq_true rfl) ?_
      exact W.iret (v := (1 : Int32)) hx hb hr9 (fun t ht hW => ⟨⟨_, (R_9, f_9, us_9, P_9, S_9, sc_9, li_9, rc_9, rn_9, ro_9, rd_9, st_9, ot), rfl, h, by rw [ht]; exact hP, va_K.moved hW.alike hK, hD⟩, hS.F ht⟩) hS.2.2 d_L_make_20
    · refine vx_catch (own := R_L) (name := "java/lang/UnsupportedOperationException") (E := "java/lang/UnsupportedOperationException") hown [⟨0, 14, 17, 13⟩] ⟨0, 14, 21, 26⟩ [] hTab (fun z hz => by rcases List.mem_cons.mp hz with rfl | hz; exact Or.inr ⟨by decide, "java/lang/IllegalArgumentException", hw _ wd_209, hNC.1⟩; cases hz) (by decide) (by decide) (hw _ wd_319) (hXT.2.2.2.2.2.2.2.2.2.2.2.1 _) hce hcv hcl ?_
      refine lv_astore (lv' := [(6, .ref q9), (0, .ref a0), (1, .int p1), (2, .int p2), (3, .int p3), (4, .int p4), (5, .ref aL)]) hx hb d_L_make_21 hl (by decide) rfl (fun ls hl => ?_)
      refine lv_iconst (v := (2 : Int32)) hx hb d_L_make_23 (by decide) ?_
      refine W.widen (k := 4) (n := 24) (Nat.le_of_ble_eq_true rfl) (Nat.le_of_ble_eq_true rfl) ?_
      exact W.iret (v := (2 : Int32)) hx hb hr9 (fun t ht hW => ⟨⟨_, (R_9, f_9, us_9, P_9, S_9, sc_9, li_9, rc_9, rn_9, ro_9, rd_9, st_9, ot), rfl, h, by rw [ht]; exact hP, va_K.moved hW.alike hK, hD⟩, hS.F ht⟩) hS.2.2 d_L_make_24
  · obtain ⟨R_9, f_9, us_9, P_9, S_9, sc_9, li_9, rc_9, rn_9, ro_9, rd_9, st_9⟩ := u
    obtain ⟨hP1, hK1, hD1⟩ := hB
    rw [ht] at hP1
    obtain ⟨hP, hD⟩ := va_join (wr := [(aL, .inl (cL, 1, .inr (.inl ot)))]) (w1 := TSw cA a0 aR aM aW aP aS aC aO nW nE R_9 f_9 us_9 P_9 S_9 sc_9 li_9 rc_9 rn_9 ro_9 rd_9 st_9) hP hD [0, 1, 2, 3, 4, 5, 6, 7] [8] rfl rfl (by decide) (by decide) hk1 hFc hP1 hD1
    have hP := hP.sub (ws' := LHw cA a0 aR aM aW aP aS aC aO nW nE cL aL R_9 f_9 us_9 P_9 S_9 sc_9 li_9 rc_9 rn_9 ro_9 rd_9 st_9 ot) [1, 2, 3, 4, 5, 6, 7, 8, 0] rfl
    have hD := hD.sub (ws' := LHw cA a0 aR aM aW aP aS aC aO nW nE cL aL R_9 f_9 us_9 P_9 S_9 sc_9 li_9 rc_9 rn_9 ro_9 rd_9 st_9 ot) [1, 2, 3, 4, 5, 6, 7, 8, 0] (by decide) rfl
    generalize H1 = H at hP hS ⊢
    clear hPc hDc hKc hFc hP1 hD1 hK1 hk1
    try dsimp only at h
    refine lv_i2l (v := r9.toInt64) hx hb d_L_make_12 rfl ?_
    refine va_last hx hb hK hP hD hS 8 1 rfl rfl h.1 d_L_make_13 (fun H locs hP hD hS => ?_)
    have hP : va_P (dC, dI) vwCl (LHw cA a0 aR aM aW aP aS aC aO nW nE cL aL R_9 f_9 us_9 P_9 S_9 sc_9 li_9 rc_9 rn_9 ro_9 rd_9 st_9 (vp_updL ot (0 : Int32).toNatClampNeg r9.toInt64)) H := hP
    have hD : va_D A (LHw cA a0 aR aM aW aP aS aC aO nW nE cL aL R_9 f_9 us_9 P_9 S_9 sc_9 li_9 rc_9 rn_9 ro_9 rd_9 st_9 (vp_updL ot (0 : Int32).toNatClampNeg r9.toInt64)) := hD
    have h := h.2
    refine lv_goto (tgt := 25) hx hb d_L_make_14 (by decide) ?_
    refine lv_iconst (v := (0 : Int32)) hx hb d_L_make_25 (by decide) ?_
    refine W.widen (k := 4) (n := 24) (Nat.le_of_ble_eq_true rfl) (Nat.le_of_ble_eq_true rfl) ?_
    exact W.iret (v := (0 : Int32)) hx hb hr9 (fun t ht hW => ⟨⟨_, (R_9, f_9, us_9, P_9, S_9, sc_9, li_9, rc_9, rn_9, ro_9, rd_9, st_9, vp_updL ot (0 : Int32).toNatClampNeg r9.toInt64), rfl, h, by rw [ht]; exact hP, va_K.moved hW.alike hK, hD⟩, hS.F ht⟩) hS.2.2 d_L_make_26
def wqL_copy (nW : Nat) (nE : Nat) (R : Nat → Int32) (f : Nat → Int32) (us : Int32) (P : Nat → Int32) (S : Nat → Int32) (sc : Int32) (li : Int32) (rc : Nat → Int32) (rn : Int32) (ro : Nat → Int32) (rd : Int32) (st : Int32) (ot : Nat → Int64) (p1 : Int32) (p2 : Int32) (post : Int32 → (Nat → Int32) → (Nat → Int32) → Int32 → (Nat → Int32) → (Nat → Int32) → Int32 → Int32 → (Nat → Int32) → Int32 → (Nat → Int32) → Int32 → Int32 → (Nat → Int64) → Prop) : Prop :=
  wqT_copy nW nE R f us P S sc li rc rn ro rd st p1 p2 (fun r5 R_5 f_5 us_5 P_5 S_5 sc_5 li_5 rc_5 rn_5 ro_5 rd_5 st_5 => vp_in (0 : Int32) 1 ∧ (post (0 : Int32) R_5 f_5 us_5 P_5 S_5 sc_5 li_5 rc_5 rn_5 ro_5 rd_5 st_5 (vp_updL ot (0 : Int32).toNatClampNeg r5.toInt64))) (fun E R_5 f_5 us_5 P_5 S_5 sc_5 li_5 rc_5 rn_5 ro_5 rd_5 st_5 => (E = "java/lang/IllegalArgumentException" ∧ (post (1 : Int32) R_5 f_5 us_5 P_5 S_5 sc_5 li_5 rc_5 rn_5 ro_5 rd_5 st_5 ot)) ∨ (E = "java/lang/UnsupportedOperationException" ∧ (post (2 : Int32) R_5 f_5 us_5 P_5 S_5 sc_5 li_5 rc_5 rn_5 ro_5 rd_5 st_5 ot)))
set_option maxHeartbeats 4000000 in
set_option maxRecDepth 100000 in
theorem mL_copy (l : Launch) (hlT : l.stackTraces = false) (sa : Nat → Nat) (dC : Nat → ClassId) (dI : Nat → Nat → Nat) (cA : ClassId) (a0 : Nat) (aR : Nat) (aM : Nat) (aW : Nat) (aP : Nat) (aS : Nat) (aC : Nat) (aO : Nat) (nW : Nat) (nE : Nat) (cL : ClassId) (aL : Nat) (sz : Nat) (R : Nat → Int32) (f : Nat → Int32) (us : Int32) (P : Nat → Int32) (S : Nat → Int32) (sc : Int32) (li : Int32) (rc : Nat → Int32) (rn : Int32) (ro : Nat → Int32) (rd : Int32) (st : Int32) (ot : Nat → Int64) (p1 : Int32) (p2 : Int32) (post : Int32 → (Nat → Int32) → (Nat → Int32) → Int32 → (Nat → Int32) → (Nat → Int32) → Int32 → Int32 → (Nat → Int32) → Int32 → (Nat → Int32) → Int32 → Int32 → (Nat → Int64) → Prop) (h : wqL_copy nW nE R f us P S sc li rc rn ro rd st ot p1 p2 post) : Met l y_L_copy ws_L_copy ({ frames := 9, cells := 4, slots := 24, locals := 165 }) (xh_P (dC, dI) vwCl (LHw cA a0 aR aM aW aP aS aC aO nW nE cL aL R f us P S sc li rc rn ro rd st ot) [(cA, .int), (cL, .long)] sz sa [.ref a0, .int p1, .int p2, .ref aL]) (va_Qi (fun (r : Int32) (u : (Nat → Int32) × (Nat → Int32) × Int32 × (Nat → Int32) × (Nat → Int32) × Int32 × Int32 × (Nat → Int32) × Int32 × (Nat → Int32) × Int32 × Int32 × (Nat → Int64)) => post r u.1 u.2.1 u.2.2.1 u.2.2.2.1 u.2.2.2.2.1 u.2.2.2.2.2.1 u.2.2.2.2.2.2.1 u.2.2.2.2.2.2.2.1 u.2.2.2.2.2.2.2.2.1 u.2.2.2.2.2.2.2.2.2.1 u.2.2.2.2.2.2.2.2.2.2.1 u.2.2.2.2.2.2.2.2.2.2.2.1 u.2.2.2.2.2.2.2.2.2.2.2.2) (rw_B (dC, dI) vwCl [(cA, .int), (cL, .long)] (va_A (LHw cA a0 aR aM aW aP aS aC aO nW nE cL aL R f us P S sc li rc rn ro rd st ot) sz) (fun u : (Nat → Int32) × (Nat → Int32) × Int32 × (Nat → Int32) × (Nat → Int32) × Int32 × Int32 × (Nat → Int32) × Int32 × (Nat → Int32) × Int32 × Int32 × (Nat → Int64) => LHw cA a0 aR aM aW aP aS aC aO nW nE cL aL u.1 u.2.1 u.2.2.1 u.2.2.2.1 u.2.2.2.2.1 u.2.2.2.2.2.1 u.2.2.2.2.2.2.1 u.2.2.2.2.2.2.2.1 u.2.2.2.2.2.2.2.2.1 u.2.2.2.2.2.2.2.2.2.1 u.2.2.2.2.2.2.2.2.2.2.1 u.2.2.2.2.2.2.2.2.2.2.2.1 u.2.2.2.2.2.2.2.2.2.2.2.2)) (va_A (LHw cA a0 aR aM aW aP aS aC aO nW nE cL aL R f us P S sc li rc rn ro rd st ot) sz)) 4 24 (va_A (LHw cA a0 aR aM aW aP aS aC aO nW nE cL aL R f us P S sc li rc rn ro rd st ot) sz) := by
  refine va_MetW (cc := c_L_copy) (maxL := 5) (ret := (some .int)) (hh := [(0, 10, 13, 13), (0, 10, 17, 26)]) (by decide) rfl ?_
  intro p e s m args below meth c s₁ B hml hv
  obtain ⟨rfl, hsz, hP, hK, hD0, hXT, hNC⟩ := hv
  have hx := B.exec
  have hb := B.bytes
  have hr9 := B.returns
  have hts := atoms_spec (ws := ws_L_copy) B.pre
  have hw : ∀ w ∈ WB_, w.before _ s = true := fun w h => hts w (List.mem_cons_of_mem _ h)
  have hTab : c.exceptionTable.toList = tableOf [(0, 10, 13, 13), (0, 10, 17, 26)] := vx_table (x := y_L_copy) B (hts _ List.mem_cons_self)
  have hown : s.vm.findClass R_L = some m.cls := findClass_of_methodNamed B.named
  have hlocks := B.notSynchronized
  subst hsz
  have hD := hD0.self (sz := s.heap.size)
  generalize hAe : va_A (LHw cA a0 aR aM aW aP aS aC aO nW nE cL aL R f us P S sc li rc rn ro rd st ot) s.heap.size = A at hD hXT ⊢
  have hA : ∀ q : Nat, s.heap.size ≤ q → A q := fun q h => by rw [← hAe]; exact Or.inr h
  have hS : va_S A s.heap s.heap [] := va_S.rf
  have hl := lv_entry ([.ref a0, .int p1, .int p2, .ref aL]) (n := 5) (Nat.le_of_ble_eq_true rfl)
  rw [lg_entry_eq]
  generalize (lg_sl ([.ref a0, .int p1, .int p2, .ref aL]) ++ List.replicate (5 - (lg_sl ([.ref a0, .int p1, .int p2, .ref aL])).length) Slot.unset).toArray = ls at hl ⊢
  have hl : lv_has ls 5 [(0, .ref a0), (1, .int p1), (2, .int p2), (3, .ref aL)] := hl
  unfold wqL_copy at h
  refine lv_aload_n hx hb d_L_copy_0 rfl (lv_at hl 3 rfl) ?_
  refine lv_iconst (v := (0 : Int32)) hx hb d_L_copy_1 (by decide) ?_
  refine lv_aload_n hx hb d_L_copy_2 rfl (lv_at hl 0 rfl) ?_
  refine lv_iload_n hx hb d_L_copy_3 rfl (lv_at hl 1 rfl) ?_
  refine lv_iload_n hx hb d_L_copy_4 rfl (lv_at hl 2 rfl) ?_
  have hPc := hP.sub (ws' := TSw cA a0 aR aM aW aP aS aC aO nW nE R f us P S sc li rc rn ro rd st) [0, 1, 2, 3, 4, 5, 6, 7] rfl
  have hDc := hD.sub (ws' := TSw cA a0 aR aM aW aP aS aC aO nW nE R f us P S sc li rc rn ro rd st) [0, 1, 2, 3, 4, 5, 6, 7] (by decide) rfl
  have hKc := hK.sub (tys' := [(cA, .int)]) [0] rfl
  have hFc := va_free (wc := TSw cA a0 aR aM aW aP aS aC aO nW nE R f us P S sc li rc rn ro rd st) hD hS hA [0, 1, 2, 3, 4, 5, 6, 7] rfl
  refine vx_calli (vx_runV (As := [.int p1, .int p2]) (rest := [.int (0 : Int32), .ref aL]) ⟨hx, hb, hml, hown, hw⟩ (mT_copy l hlT sa dC dI cA a0 aR aM aW aP aS aC aO nW nE s.heap.size R f us P S sc li rc rn ro rd st p1 p2 _ _ h) (cwV 2 hw g_L_28 rfl rfl rfl (by decide +kernel) ⟨Nat.le_of_ble_eq_true rfl, Nat.le_of_ble_eq_true rfl⟩) (xw_PV (ci := 0) (q0 := 0) hKc hPc hDc (xt_at hXT hS) hFc rfl rfl) rfl rfl hl.1 rfl (lv_room (Nat.le_of_ble_eq_true rfl)) d_L_copy_5 ⟨Nat.le_of_ble_eq_true rfl, Nat.le_of_ble_eq_true rfl⟩) hS (fun q _ h => hFc q h) hFc (fun q _ h => hFc q h) (fun E9 ce q9 u t H1 locs ht hvm _ hB hz1 hk1 hS hce hcv hcl => ?_) (fun r5 u t H1 locs ht hvm h hB hz1 hk1 hS => ?_)
  · obtain ⟨R_5, f_5, us_5, P_5, S_5, sc_5, li_5, rc_5, rn_5, ro_5, rd_5, st_5⟩ := u
    obtain ⟨h, hB⟩ := hB
    obtain ⟨hP1, hK1, hD1⟩ := hB
    rw [ht] at hP1
    obtain ⟨hP, hD⟩ := va_join (wr := [(aL, .inl (cL, 1, .inr (.inl ot)))]) (w1 := TSw cA a0 aR aM aW aP aS aC aO nW nE R_5 f_5 us_5 P_5 S_5 sc_5 li_5 rc_5 rn_5 ro_5 rd_5 st_5) hP hD [0, 1, 2, 3, 4, 5, 6, 7] [8] rfl rfl (by decide) (by decide) hk1 hFc hP1 hD1
    have hP := hP.sub (ws' := LHw cA a0 aR aM aW aP aS aC aO nW nE cL aL R_5 f_5 us_5 P_5 S_5 sc_5 li_5 rc_5 rn_5 ro_5 rd_5 st_5 ot) [1, 2, 3, 4, 5, 6, 7, 8, 0] rfl
    have hD := hD.sub (ws' := LHw cA a0 aR aM aW aP aS aC aO nW nE cL aL R_5 f_5 us_5 P_5 S_5 sc_5 li_5 rc_5 rn_5 ro_5 rd_5 st_5 ot) [1, 2, 3, 4, 5, 6, 7, 8, 0] (by decide) rfl
    generalize H1 = H at hP hS hce ⊢
    clear hPc hDc hKc hFc hP1 hD1 hK1 hk1
    try dsimp only at h
    rcases h with ⟨rfl, h⟩ | ⟨rfl, h⟩
    · refine vx_catch (own := R_L) (name := "java/lang/IllegalArgumentException") (E := "java/lang/IllegalArgumentException") hown [] ⟨0, 10, 13, 13⟩ [⟨0, 10, 17, 26⟩] hTab (fun z hz => nomatch hz) (by decide) (by decide) (hw _ wd_209) (hXT.2.2.2.2.2.2.2.2.2.1 _) hce hcv hcl ?_
      refine lv_astore (lv' := [(4, .ref q9), (0, .ref a0), (1, .int p1), (2, .int p2), (3, .ref aL)]) hx hb d_L_copy_13 hl (by decide) rfl (fun ls hl => ?_)
      refine lv_iconst (v := (1 : Int32)) hx hb d_L_copy_15 (by decide) ?_
      refine W.widen (k := 4) (n := 24) (Nat.le_of_ble_eq_true rfl) (Nat.le_of_ble_eq_true rfl) ?_
      exact W.iret (v := (1 : Int32)) hx hb hr9 (fun t ht hW => ⟨⟨_, (R_5, f_5, us_5, P_5, S_5, sc_5, li_5, rc_5, rn_5, ro_5, rd_5, st_5, ot), rfl, h, by rw [ht]; exact hP, va_K.moved hW.alike hK, hD⟩, hS.F ht⟩) hS.2.2 d_L_copy_16
    · refine vx_catch (own := R_L) (name := "java/lang/UnsupportedOperationException") (E := "java/lang/UnsupportedOperationException") hown [⟨0, 10, 13, 13⟩] ⟨0, 10, 17, 26⟩ [] hTab (fun z hz => by rcases List.mem_cons.mp hz with rfl | hz; exact Or.inr ⟨by decide, "java/lang/IllegalArgumentException", hw _ wd_209, hNC.1⟩; cases hz) (by decide) (by decide) (hw _ wd_319) (hXT.2.2.2.2.2.2.2.2.2.2.2.1 _) hce hcv hcl ?_
      refine lv_astore (lv' := [(4, .ref q9), (0, .ref a0), (1, .int p1), (2, .int p2), (3, .ref aL)]) hx hb d_L_copy_17 hl (by decide) rfl (fun ls hl => ?_)
      refine lv_iconst (v := (2 : Int32)) hx hb d_L_copy_19 (by decide) ?_
      refine W.widen (k := 4) (n := 24) (Nat.le_of_ble_eq_true rfl) (Nat.le_of_ble_eq_true rfl) ?_
      exact W.iret (v := (2 : Int32)) hx hb hr9 (fun t ht hW => ⟨⟨_, (R_5, f_5, us_5, P_5, S_5, sc_5, li_5, rc_5, rn_5, ro_5, rd_5, st_5, ot), rfl, h, by rw [ht]; exact hP, va_K.moved hW.alike hK, hD⟩, hS.F ht⟩) hS.2.2 d_L_copy_20
  · obtain ⟨R_5, f_5, us_5, P_5, S_5, sc_5, li_5, rc_5, rn_5, ro_5, rd_5, st_5⟩ := u
    obtain ⟨hP1, hK1, hD1⟩ := hB
    rw [ht] at hP1
    obtain ⟨hP, hD⟩ := va_join (wr := [(aL, .inl (cL, 1, .inr (.inl ot)))]) (w1 := TSw cA a0 aR aM aW aP aS aC aO nW nE R_5 f_5 us_5 P_5 S_5 sc_5 li_5 rc_5 rn_5 ro_5 rd_5 st_5) hP hD [0, 1, 2, 3, 4, 5, 6, 7] [8] rfl rfl (by decide) (by decide) hk1 hFc hP1 hD1
    have hP := hP.sub (ws' := LHw cA a0 aR aM aW aP aS aC aO nW nE cL aL R_5 f_5 us_5 P_5 S_5 sc_5 li_5 rc_5 rn_5 ro_5 rd_5 st_5 ot) [1, 2, 3, 4, 5, 6, 7, 8, 0] rfl
    have hD := hD.sub (ws' := LHw cA a0 aR aM aW aP aS aC aO nW nE cL aL R_5 f_5 us_5 P_5 S_5 sc_5 li_5 rc_5 rn_5 ro_5 rd_5 st_5 ot) [1, 2, 3, 4, 5, 6, 7, 8, 0] (by decide) rfl
    generalize H1 = H at hP hS ⊢
    clear hPc hDc hKc hFc hP1 hD1 hK1 hk1
    try dsimp only at h
    refine lv_i2l (v := r5.toInt64) hx hb d_L_copy_8 rfl ?_
    refine va_last hx hb hK hP hD hS 8 1 rfl rfl h.1 d_L_copy_9 (fun H locs hP hD hS => ?_)
    have hP : va_P (dC, dI) vwCl (LHw cA a0 aR aM aW aP aS aC aO nW nE cL aL R_5 f_5 us_5 P_5 S_5 sc_5 li_5 rc_5 rn_5 ro_5 rd_5 st_5 (vp_updL ot (0 : Int32).toNatClampNeg r5.toInt64)) H := hP
    have hD : va_D A (LHw cA a0 aR aM aW aP aS aC aO nW nE cL aL R_5 f_5 us_5 P_5 S_5 sc_5 li_5 rc_5 rn_5 ro_5 rd_5 st_5 (vp_updL ot (0 : Int32).toNatClampNeg r5.toInt64)) := hD
    have h := h.2
    refine lv_goto (tgt := 21) hx hb d_L_copy_10 (by decide) ?_
    refine lv_iconst (v := (0 : Int32)) hx hb d_L_copy_21 (by decide) ?_
    refine W.widen (k := 4) (n := 24) (Nat.le_of_ble_eq_true rfl) (Nat.le_of_ble_eq_true rfl) ?_
    exact W.iret (v := (0 : Int32)) hx hb hr9 (fun t ht hW => ⟨⟨_, (R_5, f_5, us_5, P_5, S_5, sc_5, li_5, rc_5, rn_5, ro_5, rd_5, st_5, vp_updL ot (0 : Int32).toNatClampNeg r5.toInt64), rfl, h, by rw [ht]; exact hP, va_K.moved hW.alike hK, hD⟩, hS.F ht⟩) hS.2.2 d_L_copy_22
def wqL_chain (nW : Nat) (nE : Nat) (R : Nat → Int32) (f : Nat → Int32) (us : Int32) (P : Nat → Int32) (S : Nat → Int32) (sc : Int32) (li : Int32) (rc : Nat → Int32) (rn : Int32) (ro : Nat → Int32) (rd : Int32) (st : Int32) (ot : Nat → Int64) (p1 : Int32) (p2 : Int32) (p3 : Int32) (p4 : Int32) (post : Int32 → (Nat → Int32) → (Nat → Int32) → Int32 → (Nat → Int32) → (Nat → Int32) → Int32 → Int32 → (Nat → Int32) → Int32 → (Nat → Int32) → Int32 → Int32 → (Nat → Int64) → Prop) : Prop :=
  wqT_chain nW nE R f us P S sc li rc rn ro rd st p1 p2 p3 p4 (fun r9 R_9 f_9 us_9 P_9 S_9 sc_9 li_9 rc_9 rn_9 ro_9 rd_9 st_9 => vp_in (0 : Int32) 1 ∧ (post (0 : Int32) R_9 f_9 us_9 P_9 S_9 sc_9 li_9 rc_9 rn_9 ro_9 rd_9 st_9 (vp_updL ot (0 : Int32).toNatClampNeg r9.toInt64))) (fun E R_9 f_9 us_9 P_9 S_9 sc_9 li_9 rc_9 rn_9 ro_9 rd_9 st_9 => (E = "java/lang/IllegalArgumentException" ∧ (post (1 : Int32) R_9 f_9 us_9 P_9 S_9 sc_9 li_9 rc_9 rn_9 ro_9 rd_9 st_9 ot)))
set_option maxHeartbeats 4000000 in
set_option maxRecDepth 100000 in
theorem mL_chain (l : Launch) (hlT : l.stackTraces = false) (sa : Nat → Nat) (dC : Nat → ClassId) (dI : Nat → Nat → Nat) (cA : ClassId) (a0 : Nat) (aR : Nat) (aM : Nat) (aW : Nat) (aP : Nat) (aS : Nat) (aC : Nat) (aO : Nat) (nW : Nat) (nE : Nat) (cL : ClassId) (aL : Nat) (sz : Nat) (R : Nat → Int32) (f : Nat → Int32) (us : Int32) (P : Nat → Int32) (S : Nat → Int32) (sc : Int32) (li : Int32) (rc : Nat → Int32) (rn : Int32) (ro : Nat → Int32) (rd : Int32) (st : Int32) (ot : Nat → Int64) (p1 : Int32) (p2 : Int32) (p3 : Int32) (p4 : Int32) (post : Int32 → (Nat → Int32) → (Nat → Int32) → Int32 → (Nat → Int32) → (Nat → Int32) → Int32 → Int32 → (Nat → Int32) → Int32 → (Nat → Int32) → Int32 → Int32 → (Nat → Int64) → Prop) (h : wqL_chain nW nE R f us P S sc li rc rn ro rd st ot p1 p2 p3 p4 post) : Met l y_L_chain ws_L_chain ({ frames := 8, cells := 4, slots := 24, locals := 167 }) (xh_P (dC, dI) vwCl (LHw cA a0 aR aM aW aP aS aC aO nW nE cL aL R f us P S sc li rc rn ro rd st ot) [(cA, .int), (cL, .long)] sz sa [.ref a0, .int p1, .int p2, .int p3, .int p4, .ref aL]) (va_Qi (fun (r : Int32) (u : (Nat → Int32) × (Nat → Int32) × Int32 × (Nat → Int32) × (Nat → Int32) × Int32 × Int32 × (Nat → Int32) × Int32 × (Nat → Int32) × Int32 × Int32 × (Nat → Int64)) => post r u.1 u.2.1 u.2.2.1 u.2.2.2.1 u.2.2.2.2.1 u.2.2.2.2.2.1 u.2.2.2.2.2.2.1 u.2.2.2.2.2.2.2.1 u.2.2.2.2.2.2.2.2.1 u.2.2.2.2.2.2.2.2.2.1 u.2.2.2.2.2.2.2.2.2.2.1 u.2.2.2.2.2.2.2.2.2.2.2.1 u.2.2.2.2.2.2.2.2.2.2.2.2) (rw_B (dC, dI) vwCl [(cA, .int), (cL, .long)] (va_A (LHw cA a0 aR aM aW aP aS aC aO nW nE cL aL R f us P S sc li rc rn ro rd st ot) sz) (fun u : (Nat → Int32) × (Nat → Int32) × Int32 × (Nat → Int32) × (Nat → Int32) × Int32 × Int32 × (Nat → Int32) × Int32 × (Nat → Int32) × Int32 × Int32 × (Nat → Int64) => LHw cA a0 aR aM aW aP aS aC aO nW nE cL aL u.1 u.2.1 u.2.2.1 u.2.2.2.1 u.2.2.2.2.1 u.2.2.2.2.2.1 u.2.2.2.2.2.2.1 u.2.2.2.2.2.2.2.1 u.2.2.2.2.2.2.2.2.1 u.2.2.2.2.2.2.2.2.2.1 u.2.2.2.2.2.2.2.2.2.2.1 u.2.2.2.2.2.2.2.2.2.2.2.1 u.2.2.2.2.2.2.2.2.2.2.2.2)) (va_A (LHw cA a0 aR aM aW aP aS aC aO nW nE cL aL R f us P S sc li rc rn ro rd st ot) sz)) 4 24 (va_A (LHw cA a0 aR aM aW aP aS aC aO nW nE cL aL R f us P S sc li rc rn ro rd st ot) sz) := by
  refine va_MetW (cc := c_L_chain) (maxL := 7) (ret := (some .int)) (hh := [(0, 14, 17, 13)]) (by decide) rfl ?_
  intro p e s m args below meth c s₁ B hml hv
  obtain ⟨rfl, hsz, hP, hK, hD0, hXT, hNC⟩ := hv
  have hx := B.exec
  have hb := B.bytes
  have hr9 := B.returns
  have hts := atoms_spec (ws := ws_L_chain) B.pre
  have hw : ∀ w ∈ WB_, w.before _ s = true := fun w h => hts w (List.mem_cons_of_mem _ h)
  have hTab : c.exceptionTable.toList = tableOf [(0, 14, 17, 13)] := vx_table (x := y_L_chain) B (hts _ List.mem_cons_self)
  have hown : s.vm.findClass R_L = some m.cls := findClass_of_methodNamed B.named
  have hlocks := B.notSynchronized
  subst hsz
  have hD := hD0.self (sz := s.heap.size)
  generalize hAe : va_A (LHw cA a0 aR aM aW aP aS aC aO nW nE cL aL R f us P S sc li rc rn ro rd st ot) s.heap.size = A at hD hXT ⊢
  have hA : ∀ q : Nat, s.heap.size ≤ q → A q := fun q h => by rw [← hAe]; exact Or.inr h
  have hS : va_S A s.heap s.heap [] := va_S.rf
  have hl := lv_entry ([.ref a0, .int p1, .int p2, .int p3, .int p4, .ref aL]) (n := 7) (Nat.le_of_ble_eq_true rfl)
  rw [lg_entry_eq]
  generalize (lg_sl ([.ref a0, .int p1, .int p2, .int p3, .int p4, .ref aL]) ++ List.replicate (7 - (lg_sl ([.ref a0, .int p1, .int p2, .int p3, .int p4, .ref aL])).length) Slot.unset).toArray = ls at hl ⊢
  have hl : lv_has ls 7 [(0, .ref a0), (1, .int p1), (2, .int p2), (3, .int p3), (4, .int p4), (5, .ref aL)] := hl
  unfold wqL_chain at h
  refine lv_aload hx hb d_L_chain_0 (lv_at hl 5 rfl) ?_
  refine lv_iconst (v := (0 : Int32)) hx hb d_L_chain_2 (by decide) ?_
  refine lv_aload_n hx hb d_L_chain_3 rfl (lv_at hl 0 rfl) ?_
  refine lv_iload_n hx hb d_L_chain_4 rfl (lv_at hl 1 rfl) ?_
  refine lv_iload_n hx hb d_L_chain_5 rfl (lv_at hl 2 rfl) ?_
  refine lv_iload_n hx hb d_L_chain_6 rfl (lv_at hl 3 rfl) ?_
  refine lv_iload hx hb d_L_chain_7 (lv_at hl 4 rfl) ?_
  have hPc := hP.sub (ws' := TSw cA a0 aR aM aW aP aS aC aO nW nE R f us P S sc li rc rn ro rd st) [0, 1, 2, 3, 4, 5, 6, 7] rfl
  have hDc := hD.sub (ws' := TSw cA a0 aR aM aW aP aS aC aO nW nE R f us P S sc li rc rn ro rd st) [0, 1, 2, 3, 4, 5, 6, 7] (by decide) rfl
  have hKc := hK.sub (tys' := [(cA, .int)]) [0] rfl
  have hFc := va_free (wc := TSw cA a0 aR aM aW aP aS aC aO nW nE R f us P S sc li rc rn ro rd st) hD hS hA [0, 1, 2, 3, 4, 5, 6, 7] rfl
  refine vx_calli (vx_runV (As := [.int p1, .int p2, .int p3, .int p4]) (rest := [.int (0 : Int32), .ref aL]) ⟨hx, hb, hml, hown, hw⟩ (mT_chain l hlT sa dC dI cA a0 aR aM aW aP aS aC aO nW nE s.heap.size R f us P S sc li rc rn ro rd st p1 p2 p3 p4 _ _ h) (cwV 4 hw g_L_32 rfl rfl rfl (by decide +kernel) ⟨Nat.le_of_ble_eq_true rfl, Nat.le_of_ble_eq_true rfl⟩) (xw_PV (ci := 0) (q0 := 0) hKc hPc hDc (xt_at hXT hS) hFc rfl rfl) rfl rfl hl.1 rfl (lv_room (Nat.le_of_ble_eq_true rfl)) d_L_chain_9 ⟨Nat.le_of_ble_eq_true rfl, Nat.le_of_ble_eq_true rfl⟩) hS (fun q _ h => hFc q h) hFc (fun q _ h => hFc q h) (fun E9 ce q9 u t H1 locs ht hvm _ hB hz1 hk1 hS hce hcv hcl => ?_) (fun r9 u t H1 locs ht hvm h hB hz1 hk1 hS => ?_)
  · obtain ⟨R_9, f_9, us_9, P_9, S_9, sc_9, li_9, rc_9, rn_9, ro_9, rd_9, st_9⟩ := u
    obtain ⟨h, hB⟩ := hB
    obtain ⟨hP1, hK1, hD1⟩ := hB
    rw [ht] at hP1
    obtain ⟨hP, hD⟩ := va_join (wr := [(aL, .inl (cL, 1, .inr (.inl ot)))]) (w1 := TSw cA a0 aR aM aW aP aS aC aO nW nE R_9 f_9 us_9 P_9 S_9 sc_9 li_9 rc_9 rn_9 ro_9 rd_9 st_9) hP hD [0, 1, 2, 3, 4, 5, 6, 7] [8] rfl rfl (by decide) (by decide) hk1 hFc hP1 hD1
    have hP := hP.sub (ws' := LHw cA a0 aR aM aW aP aS aC aO nW nE cL aL R_9 f_9 us_9 P_9 S_9 sc_9 li_9 rc_9 rn_9 ro_9 rd_9 st_9 ot) [1, 2, 3, 4, 5, 6, 7, 8, 0] rfl
    have hD := hD.sub (ws' := LHw cA a0 aR aM aW aP aS aC aO nW nE cL aL R_9 f_9 us_9 P_9 S_9 sc_9 li_9 rc_9 rn_9 ro_9 rd_9 st_9 ot) [1, 2, 3, 4, 5, 6, 7, 8, 0] (by decide) rfl
    generalize H1 = H at hP hS hce ⊢
    clear hPc hDc hKc hFc hP1 hD1 hK1 hk1
    try dsimp only at h
    obtain ⟨rfl, h⟩ := h
    refine vx_catch (own := R_L) (name := "java/lang/IllegalArgumentException") (E := "java/lang/IllegalArgumentException") hown [] ⟨0, 14, 17, 13⟩ [] hTab (fun z hz => nomatch hz) (by decide) (by decide) (hw _ wd_209) (hXT.2.2.2.2.2.2.2.2.2.1 _) hce hcv hcl ?_
    refine lv_astore (lv' := [(6, .ref q9), (0, .ref a0), (1, .int p1), (2, .int p2), (3, .int p3), (4, .int p4), (5, .ref aL)]) hx hb d_L_chain_17 hl (by decide) rfl (fun ls hl => ?_)
    refine lv_iconst (v := (1 : Int32)) hx hb d_L_chain_19 (by decide) ?_
    refine W.widen (k := 4) (n := 24) (Nat.le_of_ble_eq_true rfl) (Nat.le_of_ble_eq_true rfl) ?_
    exact W.iret (v := (1 : Int32)) hx hb hr9 (fun t ht hW => ⟨⟨_, (R_9, f_9, us_9, P_9, S_9, sc_9, li_9, rc_9, rn_9, ro_9, rd_9, st_9, ot), rfl, h, by rw [ht]; exact hP, va_K.moved hW.alike hK, hD⟩, hS.F ht⟩) hS.2.2 d_L_chain_20
  · obtain ⟨R_9, f_9, us_9, P_9, S_9, sc_9, li_9, rc_9, rn_9, ro_9, rd_9, st_9⟩ := u
    obtain ⟨hP1, hK1, hD1⟩ := hB
    rw [ht] at hP1
    obtain ⟨hP, hD⟩ := va_join (wr := [(aL, .inl (cL, 1, .inr (.inl ot)))]) (w1 := TSw cA a0 aR aM aW aP aS aC aO nW nE R_9 f_9 us_9 P_9 S_9 sc_9 li_9 rc_9 rn_9 ro_9 rd_9 st_9) hP hD [0, 1, 2, 3, 4, 5, 6, 7] [8] rfl rfl (by decide) (by decide) hk1 hFc hP1 hD1
    have hP := hP.sub (ws' := LHw cA a0 aR aM aW aP aS aC aO nW nE cL aL R_9 f_9 us_9 P_9 S_9 sc_9 li_9 rc_9 rn_9 ro_9 rd_9 st_9 ot) [1, 2, 3, 4, 5, 6, 7, 8, 0] rfl
    have hD := hD.sub (ws' := LHw cA a0 aR aM aW aP aS aC aO nW nE cL aL R_9 f_9 us_9 P_9 S_9 sc_9 li_9 rc_9 rn_9 ro_9 rd_9 st_9 ot) [1, 2, 3, 4, 5, 6, 7, 8, 0] (by decide) rfl
    generalize H1 = H at hP hS ⊢
    clear hPc hDc hKc hFc hP1 hD1 hK1 hk1
    try dsimp only at h
    refine lv_i2l (v := r9.toInt64) hx hb d_L_chain_12 rfl ?_
    refine va_last hx hb hK hP hD hS 8 1 rfl rfl h.1 d_L_chain_13 (fun H locs hP hD hS => ?_)
    have hP : va_P (dC, dI) vwCl (LHw cA a0 aR aM aW aP aS aC aO nW nE cL aL R_9 f_9 us_9 P_9 S_9 sc_9 li_9 rc_9 rn_9 ro_9 rd_9 st_9 (vp_updL ot (0 : Int32).toNatClampNeg r9.toInt64)) H := hP
    have hD : va_D A (LHw cA a0 aR aM aW aP aS aC aO nW nE cL aL R_9 f_9 us_9 P_9 S_9 sc_9 li_9 rc_9 rn_9 ro_9 rd_9 st_9 (vp_updL ot (0 : Int32).toNatClampNeg r9.toInt64)) := hD
    have h := h.2
    refine lv_goto (tgt := 21) hx hb d_L_chain_14 (by decide) ?_
    refine lv_iconst (v := (0 : Int32)) hx hb d_L_chain_21 (by decide) ?_
    refine W.widen (k := 4) (n := 24) (Nat.le_of_ble_eq_true rfl) (Nat.le_of_ble_eq_true rfl) ?_
    exact W.iret (v := (0 : Int32)) hx hb hr9 (fun t ht hW => ⟨⟨_, (R_9, f_9, us_9, P_9, S_9, sc_9, li_9, rc_9, rn_9, ro_9, rd_9, st_9, vp_updL ot (0 : Int32).toNatClampNeg r9.toInt64), rfl, h, by rw [ht]; exact hP, va_K.moved hW.alike hK, hD⟩, hS.F ht⟩) hS.2.2 d_L_chain_22
def wqL_get (nW : Nat) (nE : Nat) (R : Nat → Int32) (f : Nat → Int32) (P : Nat → Int32) (st : Int32) (p1 : Int32) (p2 : Int32) (p3 : Int32) (post : Int32 → (Nat → Int32) → Int32 → Prop) : Prop :=
  wqT_get nW nE R f P st p1 p2 p3 (fun R_4 st_4 => post (0 : Int32) R_4 st_4) (fun E R_4 st_4 => (E = "java/lang/IllegalArgumentException" ∧ (post (1 : Int32) R_4 st_4)) ∨ (E = "java/lang/IndexOutOfBoundsException" ∧ (post (2 : Int32) R_4 st_4)))
set_option maxHeartbeats 4000000 in
set_option maxRecDepth 100000 in
theorem mL_get (l : Launch) (hlT : l.stackTraces = false) (sa : Nat → Nat) (dC : Nat → ClassId) (dI : Nat → Nat → Nat) (cA : ClassId) (a0 : Nat) (aR : Nat) (aM : Nat) (aW : Nat) (aP : Nat) (aS : Nat) (aC : Nat) (aO : Nat) (nW : Nat) (nE : Nat) (cL : ClassId) (aL : Nat) (sz : Nat) (R : Nat → Int32) (f : Nat → Int32) (us : Int32) (P : Nat → Int32) (S : Nat → Int32) (sc : Int32) (li : Int32) (rc : Nat → Int32) (rn : Int32) (ro : Nat → Int32) (rd : Int32) (st : Int32) (ot : Nat → Int64) (p1 : Int32) (p2 : Int32) (p3 : Int32) (post : Int32 → (Nat → Int32) → Int32 → Prop) (h : wqL_get nW nE R f P st p1 p2 p3 post) : Met l y_L_get ws_L_get ({ frames := 9, cells := 4, slots := 24, locals := 164 }) (xh_P (dC, dI) vwCl (LHw cA a0 aR aM aW aP aS aC aO nW nE cL aL R f us P S sc li rc rn ro rd st ot) [(cA, .int), (cL, .long)] sz sa [.ref a0, .int p1, .int p2, .int p3]) (va_Qi (fun (r : Int32) (u : (Nat → Int32) × Int32) => post r u.1 u.2) (rw_B (dC, dI) vwCl [(cA, .int), (cL, .long)] (va_A (LHw cA a0 aR aM aW aP aS aC aO nW nE cL aL R f us P S sc li rc rn ro rd st ot) sz) (fun u : (Nat → Int32) × Int32 => LHw cA a0 aR aM aW aP aS aC aO nW nE cL aL u.1 f us P S sc li rc rn ro rd u.2 ot)) (va_A (LHw cA a0 aR aM aW aP aS aC aO nW nE cL aL R f us P S sc li rc rn ro rd st ot) sz)) 4 24 (va_A (LHw cA a0 aR aM aW aP aS aC aO nW nE cL aL R f us P S sc li rc rn ro rd st ot) sz) := by
  refine va_MetW (cc := c_L_get) (maxL := 5) (ret := (some .int)) (hh := [(0, 7, 10, 13), (0, 7, 14, 40)]) (by decide) rfl ?_
  intro p e s m args below meth c s₁ B hml hv
  obtain ⟨rfl, hsz, hP, hK, hD0, hXT, hNC⟩ := hv
  have hx := B.exec
  have hb := B.bytes
  have hr9 := B.returns
  have hts := atoms_spec (ws := ws_L_get) B.pre
  have hw : ∀ w ∈ WB_, w.before _ s = true := fun w h => hts w (List.mem_cons_of_mem _ h)
  have hTab : c.exceptionTable.toList = tableOf [(0, 7, 10, 13), (0, 7, 14, 40)] := vx_table (x := y_L_get) B (hts _ List.mem_cons_self)
  have hown : s.vm.findClass R_L = some m.cls := findClass_of_methodNamed B.named
  have hlocks := B.notSynchronized
  subst hsz
  have hD := hD0.self (sz := s.heap.size)
  generalize hAe : va_A (LHw cA a0 aR aM aW aP aS aC aO nW nE cL aL R f us P S sc li rc rn ro rd st ot) s.heap.size = A at hD hXT ⊢
  have hA : ∀ q : Nat, s.heap.size ≤ q → A q := fun q h => by rw [← hAe]; exact Or.inr h
  have hS : va_S A s.heap s.heap [] := va_S.rf
  have hl := lv_entry ([.ref a0, .int p1, .int p2, .int p3]) (n := 5) (Nat.le_of_ble_eq_true rfl)
  rw [lg_entry_eq]
  generalize (lg_sl ([.ref a0, .int p1, .int p2, .int p3]) ++ List.replicate (5 - (lg_sl ([.ref a0, .int p1, .int p2, .int p3])).length) Slot.unset).toArray = ls at hl ⊢
  have hl : lv_has ls 5 [(0, .ref a0), (1, .int p1), (2, .int p2), (3, .int p3)] := hl
  unfold wqL_get at h
  refine lv_aload_n hx hb d_L_get_0 rfl (lv_at hl 0 rfl) ?_
  refine lv_iload_n hx hb d_L_get_1 rfl (lv_at hl 1 rfl) ?_
  refine lv_iload_n hx hb d_L_get_2 rfl (lv_at hl 2 rfl) ?_
  refine lv_iload_n hx hb d_L_get_3 rfl (lv_at hl 3 rfl) ?_
  have hPc := hP.sub (ws' := TSw cA a0 aR aM aW aP aS aC aO nW nE R f us P S sc li rc rn ro rd st) [0, 1, 2, 3, 4, 5, 6, 7] rfl
  have hDc := hD.sub (ws' := TSw cA a0 aR aM aW aP aS aC aO nW nE R f us P S sc li rc rn ro rd st) [0, 1, 2, 3, 4, 5, 6, 7] (by decide) rfl
  have hKc := hK.sub (tys' := [(cA, .int)]) [0] rfl
  have hFc := va_free (wc := TSw cA a0 aR aM aW aP aS aC aO nW nE R f us P S sc li rc rn ro rd st) hD hS hA [0, 1, 2, 3, 4, 5, 6, 7] rfl
  refine vx_callv (vx_runV (As := [.int p1, .int p2, .int p3]) (rest := []) ⟨hx, hb, hml, hown, hw⟩ (mT_get l hlT sa dC dI cA a0 aR aM aW aP aS aC aO nW nE s.heap.size R f us P S sc li rc rn ro rd st p1 p2 p3 _ _ h) (cwV 3 hw g_L_36 rfl rfl rfl (by decide +kernel) ⟨Nat.le_of_ble_eq_true rfl, Nat.le_of_ble_eq_true rfl⟩) (xw_PV (ci := 0) (q0 := 0) hKc hPc hDc (xt_at hXT hS) hFc rfl rfl) rfl rfl hl.1 rfl (lv_room (Nat.le_of_ble_eq_true rfl)) d_L_get_4 ⟨Nat.le_of_ble_eq_true rfl, Nat.le_of_ble_eq_true rfl⟩) hS (fun q _ h => hFc q h) hFc (fun q _ h => hFc q h) (fun E9 ce q9 u t H1 locs ht hvm _ hB hz1 hk1 hS hce hcv hcl => ?_) (fun u t H1 locs ht hvm h hB hz1 hk1 hS => ?_)
  · obtain ⟨R_4, st_4⟩ := u
    obtain ⟨h, hB⟩ := hB
    obtain ⟨hP1, hK1, hD1⟩ := hB
    rw [ht] at hP1
    obtain ⟨hP, hD⟩ := va_join (wr := [(aL, .inl (cL, 1, .inr (.inl ot)))]) (w1 := TSw cA a0 aR aM aW aP aS aC aO nW nE R_4 f us P S sc li rc rn ro rd st_4) hP hD [0, 1, 2, 3, 4, 5, 6, 7] [8] rfl rfl (by decide) (by decide) hk1 hFc hP1 hD1
    have hP := hP.sub (ws' := LHw cA a0 aR aM aW aP aS aC aO nW nE cL aL R_4 f us P S sc li rc rn ro rd st_4 ot) [1, 2, 3, 4, 5, 6, 7, 8, 0] rfl
    have hD := hD.sub (ws' := LHw cA a0 aR aM aW aP aS aC aO nW nE cL aL R_4 f us P S sc li rc rn ro rd st_4 ot) [1, 2, 3, 4, 5, 6, 7, 8, 0] (by decide) rfl
    generalize H1 = H at hP hS hce ⊢
    clear hPc hDc hKc hFc hP1 hD1 hK1 hk1
    try dsimp only at h
    rcases h with ⟨rfl, h⟩ | ⟨rfl, h⟩
    · refine vx_catch (own := R_L) (name := "java/lang/IllegalArgumentException") (E := "java/lang/IllegalArgumentException") hown [] ⟨0, 7, 10, 13⟩ [⟨0, 7, 14, 40⟩] hTab (fun z hz => nomatch hz) (by decide) (by decide) (hw _ wd_209) (hXT.2.2.2.2.2.2.2.2.2.1 _) hce hcv hcl ?_
      refine lv_astore (lv' := [(4, .ref q9), (0, .ref a0), (1, .int p1), (2, .int p2), (3, .int p3)]) hx hb d_L_get_10 hl (by decide) rfl (fun ls hl => ?_)
      refine lv_iconst (v := (1 : Int32)) hx hb d_L_get_12 (by decide) ?_
      refine W.widen (k := 4) (n := 24) (Nat.le_of_ble_eq_true rfl) (Nat.le_of_ble_eq_true rfl) ?_
      exact W.iret (v := (1 : Int32)) hx hb hr9 (fun t ht hW => ⟨⟨_, (R_4, st_4), rfl, h, by rw [ht]; exact hP, va_K.moved hW.alike hK, hD⟩, hS.F ht⟩) hS.2.2 d_L_get_13
    · refine vx_catch (own := R_L) (name := "java/lang/IndexOutOfBoundsException") (E := "java/lang/IndexOutOfBoundsException") hown [⟨0, 7, 10, 13⟩] ⟨0, 7, 14, 40⟩ [] hTab (fun z hz => by rcases List.mem_cons.mp hz with rfl | hz; exact Or.inr ⟨by decide, "java/lang/IllegalArgumentException", hw _ wd_209, hNC.2⟩; cases hz) (by decide) (by decide) (hw _ wd_407) (hXT.2.2.2.2.2.2.2.2.2.2.1 _) hce hcv hcl ?_
      refine lv_astore (lv' := [(4, .ref q9), (0, .ref a0), (1, .int p1), (2, .int p2), (3, .int p3)]) hx hb d_L_get_14 hl (by decide) rfl (fun ls hl => ?_)
      refine lv_iconst (v := (2 : Int32)) hx hb d_L_get_16 (by decide) ?_
      refine W.widen (k := 4) (n := 24) (Nat.le_of_ble_eq_true rfl) (Nat.le_of_ble_eq_true rfl) ?_
      exact W.iret (v := (2 : Int32)) hx hb hr9 (fun t ht hW => ⟨⟨_, (R_4, st_4), rfl, h, by rw [ht]; exact hP, va_K.moved hW.alike hK, hD⟩, hS.F ht⟩) hS.2.2 d_L_get_17
  · obtain ⟨R_4, st_4⟩ := u
    obtain ⟨hP1, hK1, hD1⟩ := hB
    rw [ht] at hP1
    obtain ⟨hP, hD⟩ := va_join (wr := [(aL, .inl (cL, 1, .inr (.inl ot)))]) (w1 := TSw cA a0 aR aM aW aP aS aC aO nW nE R_4 f us P S sc li rc rn ro rd st_4) hP hD [0, 1, 2, 3, 4, 5, 6, 7] [8] rfl rfl (by decide) (by decide) hk1 hFc hP1 hD1
    have hP := hP.sub (ws' := LHw cA a0 aR aM aW aP aS aC aO nW nE cL aL R_4 f us P S sc li rc rn ro rd st_4 ot) [1, 2, 3, 4, 5, 6, 7, 8, 0] rfl
    have hD := hD.sub (ws' := LHw cA a0 aR aM aW aP aS aC aO nW nE cL aL R_4 f us P S sc li rc rn ro rd st_4 ot) [1, 2, 3, 4, 5, 6, 7, 8, 0] (by decide) rfl
    generalize H1 = H at hP hS ⊢
    clear hPc hDc hKc hFc hP1 hD1 hK1 hk1
    try dsimp only at h
    refine lv_goto (tgt := 18) hx hb d_L_get_7 (by decide) ?_
    refine lv_iconst (v := (0 : Int32)) hx hb d_L_get_18 (by decide) ?_
    refine W.widen (k := 4) (n := 24) (Nat.le_of_ble_eq_true rfl) (Nat.le_of_ble_eq_true rfl) ?_
    exact W.iret (v := (0 : Int32)) hx hb hr9 (fun t ht hW => ⟨⟨_, (R_4, st_4), rfl, h, by rw [ht]; exact hP, va_K.moved hW.alike hK, hD⟩, hS.F ht⟩) hS.2.2 d_L_get_19
def wqL_put (nW : Nat) (nE : Nat) (R : Nat → Int32) (f : Nat → Int32) (P : Nat → Int32) (st : Int32) (p1 : Int32) (p2 : Int32) (p3 : Int32) (post : Int32 → (Nat → Int32) → Int32 → Prop) : Prop :=
  wqT_put nW nE R f P st p1 p2 p3 (fun f_4 st_4 => post (0 : Int32) f_4 st_4) (fun E f_4 st_4 => (E = "java/lang/IllegalArgumentException" ∧ (post (1 : Int32) f_4 st_4)) ∨ (E = "java/lang/IndexOutOfBoundsException" ∧ (post (2 : Int32) f_4 st_4)))
set_option maxHeartbeats 4000000 in
set_option maxRecDepth 100000 in
theorem mL_put (l : Launch) (hlT : l.stackTraces = false) (sa : Nat → Nat) (dC : Nat → ClassId) (dI : Nat → Nat → Nat) (cA : ClassId) (a0 : Nat) (aR : Nat) (aM : Nat) (aW : Nat) (aP : Nat) (aS : Nat) (aC : Nat) (aO : Nat) (nW : Nat) (nE : Nat) (cL : ClassId) (aL : Nat) (sz : Nat) (R : Nat → Int32) (f : Nat → Int32) (us : Int32) (P : Nat → Int32) (S : Nat → Int32) (sc : Int32) (li : Int32) (rc : Nat → Int32) (rn : Int32) (ro : Nat → Int32) (rd : Int32) (st : Int32) (ot : Nat → Int64) (p1 : Int32) (p2 : Int32) (p3 : Int32) (post : Int32 → (Nat → Int32) → Int32 → Prop) (h : wqL_put nW nE R f P st p1 p2 p3 post) : Met l y_L_put ws_L_put ({ frames := 9, cells := 4, slots := 24, locals := 164 }) (xh_P (dC, dI) vwCl (LHw cA a0 aR aM aW aP aS aC aO nW nE cL aL R f us P S sc li rc rn ro rd st ot) [(cA, .int), (cL, .long)] sz sa [.ref a0, .int p1, .int p2, .int p3]) (va_Qi (fun (r : Int32) (u : (Nat → Int32) × Int32) => post r u.1 u.2) (rw_B (dC, dI) vwCl [(cA, .int), (cL, .long)] (va_A (LHw cA a0 aR aM aW aP aS aC aO nW nE cL aL R f us P S sc li rc rn ro rd st ot) sz) (fun u : (Nat → Int32) × Int32 => LHw cA a0 aR aM aW aP aS aC aO nW nE cL aL R u.1 us P S sc li rc rn ro rd u.2 ot)) (va_A (LHw cA a0 aR aM aW aP aS aC aO nW nE cL aL R f us P S sc li rc rn ro rd st ot) sz)) 4 24 (va_A (LHw cA a0 aR aM aW aP aS aC aO nW nE cL aL R f us P S sc li rc rn ro rd st ot) sz) := by
  refine va_MetW (cc := c_L_put) (maxL := 5) (ret := (some .int)) (hh := [(0, 7, 10, 13), (0, 7, 14, 40)]) (by decide) rfl ?_
  intro p e s m args below meth c s₁ B hml hv
  obtain ⟨rfl, hsz, hP, hK, hD0, hXT, hNC⟩ := hv
  have hx := B.exec
  have hb := B.bytes
  have hr9 := B.returns
  have hts := atoms_spec (ws := ws_L_put) B.pre
  have hw : ∀ w ∈ WB_, w.before _ s = true := fun w h => hts w (List.mem_cons_of_mem _ h)
  have hTab : c.exceptionTable.toList = tableOf [(0, 7, 10, 13), (0, 7, 14, 40)] := vx_table (x := y_L_put) B (hts _ List.mem_cons_self)
  have hown : s.vm.findClass R_L = some m.cls := findClass_of_methodNamed B.named
  have hlocks := B.notSynchronized
  subst hsz
  have hD := hD0.self (sz := s.heap.size)
  generalize hAe : va_A (LHw cA a0 aR aM aW aP aS aC aO nW nE cL aL R f us P S sc li rc rn ro rd st ot) s.heap.size = A at hD hXT ⊢
  have hA : ∀ q : Nat, s.heap.size ≤ q → A q := fun q h => by rw [← hAe]; exact Or.inr h
  have hS : va_S A s.heap s.heap [] := va_S.rf
  have hl := lv_entry ([.ref a0, .int p1, .int p2, .int p3]) (n := 5) (Nat.le_of_ble_eq_true rfl)
  rw [lg_entry_eq]
  generalize (lg_sl ([.ref a0, .int p1, .int p2, .int p3]) ++ List.replicate (5 - (lg_sl ([.ref a0, .int p1, .int p2, .int p3])).length) Slot.unset).toArray = ls at hl ⊢
  have hl : lv_has ls 5 [(0, .ref a0), (1, .int p1), (2, .int p2), (3, .int p3)] := hl
  unfold wqL_put at h
  refine lv_aload_n hx hb d_L_put_0 rfl (lv_at hl 0 rfl) ?_
  refine lv_iload_n hx hb d_L_put_1 rfl (lv_at hl 1 rfl) ?_
  refine lv_iload_n hx hb d_L_put_2 rfl (lv_at hl 2 rfl) ?_
  refine lv_iload_n hx hb d_L_put_3 rfl (lv_at hl 3 rfl) ?_
  have hPc := hP.sub (ws' := TSw cA a0 aR aM aW aP aS aC aO nW nE R f us P S sc li rc rn ro rd st) [0, 1, 2, 3, 4, 5, 6, 7] rfl
  have hDc := hD.sub (ws' := TSw cA a0 aR aM aW aP aS aC aO nW nE R f us P S sc li rc rn ro rd st) [0, 1, 2, 3, 4, 5, 6, 7] (by decide) rfl
  have hKc := hK.sub (tys' := [(cA, .int)]) [0] rfl
  have hFc := va_free (wc := TSw cA a0 aR aM aW aP aS aC aO nW nE R f us P S sc li rc rn ro rd st) hD hS hA [0, 1, 2, 3, 4, 5, 6, 7] rfl
  refine vx_callv (vx_runV (As := [.int p1, .int p2, .int p3]) (rest := []) ⟨hx, hb, hml, hown, hw⟩ (mT_put l hlT sa dC dI cA a0 aR aM aW aP aS aC aO nW nE s.heap.size R f us P S sc li rc rn ro rd st p1 p2 p3 _ _ h) (cwV 3 hw g_L_42 rfl rfl rfl (by decide +kernel) ⟨Nat.le_of_ble_eq_true rfl, Nat.le_of_ble_eq_true rfl⟩) (xw_PV (ci := 0) (q0 := 0) hKc hPc hDc (xt_at hXT hS) hFc rfl rfl) rfl rfl hl.1 rfl (lv_room (Nat.le_of_ble_eq_true rfl)) d_L_put_4 ⟨Nat.le_of_ble_eq_true rfl, Nat.le_of_ble_eq_true rfl⟩) hS (fun q _ h => hFc q h) hFc (fun q _ h => hFc q h) (fun E9 ce q9 u t H1 locs ht hvm _ hB hz1 hk1 hS hce hcv hcl => ?_) (fun u t H1 locs ht hvm h hB hz1 hk1 hS => ?_)
  · obtain ⟨f_4, st_4⟩ := u
    obtain ⟨h, hB⟩ := hB
    obtain ⟨hP1, hK1, hD1⟩ := hB
    rw [ht] at hP1
    obtain ⟨hP, hD⟩ := va_join (wr := [(aL, .inl (cL, 1, .inr (.inl ot)))]) (w1 := TSw cA a0 aR aM aW aP aS aC aO nW nE R f_4 us P S sc li rc rn ro rd st_4) hP hD [0, 1, 2, 3, 4, 5, 6, 7] [8] rfl rfl (by decide) (by decide) hk1 hFc hP1 hD1
    have hP := hP.sub (ws' := LHw cA a0 aR aM aW aP aS aC aO nW nE cL aL R f_4 us P S sc li rc rn ro rd st_4 ot) [1, 2, 3, 4, 5, 6, 7, 8, 0] rfl
    have hD := hD.sub (ws' := LHw cA a0 aR aM aW aP aS aC aO nW nE cL aL R f_4 us P S sc li rc rn ro rd st_4 ot) [1, 2, 3, 4, 5, 6, 7, 8, 0] (by decide) rfl
    generalize H1 = H at hP hS hce ⊢
    clear hPc hDc hKc hFc hP1 hD1 hK1 hk1
    try dsimp only at h
    rcases h with ⟨rfl, h⟩ | ⟨rfl, h⟩
    · refine vx_catch (own := R_L) (name := "java/lang/IllegalArgumentException") (E := "java/lang/IllegalArgumentException") hown [] ⟨0, 7, 10, 13⟩ [⟨0, 7, 14, 40⟩] hTab (fun z hz => nomatch hz) (by decide) (by decide) (hw _ wd_209) (hXT.2.2.2.2.2.2.2.2.2.1 _) hce hcv hcl ?_
      refine lv_astore (lv' := [(4, .ref q9), (0, .ref a0), (1, .int p1), (2, .int p2), (3, .int p3)]) hx hb d_L_put_10 hl (by decide) rfl (fun ls hl => ?_)
      refine lv_iconst (v := (1 : Int32)) hx hb d_L_put_12 (by decide) ?_
      refine W.widen (k := 4) (n := 24) (Nat.le_of_ble_eq_true rfl) (Nat.le_of_ble_eq_true rfl) ?_
      exact W.iret (v := (1 : Int32)) hx hb hr9 (fun t ht hW => ⟨⟨_, (f_4, st_4), rfl, h, by rw [ht]; exact hP, va_K.moved hW.alike hK, hD⟩, hS.F ht⟩) hS.2.2 d_L_put_13
    · refine vx_catch (own := R_L) (name := "java/lang/IndexOutOfBoundsException") (E := "java/lang/IndexOutOfBoundsException") hown [⟨0, 7, 10, 13⟩] ⟨0, 7, 14, 40⟩ [] hTab (fun z hz => by rcases List.mem_cons.mp hz with rfl | hz; exact Or.inr ⟨by decide, "java/lang/IllegalArgumentException", hw _ wd_209, hNC.2⟩; cases hz) (by decide) (by decide) (hw _ wd_407) (hXT.2.2.2.2.2.2.2.2.2.2.1 _) hce hcv hcl ?_
      refine lv_astore (lv' := [(4, .ref q9), (0, .ref a0), (1, .int p1), (2, .int p2), (3, .int p3)]) hx hb d_L_put_14 hl (by decide) rfl (fun ls hl => ?_)
      refine lv_iconst (v := (2 : Int32)) hx hb d_L_put_16 (by decide) ?_
      refine W.widen (k := 4) (n := 24) (Nat.le_of_ble_eq_true rfl) (Nat.le_of_ble_eq_true rfl) ?_
      exact W.iret (v := (2 : Int32)) hx hb hr9 (fun t ht hW => ⟨⟨_, (f_4, st_4), rfl, h, by rw [ht]; exact hP, va_K.moved hW.alike hK, hD⟩, hS.F ht⟩) hS.2.2 d_L_put_17
  · obtain ⟨f_4, st_4⟩ := u
    obtain ⟨hP1, hK1, hD1⟩ := hB
    rw [ht] at hP1
    obtain ⟨hP, hD⟩ := va_join (wr := [(aL, .inl (cL, 1, .inr (.inl ot)))]) (w1 := TSw cA a0 aR aM aW aP aS aC aO nW nE R f_4 us P S sc li rc rn ro rd st_4) hP hD [0, 1, 2, 3, 4, 5, 6, 7] [8] rfl rfl (by decide) (by decide) hk1 hFc hP1 hD1
    have hP := hP.sub (ws' := LHw cA a0 aR aM aW aP aS aC aO nW nE cL aL R f_4 us P S sc li rc rn ro rd st_4 ot) [1, 2, 3, 4, 5, 6, 7, 8, 0] rfl
    have hD := hD.sub (ws' := LHw cA a0 aR aM aW aP aS aC aO nW nE cL aL R f_4 us P S sc li rc rn ro rd st_4 ot) [1, 2, 3, 4, 5, 6, 7, 8, 0] (by decide) rfl
    generalize H1 = H at hP hS ⊢
    clear hPc hDc hKc hFc hP1 hD1 hK1 hk1
    try dsimp only at h
    refine lv_goto (tgt := 18) hx hb d_L_put_7 (by decide) ?_
    refine lv_iconst (v := (0 : Int32)) hx hb d_L_put_18 (by decide) ?_
    refine W.widen (k := 4) (n := 24) (Nat.le_of_ble_eq_true rfl) (Nat.le_of_ble_eq_true rfl) ?_
    exact W.iret (v := (0 : Int32)) hx hb hr9 (fun t ht hW => ⟨⟨_, (f_4, st_4), rfl, h, by rw [ht]; exact hP, va_K.moved hW.alike hK, hD⟩, hS.F ht⟩) hS.2.2 d_L_put_19
def wqL_walk (nW : Nat) (nE : Nat) (R : Nat → Int32) (f : Nat → Int32) (P : Nat → Int32) (st : Int32) (ot : Nat → Int64) (p1 : Int32) (p2 : Int32) (p3 : Int32) (post : Int32 → (Nat → Int32) → Int32 → (Nat → Int64) → Prop) : Prop :=
  wqT_walk nW nE R f P st p1 p2 p3 (fun r7 R_7 st_7 => vp_in (0 : Int32) 1 ∧ (post (0 : Int32) R_7 st_7 (vp_updL ot (0 : Int32).toNatClampNeg r7.toInt64))) (fun E R_7 st_7 => (E = "java/lang/IllegalArgumentException" ∧ (post (1 : Int32) R_7 st_7 ot)))
set_option maxHeartbeats 4000000 in
set_option maxRecDepth 100000 in
theorem mL_walk (l : Launch) (hlT : l.stackTraces = false) (sa : Nat → Nat) (dC : Nat → ClassId) (dI : Nat → Nat → Nat) (cA : ClassId) (a0 : Nat) (aR : Nat) (aM : Nat) (aW : Nat) (aP : Nat) (aS : Nat) (aC : Nat) (aO : Nat) (nW : Nat) (nE : Nat) (cL : ClassId) (aL : Nat) (sz : Nat) (R : Nat → Int32) (f : Nat → Int32) (us : Int32) (P : Nat → Int32) (S : Nat → Int32) (sc : Int32) (li : Int32) (rc : Nat → Int32) (rn : Int32) (ro : Nat → Int32) (rd : Int32) (st : Int32) (ot : Nat → Int64) (p1 : Int32) (p2 : Int32) (p3 : Int32) (post : Int32 → (Nat → Int32) → Int32 → (Nat → Int64) → Prop) (h : wqL_walk nW nE R f P st ot p1 p2 p3 post) : Met l y_L_walk ws_L_walk ({ frames := 8, cells := 2, slots := 12, locals := 147 }) (xh_P (dC, dI) vwCl (LHw cA a0 aR aM aW aP aS aC aO nW nE cL aL R f us P S sc li rc rn ro rd st ot) [(cA, .int), (cL, .long)] sz sa [.ref a0, .int p1, .int p2, .int p3, .ref aL]) (va_Qi (fun (r : Int32) (u : (Nat → Int32) × Int32 × (Nat → Int64)) => post r u.1 u.2.1 u.2.2) (rw_B (dC, dI) vwCl [(cA, .int), (cL, .long)] (va_A (LHw cA a0 aR aM aW aP aS aC aO nW nE cL aL R f us P S sc li rc rn ro rd st ot) sz) (fun u : (Nat → Int32) × Int32 × (Nat → Int64) => LHw cA a0 aR aM aW aP aS aC aO nW nE cL aL u.1 f us P S sc li rc rn ro rd u.2.1 u.2.2)) (va_A (LHw cA a0 aR aM aW aP aS aC aO nW nE cL aL R f us P S sc li rc rn ro rd st ot) sz)) 2 12 (va_A (LHw cA a0 aR aM aW aP aS aC aO nW nE cL aL R f us P S sc li rc rn ro rd st ot) sz) := by
  refine va_MetW (cc := c_L_walk) (maxL := 6) (ret := (some .int)) (hh := [(0, 12, 15, 13)]) (by decide) rfl ?_
  intro p e s m args below meth c s₁ B hml hv
  obtain ⟨rfl, hsz, hP, hK, hD0, hXT, hNC⟩ := hv
  have hx := B.exec
  have hb := B.bytes
  have hr9 := B.returns
  have hts := atoms_spec (ws := ws_L_walk) B.pre
  have hw : ∀ w ∈ WB_, w.before _ s = true := fun w h => hts w (List.mem_cons_of_mem _ h)
  have hTab : c.exceptionTable.toList = tableOf [(0, 12, 15, 13)] := vx_table (x := y_L_walk) B (hts _ List.mem_cons_self)
  have hown : s.vm.findClass R_L = some m.cls := findClass_of_methodNamed B.named
  have hlocks := B.notSynchronized
  subst hsz
  have hD := hD0.self (sz := s.heap.size)
  generalize hAe : va_A (LHw cA a0 aR aM aW aP aS aC aO nW nE cL aL R f us P S sc li rc rn ro rd st ot) s.heap.size = A at hD hXT ⊢
  have hA : ∀ q : Nat, s.heap.size ≤ q → A q := fun q h => by rw [← hAe]; exact Or.inr h
  have hS : va_S A s.heap s.heap [] := va_S.rf
  have hl := lv_entry ([.ref a0, .int p1, .int p2, .int p3, .ref aL]) (n := 6) (Nat.le_of_ble_eq_true rfl)
  rw [lg_entry_eq]
  generalize (lg_sl ([.ref a0, .int p1, .int p2, .int p3, .ref aL]) ++ List.replicate (6 - (lg_sl ([.ref a0, .int p1, .int p2, .int p3, .ref aL])).length) Slot.unset).toArray = ls at hl ⊢
  have hl : lv_has ls 6 [(0, .ref a0), (1, .int p1), (2, .int p2), (3, .int p3), (4, .ref aL)] := hl
  unfold wqL_walk at h
  refine lv_aload hx hb d_L_walk_0 (lv_at hl 4 rfl) ?_
  refine lv_iconst (v := (0 : Int32)) hx hb d_L_walk_2 (by decide) ?_
  refine lv_aload_n hx hb d_L_walk_3 rfl (lv_at hl 0 rfl) ?_
  refine lv_iload_n hx hb d_L_walk_4 rfl (lv_at hl 1 rfl) ?_
  refine lv_iload_n hx hb d_L_walk_5 rfl (lv_at hl 2 rfl) ?_
  refine lv_iload_n hx hb d_L_walk_6 rfl (lv_at hl 3 rfl) ?_
  have hPc := hP.sub (ws' := TSw cA a0 aR aM aW aP aS aC aO nW nE R f us P S sc li rc rn ro rd st) [0, 1, 2, 3, 4, 5, 6, 7] rfl
  have hDc := hD.sub (ws' := TSw cA a0 aR aM aW aP aS aC aO nW nE R f us P S sc li rc rn ro rd st) [0, 1, 2, 3, 4, 5, 6, 7] (by decide) rfl
  have hKc := hK.sub (tys' := [(cA, .int)]) [0] rfl
  have hFc := va_free (wc := TSw cA a0 aR aM aW aP aS aC aO nW nE R f us P S sc li rc rn ro rd st) hD hS hA [0, 1, 2, 3, 4, 5, 6, 7] rfl
  refine vx_calli (vx_runV (As := [.int p1, .int p2, .int p3]) (rest := [.int (0 : Int32), .ref aL]) ⟨hx, hb, hml, hown, hw⟩ (mT_walk l hlT sa dC dI cA a0 aR aM aW aP aS aC aO nW nE s.heap.size R f us P S sc li rc rn ro rd st p1 p2 p3 _ _ h) (cwV 3 hw g_L_45 rfl rfl rfl (by decide +kernel) ⟨Nat.le_of_ble_eq_true rfl, Nat.le_of_ble_eq_true rfl⟩) (xw_PV (ci := 0) (q0 := 0) hKc hPc hDc (xt_at hXT hS) hFc rfl rfl) rfl rfl hl.1 rfl (lv_room (Nat.le_of_ble_eq_true rfl)) d_L_walk_7 ⟨Nat.le_of_ble_eq_true rfl, Nat.le_of_ble_eq_true rfl⟩) hS (fun q _ h => hFc q h) hFc (fun q _ h => hFc q h) (fun E9 ce q9 u t H1 locs ht hvm _ hB hz1 hk1 hS hce hcv hcl => ?_) (fun r7 u t H1 locs ht hvm h hB hz1 hk1 hS => ?_)
  · obtain ⟨R_7, st_7⟩ := u
    obtain ⟨h, hB⟩ := hB
    obtain ⟨hP1, hK1, hD1⟩ := hB
    rw [ht] at hP1
    obtain ⟨hP, hD⟩ := va_join (wr := [(aL, .inl (cL, 1, .inr (.inl ot)))]) (w1 := TSw cA a0 aR aM aW aP aS aC aO nW nE R_7 f us P S sc li rc rn ro rd st_7) hP hD [0, 1, 2, 3, 4, 5, 6, 7] [8] rfl rfl (by decide) (by decide) hk1 hFc hP1 hD1
    have hP := hP.sub (ws' := LHw cA a0 aR aM aW aP aS aC aO nW nE cL aL R_7 f us P S sc li rc rn ro rd st_7 ot) [1, 2, 3, 4, 5, 6, 7, 8, 0] rfl
    have hD := hD.sub (ws' := LHw cA a0 aR aM aW aP aS aC aO nW nE cL aL R_7 f us P S sc li rc rn ro rd st_7 ot) [1, 2, 3, 4, 5, 6, 7, 8, 0] (by decide) rfl
    generalize H1 = H at hP hS hce ⊢
    clear hPc hDc hKc hFc hP1 hD1 hK1 hk1
    try dsimp only at h
    obtain ⟨rfl, h⟩ := h
    refine vx_catch (own := R_L) (name := "java/lang/IllegalArgumentException") (E := "java/lang/IllegalArgumentException") hown [] ⟨0, 12, 15, 13⟩ [] hTab (fun z hz => nomatch hz) (by decide) (by decide) (hw _ wd_209) (hXT.2.2.2.2.2.2.2.2.2.1 _) hce hcv hcl ?_
    refine lv_astore (lv' := [(5, .ref q9), (0, .ref a0), (1, .int p1), (2, .int p2), (3, .int p3), (4, .ref aL)]) hx hb d_L_walk_15 hl (by decide) rfl (fun ls hl => ?_)
    refine lv_iconst (v := (1 : Int32)) hx hb d_L_walk_17 (by decide) ?_
    refine W.widen (k := 2) (n := 12) (Nat.le_of_ble_eq_true rfl) (Nat.le_of_ble_eq_true rfl) ?_
    exact W.iret (v := (1 : Int32)) hx hb hr9 (fun t ht hW => ⟨⟨_, (R_7, st_7, ot), rfl, h, by rw [ht]; exact hP, va_K.moved hW.alike hK, hD⟩, hS.F ht⟩) hS.2.2 d_L_walk_18
  · obtain ⟨R_7, st_7⟩ := u
    obtain ⟨hP1, hK1, hD1⟩ := hB
    rw [ht] at hP1
    obtain ⟨hP, hD⟩ := va_join (wr := [(aL, .inl (cL, 1, .inr (.inl ot)))]) (w1 := TSw cA a0 aR aM aW aP aS aC aO nW nE R_7 f us P S sc li rc rn ro rd st_7) hP hD [0, 1, 2, 3, 4, 5, 6, 7] [8] rfl rfl (by decide) (by decide) hk1 hFc hP1 hD1
    have hP := hP.sub (ws' := LHw cA a0 aR aM aW aP aS aC aO nW nE cL aL R_7 f us P S sc li rc rn ro rd st_7 ot) [1, 2, 3, 4, 5, 6, 7, 8, 0] rfl
    have hD := hD.sub (ws' := LHw cA a0 aR aM aW aP aS aC aO nW nE cL aL R_7 f us P S sc li rc rn ro rd st_7 ot) [1, 2, 3, 4, 5, 6, 7, 8, 0] (by decide) rfl
    generalize H1 = H at hP hS ⊢
    clear hPc hDc hKc hFc hP1 hD1 hK1 hk1
    try dsimp only at h
    refine lv_i2l (v := r7.toInt64) hx hb d_L_walk_10 rfl ?_
    refine va_last hx hb hK hP hD hS 8 1 rfl rfl h.1 d_L_walk_11 (fun H locs hP hD hS => ?_)
    have hP : va_P (dC, dI) vwCl (LHw cA a0 aR aM aW aP aS aC aO nW nE cL aL R_7 f us P S sc li rc rn ro rd st_7 (vp_updL ot (0 : Int32).toNatClampNeg r7.toInt64)) H := hP
    have hD : va_D A (LHw cA a0 aR aM aW aP aS aC aO nW nE cL aL R_7 f us P S sc li rc rn ro rd st_7 (vp_updL ot (0 : Int32).toNatClampNeg r7.toInt64)) := hD
    have h := h.2
    refine lv_goto (tgt := 19) hx hb d_L_walk_12 (by decide) ?_
    refine lv_iconst (v := (0 : Int32)) hx hb d_L_walk_19 (by decide) ?_
    refine W.widen (k := 2) (n := 12) (Nat.le_of_ble_eq_true rfl) (Nat.le_of_ble_eq_true rfl) ?_
    exact W.iret (v := (0 : Int32)) hx hb hr9 (fun t ht hW => ⟨⟨_, (R_7, st_7, vp_updL ot (0 : Int32).toNatClampNeg r7.toInt64), rfl, h, by rw [ht]; exact hP, va_K.moved hW.alike hK, hD⟩, hS.F ht⟩) hS.2.2 d_L_walk_20
def wqL_classOf (nW : Nat) (nE : Nat) (R : Nat → Int32) (f : Nat → Int32) (P : Nat → Int32) (st : Int32) (p1 : Int32) (p2 : Int32) (post : Int32 → (Nat → Int32) → Int32 → Prop) : Prop :=
  wqT_classOf nW nE R f P st p1 p2 (fun R_3 st_3 => post (0 : Int32) R_3 st_3) (fun E R_3 st_3 => (E = "java/lang/IllegalArgumentException" ∧ (post (1 : Int32) R_3 st_3)))
set_option maxHeartbeats 4000000 in
set_option maxRecDepth 100000 in
theorem mL_classOf (l : Launch) (hlT : l.stackTraces = false) (sa : Nat → Nat) (dC : Nat → ClassId) (dI : Nat → Nat → Nat) (cA : ClassId) (a0 : Nat) (aR : Nat) (aM : Nat) (aW : Nat) (aP : Nat) (aS : Nat) (aC : Nat) (aO : Nat) (nW : Nat) (nE : Nat) (cL : ClassId) (aL : Nat) (sz : Nat) (R : Nat → Int32) (f : Nat → Int32) (us : Int32) (P : Nat → Int32) (S : Nat → Int32) (sc : Int32) (li : Int32) (rc : Nat → Int32) (rn : Int32) (ro : Nat → Int32) (rd : Int32) (st : Int32) (ot : Nat → Int64) (p1 : Int32) (p2 : Int32) (post : Int32 → (Nat → Int32) → Int32 → Prop) (h : wqL_classOf nW nE R f P st p1 p2 post) : Met l y_L_classOf ws_L_classOf ({ frames := 9, cells := 3, slots := 18, locals := 163 }) (xh_P (dC, dI) vwCl (LHw cA a0 aR aM aW aP aS aC aO nW nE cL aL R f us P S sc li rc rn ro rd st ot) [(cA, .int), (cL, .long)] sz sa [.ref a0, .int p1, .int p2]) (va_Qi (fun (r : Int32) (u : (Nat → Int32) × Int32) => post r u.1 u.2) (rw_B (dC, dI) vwCl [(cA, .int), (cL, .long)] (va_A (LHw cA a0 aR aM aW aP aS aC aO nW nE cL aL R f us P S sc li rc rn ro rd st ot) sz) (fun u : (Nat → Int32) × Int32 => LHw cA a0 aR aM aW aP aS aC aO nW nE cL aL u.1 f us P S sc li rc rn ro rd u.2 ot)) (va_A (LHw cA a0 aR aM aW aP aS aC aO nW nE cL aL R f us P S sc li rc rn ro rd st ot) sz)) 3 18 (va_A (LHw cA a0 aR aM aW aP aS aC aO nW nE cL aL R f us P S sc li rc rn ro rd st ot) sz) := by
  refine va_MetW (cc := c_L_classOf) (maxL := 4) (ret := (some .int)) (hh := [(0, 6, 9, 13)]) (by decide) rfl ?_
  intro p e s m args below meth c s₁ B hml hv
  obtain ⟨rfl, hsz, hP, hK, hD0, hXT, hNC⟩ := hv
  have hx := B.exec
  have hb := B.bytes
  have hr9 := B.returns
  have hts := atoms_spec (ws := ws_L_classOf) B.pre
  have hw : ∀ w ∈ WB_, w.before _ s = true := fun w h => hts w (List.mem_cons_of_mem _ h)
  have hTab : c.exceptionTable.toList = tableOf [(0, 6, 9, 13)] := vx_table (x := y_L_classOf) B (hts _ List.mem_cons_self)
  have hown : s.vm.findClass R_L = some m.cls := findClass_of_methodNamed B.named
  have hlocks := B.notSynchronized
  subst hsz
  have hD := hD0.self (sz := s.heap.size)
  generalize hAe : va_A (LHw cA a0 aR aM aW aP aS aC aO nW nE cL aL R f us P S sc li rc rn ro rd st ot) s.heap.size = A at hD hXT ⊢
  have hA : ∀ q : Nat, s.heap.size ≤ q → A q := fun q h => by rw [← hAe]; exact Or.inr h
  have hS : va_S A s.heap s.heap [] := va_S.rf
  have hl := lv_entry ([.ref a0, .int p1, .int p2]) (n := 4) (Nat.le_of_ble_eq_true rfl)
  rw [lg_entry_eq]
  generalize (lg_sl ([.ref a0, .int p1, .int p2]) ++ List.replicate (4 - (lg_sl ([.ref a0, .int p1, .int p2])).length) Slot.unset).toArray = ls at hl ⊢
  have hl : lv_has ls 4 [(0, .ref a0), (1, .int p1), (2, .int p2)] := hl
  unfold wqL_classOf at h
  refine lv_aload_n hx hb d_L_classOf_0 rfl (lv_at hl 0 rfl) ?_
  refine lv_iload_n hx hb d_L_classOf_1 rfl (lv_at hl 1 rfl) ?_
  refine lv_iload_n hx hb d_L_classOf_2 rfl (lv_at hl 2 rfl) ?_
  have hPc := hP.sub (ws' := TSw cA a0 aR aM aW aP aS aC aO nW nE R f us P S sc li rc rn ro rd st) [0, 1, 2, 3, 4, 5, 6, 7] rfl
  have hDc := hD.sub (ws' := TSw cA a0 aR aM aW aP aS aC aO nW nE R f us P S sc li rc rn ro rd st) [0, 1, 2, 3, 4, 5, 6, 7] (by decide) rfl
  have hKc := hK.sub (tys' := [(cA, .int)]) [0] rfl
  have hFc := va_free (wc := TSw cA a0 aR aM aW aP aS aC aO nW nE R f us P S sc li rc rn ro rd st) hD hS hA [0, 1, 2, 3, 4, 5, 6, 7] rfl
  refine vx_callv (vx_runV (As := [.int p1, .int p2]) (rest := []) ⟨hx, hb, hml, hown, hw⟩ (mT_classOf l hlT sa dC dI cA a0 aR aM aW aP aS aC aO nW nE s.heap.size R f us P S sc li rc rn ro rd st p1 p2 _ _ h) (cwV 2 hw g_L_49 rfl rfl rfl (by decide +kernel) ⟨Nat.le_of_ble_eq_true rfl, Nat.le_of_ble_eq_true rfl⟩) (xw_PV (ci := 0) (q0 := 0) hKc hPc hDc (xt_at hXT hS) hFc rfl rfl) rfl rfl hl.1 rfl (lv_room (Nat.le_of_ble_eq_true rfl)) d_L_classOf_3 ⟨Nat.le_of_ble_eq_true rfl, Nat.le_of_ble_eq_true rfl⟩) hS (fun q _ h => hFc q h) hFc (fun q _ h => hFc q h) (fun E9 ce q9 u t H1 locs ht hvm _ hB hz1 hk1 hS hce hcv hcl => ?_) (fun u t H1 locs ht hvm h hB hz1 hk1 hS => ?_)
  · obtain ⟨R_3, st_3⟩ := u
    obtain ⟨h, hB⟩ := hB
    obtain ⟨hP1, hK1, hD1⟩ := hB
    rw [ht] at hP1
    obtain ⟨hP, hD⟩ := va_join (wr := [(aL, .inl (cL, 1, .inr (.inl ot)))]) (w1 := TSw cA a0 aR aM aW aP aS aC aO nW nE R_3 f us P S sc li rc rn ro rd st_3) hP hD [0, 1, 2, 3, 4, 5, 6, 7] [8] rfl rfl (by decide) (by decide) hk1 hFc hP1 hD1
    have hP := hP.sub (ws' := LHw cA a0 aR aM aW aP aS aC aO nW nE cL aL R_3 f us P S sc li rc rn ro rd st_3 ot) [1, 2, 3, 4, 5, 6, 7, 8, 0] rfl
    have hD := hD.sub (ws' := LHw cA a0 aR aM aW aP aS aC aO nW nE cL aL R_3 f us P S sc li rc rn ro rd st_3 ot) [1, 2, 3, 4, 5, 6, 7, 8, 0] (by decide) rfl
    generalize H1 = H at hP hS hce ⊢
    clear hPc hDc hKc hFc hP1 hD1 hK1 hk1
    try dsimp only at h
    obtain ⟨rfl, h⟩ := h
    refine vx_catch (own := R_L) (name := "java/lang/IllegalArgumentException") (E := "java/lang/IllegalArgumentException") hown [] ⟨0, 6, 9, 13⟩ [] hTab (fun z hz => nomatch hz) (by decide) (by decide) (hw _ wd_209) (hXT.2.2.2.2.2.2.2.2.2.1 _) hce hcv hcl ?_
    refine lv_astore_n (lv' := [(3, .ref q9), (0, .ref a0), (1, .int p1), (2, .int p2)]) hx hb d_L_classOf_9 rfl hl (by decide) rfl (fun ls hl => ?_)
    refine lv_iconst (v := (1 : Int32)) hx hb d_L_classOf_10 (by decide) ?_
    refine W.widen (k := 3) (n := 18) (Nat.le_of_ble_eq_true rfl) (Nat.le_of_ble_eq_true rfl) ?_
    exact W.iret (v := (1 : Int32)) hx hb hr9 (fun t ht hW => ⟨⟨_, (R_3, st_3), rfl, h, by rw [ht]; exact hP, va_K.moved hW.alike hK, hD⟩, hS.F ht⟩) hS.2.2 d_L_classOf_11
  · obtain ⟨R_3, st_3⟩ := u
    obtain ⟨hP1, hK1, hD1⟩ := hB
    rw [ht] at hP1
    obtain ⟨hP, hD⟩ := va_join (wr := [(aL, .inl (cL, 1, .inr (.inl ot)))]) (w1 := TSw cA a0 aR aM aW aP aS aC aO nW nE R_3 f us P S sc li rc rn ro rd st_3) hP hD [0, 1, 2, 3, 4, 5, 6, 7] [8] rfl rfl (by decide) (by decide) hk1 hFc hP1 hD1
    have hP := hP.sub (ws' := LHw cA a0 aR aM aW aP aS aC aO nW nE cL aL R_3 f us P S sc li rc rn ro rd st_3 ot) [1, 2, 3, 4, 5, 6, 7, 8, 0] rfl
    have hD := hD.sub (ws' := LHw cA a0 aR aM aW aP aS aC aO nW nE cL aL R_3 f us P S sc li rc rn ro rd st_3 ot) [1, 2, 3, 4, 5, 6, 7, 8, 0] (by decide) rfl
    generalize H1 = H at hP hS ⊢
    clear hPc hDc hKc hFc hP1 hD1 hK1 hk1
    try dsimp only at h
    refine lv_goto (tgt := 12) hx hb d_L_classOf_6 (by decide) ?_
    refine lv_iconst (v := (0 : Int32)) hx hb d_L_classOf_12 (by decide) ?_
    refine W.widen (k := 3) (n := 18) (Nat.le_of_ble_eq_true rfl) (Nat.le_of_ble_eq_true rfl) ?_
    exact W.iret (v := (0 : Int32)) hx hb hr9 (fun t ht hW => ⟨⟨_, (R_3, st_3), rfl, h, by rw [ht]; exact hP, va_K.moved hW.alike hK, hD⟩, hS.F ht⟩) hS.2.2 d_L_classOf_13
def wqL_setClass (nW : Nat) (nE : Nat) (R : Nat → Int32) (f : Nat → Int32) (P : Nat → Int32) (st : Int32) (p1 : Int32) (p2 : Int32) (post : Int32 → (Nat → Int32) → Int32 → Prop) : Prop :=
  wqT_setClass nW nE R f P st p1 p2 (fun f_3 st_3 => post (0 : Int32) f_3 st_3) (fun E f_3 st_3 => (E = "java/lang/IllegalArgumentException" ∧ (post (1 : Int32) f_3 st_3)))
set_option maxHeartbeats 4000000 in
set_option maxRecDepth 100000 in
theorem mL_setClass (l : Launch) (hlT : l.stackTraces = false) (sa : Nat → Nat) (dC : Nat → ClassId) (dI : Nat → Nat → Nat) (cA : ClassId) (a0 : Nat) (aR : Nat) (aM : Nat) (aW : Nat) (aP : Nat) (aS : Nat) (aC : Nat) (aO : Nat) (nW : Nat) (nE : Nat) (cL : ClassId) (aL : Nat) (sz : Nat) (R : Nat → Int32) (f : Nat → Int32) (us : Int32) (P : Nat → Int32) (S : Nat → Int32) (sc : Int32) (li : Int32) (rc : Nat → Int32) (rn : Int32) (ro : Nat → Int32) (rd : Int32) (st : Int32) (ot : Nat → Int64) (p1 : Int32) (p2 : Int32) (post : Int32 → (Nat → Int32) → Int32 → Prop) (h : wqL_setClass nW nE R f P st p1 p2 post) : Met l y_L_setClass ws_L_setClass ({ frames := 9, cells := 3, slots := 18, locals := 163 }) (xh_P (dC, dI) vwCl (LHw cA a0 aR aM aW aP aS aC aO nW nE cL aL R f us P S sc li rc rn ro rd st ot) [(cA, .int), (cL, .long)] sz sa [.ref a0, .int p1, .int p2]) (va_Qi (fun (r : Int32) (u : (Nat → Int32) × Int32) => post r u.1 u.2) (rw_B (dC, dI) vwCl [(cA, .int), (cL, .long)] (va_A (LHw cA a0 aR aM aW aP aS aC aO nW nE cL aL R f us P S sc li rc rn ro rd st ot) sz) (fun u : (Nat → Int32) × Int32 => LHw cA a0 aR aM aW aP aS aC aO nW nE cL aL R u.1 us P S sc li rc rn ro rd u.2 ot)) (va_A (LHw cA a0 aR aM aW aP aS aC aO nW nE cL aL R f us P S sc li rc rn ro rd st ot) sz)) 3 18 (va_A (LHw cA a0 aR aM aW aP aS aC aO nW nE cL aL R f us P S sc li rc rn ro rd st ot) sz) := by
  refine va_MetW (cc := c_L_setClass) (maxL := 4) (ret := (some .int)) (hh := [(0, 6, 9, 13)]) (by decide) rfl ?_
  intro p e s m args below meth c s₁ B hml hv
  obtain ⟨rfl, hsz, hP, hK, hD0, hXT, hNC⟩ := hv
  have hx := B.exec
  have hb := B.bytes
  have hr9 := B.returns
  have hts := atoms_spec (ws := ws_L_setClass) B.pre
  have hw : ∀ w ∈ WB_, w.before _ s = true := fun w h => hts w (List.mem_cons_of_mem _ h)
  have hTab : c.exceptionTable.toList = tableOf [(0, 6, 9, 13)] := vx_table (x := y_L_setClass) B (hts _ List.mem_cons_self)
  have hown : s.vm.findClass R_L = some m.cls := findClass_of_methodNamed B.named
  have hlocks := B.notSynchronized
  subst hsz
  have hD := hD0.self (sz := s.heap.size)
  generalize hAe : va_A (LHw cA a0 aR aM aW aP aS aC aO nW nE cL aL R f us P S sc li rc rn ro rd st ot) s.heap.size = A at hD hXT ⊢
  have hA : ∀ q : Nat, s.heap.size ≤ q → A q := fun q h => by rw [← hAe]; exact Or.inr h
  have hS : va_S A s.heap s.heap [] := va_S.rf
  have hl := lv_entry ([.ref a0, .int p1, .int p2]) (n := 4) (Nat.le_of_ble_eq_true rfl)
  rw [lg_entry_eq]
  generalize (lg_sl ([.ref a0, .int p1, .int p2]) ++ List.replicate (4 - (lg_sl ([.ref a0, .int p1, .int p2])).length) Slot.unset).toArray = ls at hl ⊢
  have hl : lv_has ls 4 [(0, .ref a0), (1, .int p1), (2, .int p2)] := hl
  unfold wqL_setClass at h
  refine lv_aload_n hx hb d_L_setClass_0 rfl (lv_at hl 0 rfl) ?_
  refine lv_iload_n hx hb d_L_setClass_1 rfl (lv_at hl 1 rfl) ?_
  refine lv_iload_n hx hb d_L_setClass_2 rfl (lv_at hl 2 rfl) ?_
  have hPc := hP.sub (ws' := TSw cA a0 aR aM aW aP aS aC aO nW nE R f us P S sc li rc rn ro rd st) [0, 1, 2, 3, 4, 5, 6, 7] rfl
  have hDc := hD.sub (ws' := TSw cA a0 aR aM aW aP aS aC aO nW nE R f us P S sc li rc rn ro rd st) [0, 1, 2, 3, 4, 5, 6, 7] (by decide) rfl
  have hKc := hK.sub (tys' := [(cA, .int)]) [0] rfl
  have hFc := va_free (wc := TSw cA a0 aR aM aW aP aS aC aO nW nE R f us P S sc li rc rn ro rd st) hD hS hA [0, 1, 2, 3, 4, 5, 6, 7] rfl
  refine vx_callv (vx_runV (As := [.int p1, .int p2]) (rest := []) ⟨hx, hb, hml, hown, hw⟩ (mT_setClass l hlT sa dC dI cA a0 aR aM aW aP aS aC aO nW nE s.heap.size R f us P S sc li rc rn ro rd st p1 p2 _ _ h) (cwV 2 hw g_L_52 rfl rfl rfl (by decide +kernel) ⟨Nat.le_of_ble_eq_true rfl, Nat.le_of_ble_eq_true rfl⟩) (xw_PV (ci := 0) (q0 := 0) hKc hPc hDc (xt_at hXT hS) hFc rfl rfl) rfl rfl hl.1 rfl (lv_room (Nat.le_of_ble_eq_true rfl)) d_L_setClass_3 ⟨Nat.le_of_ble_eq_true rfl, Nat.le_of_ble_eq_true rfl⟩) hS (fun q _ h => hFc q h) hFc (fun q _ h => hFc q h) (fun E9 ce q9 u t H1 locs ht hvm _ hB hz1 hk1 hS hce hcv hcl => ?_) (fun u t H1 locs ht hvm h hB hz1 hk1 hS => ?_)
  · obtain ⟨f_3, st_3⟩ := u
    obtain ⟨h, hB⟩ := hB
    obtain ⟨hP1, hK1, hD1⟩ := hB
    rw [ht] at hP1
    obtain ⟨hP, hD⟩ := va_join (wr := [(aL, .inl (cL, 1, .inr (.inl ot)))]) (w1 := TSw cA a0 aR aM aW aP aS aC aO nW nE R f_3 us P S sc li rc rn ro rd st_3) hP hD [0, 1, 2, 3, 4, 5, 6, 7] [8] rfl rfl (by decide) (by decide) hk1 hFc hP1 hD1
    have hP := hP.sub (ws' := LHw cA a0 aR aM aW aP aS aC aO nW nE cL aL R f_3 us P S sc li rc rn ro rd st_3 ot) [1, 2, 3, 4, 5, 6, 7, 8, 0] rfl
    have hD := hD.sub (ws' := LHw cA a0 aR aM aW aP aS aC aO nW nE cL aL R f_3 us P S sc li rc rn ro rd st_3 ot) [1, 2, 3, 4, 5, 6, 7, 8, 0] (by decide) rfl
    generalize H1 = H at hP hS hce ⊢
    clear hPc hDc hKc hFc hP1 hD1 hK1 hk1
    try dsimp only at h
    obtain ⟨rfl, h⟩ := h
    refine vx_catch (own := R_L) (name := "java/lang/IllegalArgumentException") (E := "java/lang/IllegalArgumentException") hown [] ⟨0, 6, 9, 13⟩ [] hTab (fun z hz => nomatch hz) (by decide) (by decide) (hw _ wd_209) (hXT.2.2.2.2.2.2.2.2.2.1 _) hce hcv hcl ?_
    refine lv_astore_n (lv' := [(3, .ref q9), (0, .ref a0), (1, .int p1), (2, .int p2)]) hx hb d_L_setClass_9 rfl hl (by decide) rfl (fun ls hl => ?_)
    refine lv_iconst (v := (1 : Int32)) hx hb d_L_setClass_10 (by decide) ?_
    refine W.widen (k := 3) (n := 18) (Nat.le_of_ble_eq_true rfl) (Nat.le_of_ble_eq_true rfl) ?_
    exact W.iret (v := (1 : Int32)) hx hb hr9 (fun t ht hW => ⟨⟨_, (f_3, st_3), rfl, h, by rw [ht]; exact hP, va_K.moved hW.alike hK, hD⟩, hS.F ht⟩) hS.2.2 d_L_setClass_11
  · obtain ⟨f_3, st_3⟩ := u
    obtain ⟨hP1, hK1, hD1⟩ := hB
    rw [ht] at hP1
    obtain ⟨hP, hD⟩ := va_join (wr := [(aL, .inl (cL, 1, .inr (.inl ot)))]) (w1 := TSw cA a0 aR aM aW aP aS aC aO nW nE R f_3 us P S sc li rc rn ro rd st_3) hP hD [0, 1, 2, 3, 4, 5, 6, 7] [8] rfl rfl (by decide) (by decide) hk1 hFc hP1 hD1
    have hP := hP.sub (ws' := LHw cA a0 aR aM aW aP aS aC aO nW nE cL aL R f_3 us P S sc li rc rn ro rd st_3 ot) [1, 2, 3, 4, 5, 6, 7, 8, 0] rfl
    have hD := hD.sub (ws' := LHw cA a0 aR aM aW aP aS aC aO nW nE cL aL R f_3 us P S sc li rc rn ro rd st_3 ot) [1, 2, 3, 4, 5, 6, 7, 8, 0] (by decide) rfl
    generalize H1 = H at hP hS ⊢
    clear hPc hDc hKc hFc hP1 hD1 hK1 hk1
    try dsimp only at h
    refine lv_goto (tgt := 12) hx hb d_L_setClass_6 (by decide) ?_
    refine lv_iconst (v := (0 : Int32)) hx hb d_L_setClass_12 (by decide) ?_
    refine W.widen (k := 3) (n := 18) (Nat.le_of_ble_eq_true rfl) (Nat.le_of_ble_eq_true rfl) ?_
    exact W.iret (v := (0 : Int32)) hx hb hr9 (fun t ht hW => ⟨⟨_, (f_3, st_3), rfl, h, by rw [ht]; exact hP, va_K.moved hW.alike hK, hD⟩, hS.F ht⟩) hS.2.2 d_L_setClass_13
def wqL_byteAt (nW : Nat) (nE : Nat) (R : Nat → Int32) (f : Nat → Int32) (P : Nat → Int32) (ot : Nat → Int64) (p1 : Int32) (p2 : Int32) (post : Int32 → (Nat → Int64) → Prop) : Prop :=
  wqT_byteAt nW nE R f P p1 p2 (fun r5 => vp_in (0 : Int32) 1 ∧ (post (0 : Int32) (vp_updL ot (0 : Int32).toNatClampNeg r5.toInt64))) (fun E => (E = "java/lang/IllegalArgumentException" ∧ (post (1 : Int32) ot)) ∨ (E = "java/lang/IndexOutOfBoundsException" ∧ (post (2 : Int32) ot)))
set_option maxHeartbeats 4000000 in
set_option maxRecDepth 100000 in
theorem mL_byteAt (l : Launch) (hlT : l.stackTraces = false) (sa : Nat → Nat) (dC : Nat → ClassId) (dI : Nat → Nat → Nat) (cA : ClassId) (a0 : Nat) (aR : Nat) (aM : Nat) (aW : Nat) (aP : Nat) (aS : Nat) (aC : Nat) (aO : Nat) (nW : Nat) (nE : Nat) (cL : ClassId) (aL : Nat) (sz : Nat) (R : Nat → Int32) (f : Nat → Int32) (us : Int32) (P : Nat → Int32) (S : Nat → Int32) (sc : Int32) (li : Int32) (rc : Nat → Int32) (rn : Int32) (ro : Nat → Int32) (rd : Int32) (st : Int32) (ot : Nat → Int64) (p1 : Int32) (p2 : Int32) (post : Int32 → (Nat → Int64) → Prop) (h : wqL_byteAt nW nE R f P ot p1 p2 post) : Met l y_L_byteAt ws_L_byteAt ({ frames := 9, cells := 3, slots := 18, locals := 163 }) (xh_P (dC, dI) vwCl (LHw cA a0 aR aM aW aP aS aC aO nW nE cL aL R f us P S sc li rc rn ro rd st ot) [(cA, .int), (cL, .long)] sz sa [.ref a0, .int p1, .int p2, .ref aL]) (va_Qi (fun (r : Int32) (u : (Nat → Int64)) => post r u) (rw_B (dC, dI) vwCl [(cA, .int), (cL, .long)] (va_A (LHw cA a0 aR aM aW aP aS aC aO nW nE cL aL R f us P S sc li rc rn ro rd st ot) sz) (fun u : (Nat → Int64) => LHw cA a0 aR aM aW aP aS aC aO nW nE cL aL R f us P S sc li rc rn ro rd st u)) (va_A (LHw cA a0 aR aM aW aP aS aC aO nW nE cL aL R f us P S sc li rc rn ro rd st ot) sz)) 3 18 (va_A (LHw cA a0 aR aM aW aP aS aC aO nW nE cL aL R f us P S sc li rc rn ro rd st ot) sz) := by
  refine va_MetW (cc := c_L_byteAt) (maxL := 5) (ret := (some .int)) (hh := [(0, 10, 13, 13), (0, 10, 17, 40)]) (by decide) rfl ?_
  intro p e s m args below meth c s₁ B hml hv
  obtain ⟨rfl, hsz, hP, hK, hD0, hXT, hNC⟩ := hv
  have hx := B.exec
  have hb := B.bytes
  have hr9 := B.returns
  have hts := atoms_spec (ws := ws_L_byteAt) B.pre
  have hw : ∀ w ∈ WB_, w.before _ s = true := fun w h => hts w (List.mem_cons_of_mem _ h)
  have hTab : c.exceptionTable.toList = tableOf [(0, 10, 13, 13), (0, 10, 17, 40)] := vx_table (x := y_L_byteAt) B (hts _ List.mem_cons_self)
  have hown : s.vm.findClass R_L = some m.cls := findClass_of_methodNamed B.named
  have hlocks := B.notSynchronized
  subst hsz
  have hD := hD0.self (sz := s.heap.size)
  generalize hAe : va_A (LHw cA a0 aR aM aW aP aS aC aO nW nE cL aL R f us P S sc li rc rn ro rd st ot) s.heap.size = A at hD hXT ⊢
  have hA : ∀ q : Nat, s.heap.size ≤ q → A q := fun q h => by rw [← hAe]; exact Or.inr h
  have hS : va_S A s.heap s.heap [] := va_S.rf
  have hl := lv_entry ([.ref a0, .int p1, .int p2, .ref aL]) (n := 5) (Nat.le_of_ble_eq_true rfl)
  rw [lg_entry_eq]
  generalize (lg_sl ([.ref a0, .int p1, .int p2, .ref aL]) ++ List.replicate (5 - (lg_sl ([.ref a0, .int p1, .int p2, .ref aL])).length) Slot.unset).toArray = ls at hl ⊢
  have hl : lv_has ls 5 [(0, .ref a0), (1, .int p1), (2, .int p2), (3, .ref aL)] := hl
  unfold wqL_byteAt at h
  refine lv_aload_n hx hb d_L_byteAt_0 rfl (lv_at hl 3 rfl) ?_
  refine lv_iconst (v := (0 : Int32)) hx hb d_L_byteAt_1 (by decide) ?_
  refine lv_aload_n hx hb d_L_byteAt_2 rfl (lv_at hl 0 rfl) ?_
  refine lv_iload_n hx hb d_L_byteAt_3 rfl (lv_at hl 1 rfl) ?_
  refine lv_iload_n hx hb d_L_byteAt_4 rfl (lv_at hl 2 rfl) ?_
  have hPc := hP.sub (ws' := TSw cA a0 aR aM aW aP aS aC aO nW nE R f us P S sc li rc rn ro rd st) [0, 1, 2, 3, 4, 5, 6, 7] rfl
  have hDc := hD.sub (ws' := TSw cA a0 aR aM aW aP aS aC aO nW nE R f us P S sc li rc rn ro rd st) [0, 1, 2, 3, 4, 5, 6, 7] (by decide) rfl
  have hKc := hK.sub (tys' := [(cA, .int)]) [0] rfl
  have hFc := va_free (wc := TSw cA a0 aR aM aW aP aS aC aO nW nE R f us P S sc li rc rn ro rd st) hD hS hA [0, 1, 2, 3, 4, 5, 6, 7] rfl
  refine vx_calli (vx_runV (As := [.int p1, .int p2]) (rest := [.int (0 : Int32), .ref aL]) ⟨hx, hb, hml, hown, hw⟩ (mT_byteAt l hlT sa dC dI cA a0 aR aM aW aP aS aC aO nW nE s.heap.size R f us P S sc li rc rn ro rd st p1 p2 _ _ h) (cwV 2 hw g_L_55 rfl rfl rfl (by decide +kernel) ⟨Nat.le_of_ble_eq_true rfl, Nat.le_of_ble_eq_true rfl⟩) (xw_PV (ci := 0) (q0 := 0) hKc hPc hDc (xt_at hXT hS) hFc rfl rfl) rfl rfl hl.1 rfl (lv_room (Nat.le_of_ble_eq_true rfl)) d_L_byteAt_5 ⟨Nat.le_of_ble_eq_true rfl, Nat.le_of_ble_eq_true rfl⟩) hS (fun q _ h => hFc q h) hFc (fun q _ h => hFc q h) (fun E9 ce q9 u t H1 locs ht hvm _ hB hz1 hk1 hS hce hcv hcl => ?_) (fun r5 u t H1 locs ht hvm h hB hz1 hk1 hS => ?_)
  · obtain ⟨h, hB⟩ := hB
    obtain ⟨hP1, hK1, hD1⟩ := hB
    rw [ht] at hP1
    obtain ⟨hP, hD⟩ := va_join (wr := [(aL, .inl (cL, 1, .inr (.inl ot)))]) (w1 := TSw cA a0 aR aM aW aP aS aC aO nW nE R f us P S sc li rc rn ro rd st) hP hD [0, 1, 2, 3, 4, 5, 6, 7] [8] rfl rfl (by decide) (by decide) hk1 hFc hP1 hD1
    have hP := hP.sub (ws' := LHw cA a0 aR aM aW aP aS aC aO nW nE cL aL R f us P S sc li rc rn ro rd st ot) [1, 2, 3, 4, 5, 6, 7, 8, 0] rfl
    have hD := hD.sub (ws' := LHw cA a0 aR aM aW aP aS aC aO nW nE cL aL R f us P S sc li rc rn ro rd st ot) [1, 2, 3, 4, 5, 6, 7, 8, 0] (by decide) rfl
    generalize H1 = H at hP hS hce ⊢
    clear hPc hDc hKc hFc hP1 hD1 hK1 hk1
    try dsimp only at h
    rcases h with ⟨rfl, h⟩ | ⟨rfl, h⟩
    · refine vx_catch (own := R_L) (name := "java/lang/IllegalArgumentException") (E := "java/lang/IllegalArgumentException") hown [] ⟨0, 10, 13, 13⟩ [⟨0, 10, 17, 40⟩] hTab (fun z hz => nomatch hz) (by decide) (by decide) (hw _ wd_209) (hXT.2.2.2.2.2.2.2.2.2.1 _) hce hcv hcl ?_
      refine lv_astore (lv' := [(4, .ref q9), (0, .ref a0), (1, .int p1), (2, .int p2), (3, .ref aL)]) hx hb d_L_byteAt_13 hl (by decide) rfl (fun ls hl => ?_)
      refine lv_iconst (v := (1 : Int32)) hx hb d_L_byteAt_15 (by decide) ?_
      refine W.widen (k := 3) (n := 18) (Nat.le_of_ble_eq_true rfl) (Nat.le_of_ble_eq_true rfl) ?_
      exact W.iret (v := (1 : Int32)) hx hb hr9 (fun t ht hW => ⟨⟨_, (ot), rfl, h, by rw [ht]; exact hP, va_K.moved hW.alike hK, hD⟩, hS.F ht⟩) hS.2.2 d_L_byteAt_16
    · refine vx_catch (own := R_L) (name := "java/lang/IndexOutOfBoundsException") (E := "java/lang/IndexOutOfBoundsException") hown [⟨0, 10, 13, 13⟩] ⟨0, 10, 17, 40⟩ [] hTab (fun z hz => by rcases List.mem_cons.mp hz with rfl | hz; exact Or.inr ⟨by decide, "java/lang/IllegalArgumentException", hw _ wd_209, hNC.2⟩; cases hz) (by decide) (by decide) (hw _ wd_407) (hXT.2.2.2.2.2.2.2.2.2.2.1 _) hce hcv hcl ?_
      refine lv_astore (lv' := [(4, .ref q9), (0, .ref a0), (1, .int p1), (2, .int p2), (3, .ref aL)]) hx hb d_L_byteAt_17 hl (by decide) rfl (fun ls hl => ?_)
      refine lv_iconst (v := (2 : Int32)) hx hb d_L_byteAt_19 (by decide) ?_
      refine W.widen (k := 3) (n := 18) (Nat.le_of_ble_eq_true rfl) (Nat.le_of_ble_eq_true rfl) ?_
      exact W.iret (v := (2 : Int32)) hx hb hr9 (fun t ht hW => ⟨⟨_, (ot), rfl, h, by rw [ht]; exact hP, va_K.moved hW.alike hK, hD⟩, hS.F ht⟩) hS.2.2 d_L_byteAt_20
  · obtain ⟨hP1, hK1, hD1⟩ := hB
    rw [ht] at hP1
    obtain ⟨hP, hD⟩ := va_join (wr := [(aL, .inl (cL, 1, .inr (.inl ot)))]) (w1 := TSw cA a0 aR aM aW aP aS aC aO nW nE R f us P S sc li rc rn ro rd st) hP hD [0, 1, 2, 3, 4, 5, 6, 7] [8] rfl rfl (by decide) (by decide) hk1 hFc hP1 hD1
    have hP := hP.sub (ws' := LHw cA a0 aR aM aW aP aS aC aO nW nE cL aL R f us P S sc li rc rn ro rd st ot) [1, 2, 3, 4, 5, 6, 7, 8, 0] rfl
    have hD := hD.sub (ws' := LHw cA a0 aR aM aW aP aS aC aO nW nE cL aL R f us P S sc li rc rn ro rd st ot) [1, 2, 3, 4, 5, 6, 7, 8, 0] (by decide) rfl
    generalize H1 = H at hP hS ⊢
    clear hPc hDc hKc hFc hP1 hD1 hK1 hk1
    try dsimp only at h
    refine lv_i2l (v := r5.toInt64) hx hb d_L_byteAt_8 rfl ?_
    refine va_last hx hb hK hP hD hS 8 1 rfl rfl h.1 d_L_byteAt_9 (fun H locs hP hD hS => ?_)
    have hP : va_P (dC, dI) vwCl (LHw cA a0 aR aM aW aP aS aC aO nW nE cL aL R f us P S sc li rc rn ro rd st (vp_updL ot (0 : Int32).toNatClampNeg r5.toInt64)) H := hP
    have hD : va_D A (LHw cA a0 aR aM aW aP aS aC aO nW nE cL aL R f us P S sc li rc rn ro rd st (vp_updL ot (0 : Int32).toNatClampNeg r5.toInt64)) := hD
    have h := h.2
    refine lv_goto (tgt := 21) hx hb d_L_byteAt_10 (by decide) ?_
    refine lv_iconst (v := (0 : Int32)) hx hb d_L_byteAt_21 (by decide) ?_
    refine W.widen (k := 3) (n := 18) (Nat.le_of_ble_eq_true rfl) (Nat.le_of_ble_eq_true rfl) ?_
    exact W.iret (v := (0 : Int32)) hx hb hr9 (fun t ht hW => ⟨⟨_, (vp_updL ot (0 : Int32).toNatClampNeg r5.toInt64), rfl, h, by rw [ht]; exact hP, va_K.moved hW.alike hK, hD⟩, hS.F ht⟩) hS.2.2 d_L_byteAt_22
def wqL_bytePut (nW : Nat) (nE : Nat) (R : Nat → Int32) (f : Nat → Int32) (P : Nat → Int32) (p1 : Int32) (p2 : Int32) (p3 : Int64) (post : Int32 → (Nat → Int32) → Prop) : Prop :=
  wqT_bytePut nW nE R f P p1 p2 p3 (fun f_4 => post (0 : Int32) f_4) (fun E f_4 => (E = "java/lang/IllegalArgumentException" ∧ (post (1 : Int32) f_4)) ∨ (E = "java/lang/IndexOutOfBoundsException" ∧ (post (2 : Int32) f_4)))
set_option maxHeartbeats 4000000 in
set_option maxRecDepth 100000 in
theorem mL_bytePut (l : Launch) (hlT : l.stackTraces = false) (sa : Nat → Nat) (dC : Nat → ClassId) (dI : Nat → Nat → Nat) (cA : ClassId) (a0 : Nat) (aR : Nat) (aM : Nat) (aW : Nat) (aP : Nat) (aS : Nat) (aC : Nat) (aO : Nat) (nW : Nat) (nE : Nat) (cL : ClassId) (aL : Nat) (sz : Nat) (R : Nat → Int32) (f : Nat → Int32) (us : Int32) (P : Nat → Int32) (S : Nat → Int32) (sc : Int32) (li : Int32) (rc : Nat → Int32) (rn : Int32) (ro : Nat → Int32) (rd : Int32) (st : Int32) (ot : Nat → Int64) (p1 : Int32) (p2 : Int32) (p3 : Int64) (post : Int32 → (Nat → Int32) → Prop) (h : wqL_bytePut nW nE R f P p1 p2 p3 post) : Met l y_L_bytePut ws_L_bytePut ({ frames := 9, cells := 3, slots := 18, locals := 169 }) (xh_P (dC, dI) vwCl (LHw cA a0 aR aM aW aP aS aC aO nW nE cL aL R f us P S sc li rc rn ro rd st ot) [(cA, .int), (cL, .long)] sz sa [.ref a0, .int p1, .int p2, .long p3]) (va_Qi (fun (r : Int32) (u : (Nat → Int32)) => post r u) (rw_B (dC, dI) vwCl [(cA, .int), (cL, .long)] (va_A (LHw cA a0 aR aM aW aP aS aC aO nW nE cL aL R f us P S sc li rc rn ro rd st ot) sz) (fun u : (Nat → Int32) => LHw cA a0 aR aM aW aP aS aC aO nW nE cL aL R u us P S sc li rc rn ro rd st ot)) (va_A (LHw cA a0 aR aM aW aP aS aC aO nW nE cL aL R f us P S sc li rc rn ro rd st ot) sz)) 3 18 (va_A (LHw cA a0 aR aM aW aP aS aC aO nW nE cL aL R f us P S sc li rc rn ro rd st ot) sz) := by
  refine va_MetW (cc := c_L_bytePut) (maxL := 6) (ret := (some .int)) (hh := [(0, 7, 10, 13), (0, 7, 14, 40)]) (by decide) rfl ?_
  intro p e s m args below meth c s₁ B hml hv
  obtain ⟨rfl, hsz, hP, hK, hD0, hXT, hNC⟩ := hv
  have hx := B.exec
  have hb := B.bytes
  have hr9 := B.returns
  have hts := atoms_spec (ws := ws_L_bytePut) B.pre
  have hw : ∀ w ∈ WB_, w.before _ s = true := fun w h => hts w (List.mem_cons_of_mem _ h)
  have hTab : c.exceptionTable.toList = tableOf [(0, 7, 10, 13), (0, 7, 14, 40)] := vx_table (x := y_L_bytePut) B (hts _ List.mem_cons_self)
  have hown : s.vm.findClass R_L = some m.cls := findClass_of_methodNamed B.named
  have hlocks := B.notSynchronized
  subst hsz
  have hD := hD0.self (sz := s.heap.size)
  generalize hAe : va_A (LHw cA a0 aR aM aW aP aS aC aO nW nE cL aL R f us P S sc li rc rn ro rd st ot) s.heap.size = A at hD hXT ⊢
  have hA : ∀ q : Nat, s.heap.size ≤ q → A q := fun q h => by rw [← hAe]; exact Or.inr h
  have hS : va_S A s.heap s.heap [] := va_S.rf
  have hl := lv_entry ([.ref a0, .int p1, .int p2, .long p3]) (n := 6) (Nat.le_of_ble_eq_true rfl)
  rw [lg_entry_eq]
  generalize (lg_sl ([.ref a0, .int p1, .int p2, .long p3]) ++ List.replicate (6 - (lg_sl ([.ref a0, .int p1, .int p2, .long p3])).length) Slot.unset).toArray = ls at hl ⊢
  have hl : lv_has ls 6 [(0, .ref a0), (1, .int p1), (2, .int p2), (3, .long p3)] := hl
  unfold wqL_bytePut at h
  refine lv_aload_n hx hb d_L_bytePut_0 rfl (lv_at hl 0 rfl) ?_
  refine lv_iload_n hx hb d_L_bytePut_1 rfl (lv_at hl 1 rfl) ?_
  refine lv_iload_n hx hb d_L_bytePut_2 rfl (lv_at hl 2 rfl) ?_
  refine lv_lload_n hx hb d_L_bytePut_3 rfl (lv_at hl 3 rfl) ?_
  have hPc := hP.sub (ws' := TSw cA a0 aR aM aW aP aS aC aO nW nE R f us P S sc li rc rn ro rd st) [0, 1, 2, 3, 4, 5, 6, 7] rfl
  have hDc := hD.sub (ws' := TSw cA a0 aR aM aW aP aS aC aO nW nE R f us P S sc li rc rn ro rd st) [0, 1, 2, 3, 4, 5, 6, 7] (by decide) rfl
  have hKc := hK.sub (tys' := [(cA, .int)]) [0] rfl
  have hFc := va_free (wc := TSw cA a0 aR aM aW aP aS aC aO nW nE R f us P S sc li rc rn ro rd st) hD hS hA [0, 1, 2, 3, 4, 5, 6, 7] rfl
  refine vx_callv (vx_runV (As := [.int p1, .int p2, .long p3]) (rest := []) ⟨hx, hb, hml, hown, hw⟩ (mT_bytePut l hlT sa dC dI cA a0 aR aM aW aP aS aC aO nW nE s.heap.size R f us P S sc li rc rn ro rd st p1 p2 p3 _ _ h) (cwV 3 hw g_L_58 rfl rfl rfl (by decide +kernel) ⟨Nat.le_of_ble_eq_true rfl, Nat.le_of_ble_eq_true rfl⟩) (xw_PV (ci := 0) (q0 := 0) hKc hPc hDc (xt_at hXT hS) hFc rfl rfl) rfl rfl hl.1 rfl (lv_room (Nat.le_of_ble_eq_true rfl)) d_L_bytePut_4 ⟨Nat.le_of_ble_eq_true rfl, Nat.le_of_ble_eq_true rfl⟩) hS (fun q _ h => hFc q h) hFc (fun q _ h => hFc q h) (fun E9 ce q9 u t H1 locs ht hvm _ hB hz1 hk1 hS hce hcv hcl => ?_) (fun u t H1 locs ht hvm h hB hz1 hk1 hS => ?_)
  · obtain ⟨f_4, rfl⟩ : ∃ z, z = u := ⟨_, rfl⟩
    obtain ⟨h, hB⟩ := hB
    obtain ⟨hP1, hK1, hD1⟩ := hB
    rw [ht] at hP1
    obtain ⟨hP, hD⟩ := va_join (wr := [(aL, .inl (cL, 1, .inr (.inl ot)))]) (w1 := TSw cA a0 aR aM aW aP aS aC aO nW nE R f_4 us P S sc li rc rn ro rd st) hP hD [0, 1, 2, 3, 4, 5, 6, 7] [8] rfl rfl (by decide) (by decide) hk1 hFc hP1 hD1
    have hP := hP.sub (ws' := LHw cA a0 aR aM aW aP aS aC aO nW nE cL aL R f_4 us P S sc li rc rn ro rd st ot) [1, 2, 3, 4, 5, 6, 7, 8, 0] rfl
    have hD := hD.sub (ws' := LHw cA a0 aR aM aW aP aS aC aO nW nE cL aL R f_4 us P S sc li rc rn ro rd st ot) [1, 2, 3, 4, 5, 6, 7, 8, 0] (by decide) rfl
    generalize H1 = H at hP hS hce ⊢
    clear hPc hDc hKc hFc hP1 hD1 hK1 hk1
    try dsimp only at h
    rcases h with ⟨rfl, h⟩ | ⟨rfl, h⟩
    · refine vx_catch (own := R_L) (name := "java/lang/IllegalArgumentException") (E := "java/lang/IllegalArgumentException") hown [] ⟨0, 7, 10, 13⟩ [⟨0, 7, 14, 40⟩] hTab (fun z hz => nomatch hz) (by decide) (by decide) (hw _ wd_209) (hXT.2.2.2.2.2.2.2.2.2.1 _) hce hcv hcl ?_
      refine lv_astore (lv' := [(5, .ref q9), (0, .ref a0), (1, .int p1), (2, .int p2), (3, .long p3)]) hx hb d_L_bytePut_10 hl (by decide) rfl (fun ls hl => ?_)
      refine lv_iconst (v := (1 : Int32)) hx hb d_L_bytePut_12 (by decide) ?_
      refine W.widen (k := 3) (n := 18) (Nat.le_of_ble_eq_true rfl) (Nat.le_of_ble_eq_true rfl) ?_
      exact W.iret (v := (1 : Int32)) hx hb hr9 (fun t ht hW => ⟨⟨_, (f_4), rfl, h, by rw [ht]; exact hP, va_K.moved hW.alike hK, hD⟩, hS.F ht⟩) hS.2.2 d_L_bytePut_13
    · refine vx_catch (own := R_L) (name := "java/lang/IndexOutOfBoundsException") (E := "java/lang/IndexOutOfBoundsException") hown [⟨0, 7, 10, 13⟩] ⟨0, 7, 14, 40⟩ [] hTab (fun z hz => by rcases List.mem_cons.mp hz with rfl | hz; exact Or.inr ⟨by decide, "java/lang/IllegalArgumentException", hw _ wd_209, hNC.2⟩; cases hz) (by decide) (by decide) (hw _ wd_407) (hXT.2.2.2.2.2.2.2.2.2.2.1 _) hce hcv hcl ?_
      refine lv_astore (lv' := [(5, .ref q9), (0, .ref a0), (1, .int p1), (2, .int p2), (3, .long p3)]) hx hb d_L_bytePut_14 hl (by decide) rfl (fun ls hl => ?_)
      refine lv_iconst (v := (2 : Int32)) hx hb d_L_bytePut_16 (by decide) ?_
      refine W.widen (k := 3) (n := 18) (Nat.le_of_ble_eq_true rfl) (Nat.le_of_ble_eq_true rfl) ?_
      exact W.iret (v := (2 : Int32)) hx hb hr9 (fun t ht hW => ⟨⟨_, (f_4), rfl, h, by rw [ht]; exact hP, va_K.moved hW.alike hK, hD⟩, hS.F ht⟩) hS.2.2 d_L_bytePut_17
  · obtain ⟨f_4, rfl⟩ : ∃ z, z = u := ⟨_, rfl⟩
    obtain ⟨hP1, hK1, hD1⟩ := hB
    rw [ht] at hP1
    obtain ⟨hP, hD⟩ := va_join (wr := [(aL, .inl (cL, 1, .inr (.inl ot)))]) (w1 := TSw cA a0 aR aM aW aP aS aC aO nW nE R f_4 us P S sc li rc rn ro rd st) hP hD [0, 1, 2, 3, 4, 5, 6, 7] [8] rfl rfl (by decide) (by decide) hk1 hFc hP1 hD1
    have hP := hP.sub (ws' := LHw cA a0 aR aM aW aP aS aC aO nW nE cL aL R f_4 us P S sc li rc rn ro rd st ot) [1, 2, 3, 4, 5, 6, 7, 8, 0] rfl
    have hD := hD.sub (ws' := LHw cA a0 aR aM aW aP aS aC aO nW nE cL aL R f_4 us P S sc li rc rn ro rd st ot) [1, 2, 3, 4, 5, 6, 7, 8, 0] (by decide) rfl
    generalize H1 = H at hP hS ⊢
    clear hPc hDc hKc hFc hP1 hD1 hK1 hk1
    try dsimp only at h
    refine lv_goto (tgt := 18) hx hb d_L_bytePut_7 (by decide) ?_
    refine lv_iconst (v := (0 : Int32)) hx hb d_L_bytePut_18 (by decide) ?_
    refine W.widen (k := 3) (n := 18) (Nat.le_of_ble_eq_true rfl) (Nat.le_of_ble_eq_true rfl) ?_
    exact W.iret (v := (0 : Int32)) hx hb hr9 (fun t ht hW => ⟨⟨_, (f_4), rfl, h, by rw [ht]; exact hP, va_K.moved hW.alike hK, hD⟩, hS.F ht⟩) hS.2.2 d_L_bytePut_19
def wqL_kind (nW : Nat) (nE : Nat) (R : Nat → Int32) (f : Nat → Int32) (P : Nat → Int32) (ot : Nat → Int64) (p1 : Int32) (post : Int32 → (Nat → Int64) → Prop) : Prop :=
  wqT_kind nW nE R f P p1 (fun r4 => vp_in (0 : Int32) 1 ∧ (post (0 : Int32) (vp_updL ot (0 : Int32).toNatClampNeg r4.toInt64))) (fun E => (E = "java/lang/IllegalArgumentException" ∧ (post (1 : Int32) ot)))
set_option maxHeartbeats 4000000 in
set_option maxRecDepth 100000 in
theorem mL_kind (l : Launch) (hlT : l.stackTraces = false) (sa : Nat → Nat) (dC : Nat → ClassId) (dI : Nat → Nat → Nat) (cA : ClassId) (a0 : Nat) (aR : Nat) (aM : Nat) (aW : Nat) (aP : Nat) (aS : Nat) (aC : Nat) (aO : Nat) (nW : Nat) (nE : Nat) (cL : ClassId) (aL : Nat) (sz : Nat) (R : Nat → Int32) (f : Nat → Int32) (us : Int32) (P : Nat → Int32) (S : Nat → Int32) (sc : Int32) (li : Int32) (rc : Nat → Int32) (rn : Int32) (ro : Nat → Int32) (rd : Int32) (st : Int32) (ot : Nat → Int64) (p1 : Int32) (post : Int32 → (Nat → Int64) → Prop) (h : wqL_kind nW nE R f P ot p1 post) : Met l y_L_kind ws_L_kind ({ frames := 8, cells := 1, slots := 6, locals := 142 }) (xh_P (dC, dI) vwCl (LHw cA a0 aR aM aW aP aS aC aO nW nE cL aL R f us P S sc li rc rn ro rd st ot) [(cA, .int), (cL, .long)] sz sa [.ref a0, .int p1, .ref aL]) (va_Qi (fun (r : Int32) (u : (Nat → Int64)) => post r u) (rw_B (dC, dI) vwCl [(cA, .int), (cL, .long)] (va_A (LHw cA a0 aR aM aW aP aS aC aO nW nE cL aL R f us P S sc li rc rn ro rd st ot) sz) (fun u : (Nat → Int64) => LHw cA a0 aR aM aW aP aS aC aO nW nE cL aL R f us P S sc li rc rn ro rd st u)) (va_A (LHw cA a0 aR aM aW aP aS aC aO nW nE cL aL R f us P S sc li rc rn ro rd st ot) sz)) 1 6 (va_A (LHw cA a0 aR aM aW aP aS aC aO nW nE cL aL R f us P S sc li rc rn ro rd st ot) sz) := by
  refine va_MetW (cc := c_L_kind) (maxL := 4) (ret := (some .int)) (hh := [(0, 9, 12, 13)]) (by decide) rfl ?_
  intro p e s m args below meth c s₁ B hml hv
  obtain ⟨rfl, hsz, hP, hK, hD0, hXT, hNC⟩ := hv
  have hx := B.exec
  have hb := B.bytes
  have hr9 := B.returns
  have hts := atoms_spec (ws := ws_L_kind) B.pre
  have hw : ∀ w ∈ WB_, w.before _ s = true := fun w h => hts w (List.mem_cons_of_mem _ h)
  have hTab : c.exceptionTable.toList = tableOf [(0, 9, 12, 13)] := vx_table (x := y_L_kind) B (hts _ List.mem_cons_self)
  have hown : s.vm.findClass R_L = some m.cls := findClass_of_methodNamed B.named
  have hlocks := B.notSynchronized
  subst hsz
  have hD := hD0.self (sz := s.heap.size)
  generalize hAe : va_A (LHw cA a0 aR aM aW aP aS aC aO nW nE cL aL R f us P S sc li rc rn ro rd st ot) s.heap.size = A at hD hXT ⊢
  have hA : ∀ q : Nat, s.heap.size ≤ q → A q := fun q h => by rw [← hAe]; exact Or.inr h
  have hS : va_S A s.heap s.heap [] := va_S.rf
  have hl := lv_entry ([.ref a0, .int p1, .ref aL]) (n := 4) (Nat.le_of_ble_eq_true rfl)
  rw [lg_entry_eq]
  generalize (lg_sl ([.ref a0, .int p1, .ref aL]) ++ List.replicate (4 - (lg_sl ([.ref a0, .int p1, .ref aL])).length) Slot.unset).toArray = ls at hl ⊢
  have hl : lv_has ls 4 [(0, .ref a0), (1, .int p1), (2, .ref aL)] := hl
  unfold wqL_kind at h
  refine lv_aload_n hx hb d_L_kind_0 rfl (lv_at hl 2 rfl) ?_
  refine lv_iconst (v := (0 : Int32)) hx hb d_L_kind_1 (by decide) ?_
  refine lv_aload_n hx hb d_L_kind_2 rfl (lv_at hl 0 rfl) ?_
  refine lv_iload_n hx hb d_L_kind_3 rfl (lv_at hl 1 rfl) ?_
  have hPc := hP.sub (ws' := TSw cA a0 aR aM aW aP aS aC aO nW nE R f us P S sc li rc rn ro rd st) [0, 1, 2, 3, 4, 5, 6, 7] rfl
  have hDc := hD.sub (ws' := TSw cA a0 aR aM aW aP aS aC aO nW nE R f us P S sc li rc rn ro rd st) [0, 1, 2, 3, 4, 5, 6, 7] (by decide) rfl
  have hKc := hK.sub (tys' := [(cA, .int)]) [0] rfl
  have hFc := va_free (wc := TSw cA a0 aR aM aW aP aS aC aO nW nE R f us P S sc li rc rn ro rd st) hD hS hA [0, 1, 2, 3, 4, 5, 6, 7] rfl
  refine vx_calli (vx_runV (As := [.int p1]) (rest := [.int (0 : Int32), .ref aL]) ⟨hx, hb, hml, hown, hw⟩ (mT_kind l hlT sa dC dI cA a0 aR aM aW aP aS aC aO nW nE s.heap.size R f us P S sc li rc rn ro rd st p1 _ _ h) (cwV 1 hw g_L_62 rfl rfl rfl (by decide +kernel) ⟨Nat.le_of_ble_eq_true rfl, Nat.le_of_ble_eq_true rfl⟩) (xw_PV (ci := 0) (q0 := 0) hKc hPc hDc (xt_at hXT hS) hFc rfl rfl) rfl rfl hl.1 rfl (lv_room (Nat.le_of_ble_eq_true rfl)) d_L_kind_4 ⟨Nat.le_of_ble_eq_true rfl, Nat.le_of_ble_eq_true rfl⟩) hS (fun q _ h => hFc q h) hFc (fun q _ h => hFc q h) (fun E9 ce q9 u t H1 locs ht hvm _ hB hz1 hk1 hS hce hcv hcl => ?_) (fun r4 u t H1 locs ht hvm h hB hz1 hk1 hS => ?_)
  · obtain ⟨h, hB⟩ := hB
    obtain ⟨hP1, hK1, hD1⟩ := hB
    rw [ht] at hP1
    obtain ⟨hP, hD⟩ := va_join (wr := [(aL, .inl (cL, 1, .inr (.inl ot)))]) (w1 := TSw cA a0 aR aM aW aP aS aC aO nW nE R f us P S sc li rc rn ro rd st) hP hD [0, 1, 2, 3, 4, 5, 6, 7] [8] rfl rfl (by decide) (by decide) hk1 hFc hP1 hD1
    have hP := hP.sub (ws' := LHw cA a0 aR aM aW aP aS aC aO nW nE cL aL R f us P S sc li rc rn ro rd st ot) [1, 2, 3, 4, 5, 6, 7, 8, 0] rfl
    have hD := hD.sub (ws' := LHw cA a0 aR aM aW aP aS aC aO nW nE cL aL R f us P S sc li rc rn ro rd st ot) [1, 2, 3, 4, 5, 6, 7, 8, 0] (by decide) rfl
    generalize H1 = H at hP hS hce ⊢
    clear hPc hDc hKc hFc hP1 hD1 hK1 hk1
    try dsimp only at h
    obtain ⟨rfl, h⟩ := h
    refine vx_catch (own := R_L) (name := "java/lang/IllegalArgumentException") (E := "java/lang/IllegalArgumentException") hown [] ⟨0, 9, 12, 13⟩ [] hTab (fun z hz => nomatch hz) (by decide) (by decide) (hw _ wd_209) (hXT.2.2.2.2.2.2.2.2.2.1 _) hce hcv hcl ?_
    refine lv_astore_n (lv' := [(3, .ref q9), (0, .ref a0), (1, .int p1), (2, .ref aL)]) hx hb d_L_kind_12 rfl hl (by decide) rfl (fun ls hl => ?_)
    refine lv_iconst (v := (1 : Int32)) hx hb d_L_kind_13 (by decide) ?_
    refine W.widen (k := 1) (n := 6) (Nat.le_of_ble_eq_true rfl) (Nat.le_of_ble_eq_true rfl) ?_
    exact W.iret (v := (1 : Int32)) hx hb hr9 (fun t ht hW => ⟨⟨_, (ot), rfl, h, by rw [ht]; exact hP, va_K.moved hW.alike hK, hD⟩, hS.F ht⟩) hS.2.2 d_L_kind_14
  · obtain ⟨hP1, hK1, hD1⟩ := hB
    rw [ht] at hP1
    obtain ⟨hP, hD⟩ := va_join (wr := [(aL, .inl (cL, 1, .inr (.inl ot)))]) (w1 := TSw cA a0 aR aM aW aP aS aC aO nW nE R f us P S sc li rc rn ro rd st) hP hD [0, 1, 2, 3, 4, 5, 6, 7] [8] rfl rfl (by decide) (by decide) hk1 hFc hP1 hD1
    have hP := hP.sub (ws' := LHw cA a0 aR aM aW aP aS aC aO nW nE cL aL R f us P S sc li rc rn ro rd st ot) [1, 2, 3, 4, 5, 6, 7, 8, 0] rfl
    have hD := hD.sub (ws' := LHw cA a0 aR aM aW aP aS aC aO nW nE cL aL R f us P S sc li rc rn ro rd st ot) [1, 2, 3, 4, 5, 6, 7, 8, 0] (by decide) rfl
    generalize H1 = H at hP hS ⊢
    clear hPc hDc hKc hFc hP1 hD1 hK1 hk1
    try dsimp only at h
    refine lv_i2l (v := r4.toInt64) hx hb d_L_kind_7 rfl ?_
    refine va_last hx hb hK hP hD hS 8 1 rfl rfl h.1 d_L_kind_8 (fun H locs hP hD hS => ?_)
    have hP : va_P (dC, dI) vwCl (LHw cA a0 aR aM aW aP aS aC aO nW nE cL aL R f us P S sc li rc rn ro rd st (vp_updL ot (0 : Int32).toNatClampNeg r4.toInt64)) H := hP
    have hD : va_D A (LHw cA a0 aR aM aW aP aS aC aO nW nE cL aL R f us P S sc li rc rn ro rd st (vp_updL ot (0 : Int32).toNatClampNeg r4.toInt64)) := hD
    have h := h.2
    refine lv_goto (tgt := 15) hx hb d_L_kind_9 (by decide) ?_
    refine lv_iconst (v := (0 : Int32)) hx hb d_L_kind_15 (by decide) ?_
    refine W.widen (k := 1) (n := 6) (Nat.le_of_ble_eq_true rfl) (Nat.le_of_ble_eq_true rfl) ?_
    exact W.iret (v := (0 : Int32)) hx hb hr9 (fun t ht hW => ⟨⟨_, (vp_updL ot (0 : Int32).toNatClampNeg r4.toInt64), rfl, h, by rw [ht]; exact hP, va_K.moved hW.alike hK, hD⟩, hS.F ht⟩) hS.2.2 d_L_kind_16
def wqL_value (nW : Nat) (nE : Nat) (R : Nat → Int32) (f : Nat → Int32) (P : Nat → Int32) (ot : Nat → Int64) (p1 : Int32) (post : Int32 → (Nat → Int64) → Prop) : Prop :=
  wqT_value nW nE R f P p1 (fun r4 => vp_in (0 : Int32) 1 ∧ (post (0 : Int32) (vp_updL ot (0 : Int32).toNatClampNeg r4.toInt64))) (fun E => (E = "java/lang/IllegalArgumentException" ∧ (post (1 : Int32) ot)))
set_option maxHeartbeats 4000000 in
set_option maxRecDepth 100000 in
theorem mL_value (l : Launch) (hlT : l.stackTraces = false) (sa : Nat → Nat) (dC : Nat → ClassId) (dI : Nat → Nat → Nat) (cA : ClassId) (a0 : Nat) (aR : Nat) (aM : Nat) (aW : Nat) (aP : Nat) (aS : Nat) (aC : Nat) (aO : Nat) (nW : Nat) (nE : Nat) (cL : ClassId) (aL : Nat) (sz : Nat) (R : Nat → Int32) (f : Nat → Int32) (us : Int32) (P : Nat → Int32) (S : Nat → Int32) (sc : Int32) (li : Int32) (rc : Nat → Int32) (rn : Int32) (ro : Nat → Int32) (rd : Int32) (st : Int32) (ot : Nat → Int64) (p1 : Int32) (post : Int32 → (Nat → Int64) → Prop) (h : wqL_value nW nE R f P ot p1 post) : Met l y_L_value ws_L_value ({ frames := 8, cells := 1, slots := 6, locals := 142 }) (xh_P (dC, dI) vwCl (LHw cA a0 aR aM aW aP aS aC aO nW nE cL aL R f us P S sc li rc rn ro rd st ot) [(cA, .int), (cL, .long)] sz sa [.ref a0, .int p1, .ref aL]) (va_Qi (fun (r : Int32) (u : (Nat → Int64)) => post r u) (rw_B (dC, dI) vwCl [(cA, .int), (cL, .long)] (va_A (LHw cA a0 aR aM aW aP aS aC aO nW nE cL aL R f us P S sc li rc rn ro rd st ot) sz) (fun u : (Nat → Int64) => LHw cA a0 aR aM aW aP aS aC aO nW nE cL aL R f us P S sc li rc rn ro rd st u)) (va_A (LHw cA a0 aR aM aW aP aS aC aO nW nE cL aL R f us P S sc li rc rn ro rd st ot) sz)) 1 6 (va_A (LHw cA a0 aR aM aW aP aS aC aO nW nE cL aL R f us P S sc li rc rn ro rd st ot) sz) := by
  refine va_MetW (cc := c_L_value) (maxL := 4) (ret := (some .int)) (hh := [(0, 9, 12, 13)]) (by decide) rfl ?_
  intro p e s m args below meth c s₁ B hml hv
  obtain ⟨rfl, hsz, hP, hK, hD0, hXT, hNC⟩ := hv
  have hx := B.exec
  have hb := B.bytes
  have hr9 := B.returns
  have hts := atoms_spec (ws := ws_L_value) B.pre
  have hw : ∀ w ∈ WB_, w.before _ s = true := fun w h => hts w (List.mem_cons_of_mem _ h)
  have hTab : c.exceptionTable.toList = tableOf [(0, 9, 12, 13)] := vx_table (x := y_L_value) B (hts _ List.mem_cons_self)
  have hown : s.vm.findClass R_L = some m.cls := findClass_of_methodNamed B.named
  have hlocks := B.notSynchronized
  subst hsz
  have hD := hD0.self (sz := s.heap.size)
  generalize hAe : va_A (LHw cA a0 aR aM aW aP aS aC aO nW nE cL aL R f us P S sc li rc rn ro rd st ot) s.heap.size = A at hD hXT ⊢
  have hA : ∀ q : Nat, s.heap.size ≤ q → A q := fun q h => by rw [← hAe]; exact Or.inr h
  have hS : va_S A s.heap s.heap [] := va_S.rf
  have hl := lv_entry ([.ref a0, .int p1, .ref aL]) (n := 4) (Nat.le_of_ble_eq_true rfl)
  rw [lg_entry_eq]
  generalize (lg_sl ([.ref a0, .int p1, .ref aL]) ++ List.replicate (4 - (lg_sl ([.ref a0, .int p1, .ref aL])).length) Slot.unset).toArray = ls at hl ⊢
  have hl : lv_has ls 4 [(0, .ref a0), (1, .int p1), (2, .ref aL)] := hl
  unfold wqL_value at h
  refine lv_aload_n hx hb d_L_value_0 rfl (lv_at hl 2 rfl) ?_
  refine lv_iconst (v := (0 : Int32)) hx hb d_L_value_1 (by decide) ?_
  refine lv_aload_n hx hb d_L_value_2 rfl (lv_at hl 0 rfl) ?_
  refine lv_iload_n hx hb d_L_value_3 rfl (lv_at hl 1 rfl) ?_
  have hPc := hP.sub (ws' := TSw cA a0 aR aM aW aP aS aC aO nW nE R f us P S sc li rc rn ro rd st) [0, 1, 2, 3, 4, 5, 6, 7] rfl
  have hDc := hD.sub (ws' := TSw cA a0 aR aM aW aP aS aC aO nW nE R f us P S sc li rc rn ro rd st) [0, 1, 2, 3, 4, 5, 6, 7] (by decide) rfl
  have hKc := hK.sub (tys' := [(cA, .int)]) [0] rfl
  have hFc := va_free (wc := TSw cA a0 aR aM aW aP aS aC aO nW nE R f us P S sc li rc rn ro rd st) hD hS hA [0, 1, 2, 3, 4, 5, 6, 7] rfl
  refine vx_calli (vx_runV (As := [.int p1]) (rest := [.int (0 : Int32), .ref aL]) ⟨hx, hb, hml, hown, hw⟩ (mT_value l hlT sa dC dI cA a0 aR aM aW aP aS aC aO nW nE s.heap.size R f us P S sc li rc rn ro rd st p1 _ _ h) (cwV 1 hw g_L_66 rfl rfl rfl (by decide +kernel) ⟨Nat.le_of_ble_eq_true rfl, Nat.le_of_ble_eq_true rfl⟩) (xw_PV (ci := 0) (q0 := 0) hKc hPc hDc (xt_at hXT hS) hFc rfl rfl) rfl rfl hl.1 rfl (lv_room (Nat.le_of_ble_eq_true rfl)) d_L_value_4 ⟨Nat.le_of_ble_eq_true rfl, Nat.le_of_ble_eq_true rfl⟩) hS (fun q _ h => hFc q h) hFc (fun q _ h => hFc q h) (fun E9 ce q9 u t H1 locs ht hvm _ hB hz1 hk1 hS hce hcv hcl => ?_) (fun r4 u t H1 locs ht hvm h hB hz1 hk1 hS => ?_)
  · obtain ⟨h, hB⟩ := hB
    obtain ⟨hP1, hK1, hD1⟩ := hB
    rw [ht] at hP1
    obtain ⟨hP, hD⟩ := va_join (wr := [(aL, .inl (cL, 1, .inr (.inl ot)))]) (w1 := TSw cA a0 aR aM aW aP aS aC aO nW nE R f us P S sc li rc rn ro rd st) hP hD [0, 1, 2, 3, 4, 5, 6, 7] [8] rfl rfl (by decide) (by decide) hk1 hFc hP1 hD1
    have hP := hP.sub (ws' := LHw cA a0 aR aM aW aP aS aC aO nW nE cL aL R f us P S sc li rc rn ro rd st ot) [1, 2, 3, 4, 5, 6, 7, 8, 0] rfl
    have hD := hD.sub (ws' := LHw cA a0 aR aM aW aP aS aC aO nW nE cL aL R f us P S sc li rc rn ro rd st ot) [1, 2, 3, 4, 5, 6, 7, 8, 0] (by decide) rfl
    generalize H1 = H at hP hS hce ⊢
    clear hPc hDc hKc hFc hP1 hD1 hK1 hk1
    try dsimp only at h
    obtain ⟨rfl, h⟩ := h
    refine vx_catch (own := R_L) (name := "java/lang/IllegalArgumentException") (E := "java/lang/IllegalArgumentException") hown [] ⟨0, 9, 12, 13⟩ [] hTab (fun z hz => nomatch hz) (by decide) (by decide) (hw _ wd_209) (hXT.2.2.2.2.2.2.2.2.2.1 _) hce hcv hcl ?_
    refine lv_astore_n (lv' := [(3, .ref q9), (0, .ref a0), (1, .int p1), (2, .ref aL)]) hx hb d_L_value_12 rfl hl (by decide) rfl (fun ls hl => ?_)
    refine lv_iconst (v := (1 : Int32)) hx hb d_L_value_13 (by decide) ?_
    refine W.widen (k := 1) (n := 6) (Nat.le_of_ble_eq_true rfl) (Nat.le_of_ble_eq_true rfl) ?_
    exact W.iret (v := (1 : Int32)) hx hb hr9 (fun t ht hW => ⟨⟨_, (ot), rfl, h, by rw [ht]; exact hP, va_K.moved hW.alike hK, hD⟩, hS.F ht⟩) hS.2.2 d_L_value_14
  · obtain ⟨hP1, hK1, hD1⟩ := hB
    rw [ht] at hP1
    obtain ⟨hP, hD⟩ := va_join (wr := [(aL, .inl (cL, 1, .inr (.inl ot)))]) (w1 := TSw cA a0 aR aM aW aP aS aC aO nW nE R f us P S sc li rc rn ro rd st) hP hD [0, 1, 2, 3, 4, 5, 6, 7] [8] rfl rfl (by decide) (by decide) hk1 hFc hP1 hD1
    have hP := hP.sub (ws' := LHw cA a0 aR aM aW aP aS aC aO nW nE cL aL R f us P S sc li rc rn ro rd st ot) [1, 2, 3, 4, 5, 6, 7, 8, 0] rfl
    have hD := hD.sub (ws' := LHw cA a0 aR aM aW aP aS aC aO nW nE cL aL R f us P S sc li rc rn ro rd st ot) [1, 2, 3, 4, 5, 6, 7, 8, 0] (by decide) rfl
    generalize H1 = H at hP hS ⊢
    clear hPc hDc hKc hFc hP1 hD1 hK1 hk1
    try dsimp only at h
    refine lv_i2l (v := r4.toInt64) hx hb d_L_value_7 rfl ?_
    refine va_last hx hb hK hP hD hS 8 1 rfl rfl h.1 d_L_value_8 (fun H locs hP hD hS => ?_)
    have hP : va_P (dC, dI) vwCl (LHw cA a0 aR aM aW aP aS aC aO nW nE cL aL R f us P S sc li rc rn ro rd st (vp_updL ot (0 : Int32).toNatClampNeg r4.toInt64)) H := hP
    have hD : va_D A (LHw cA a0 aR aM aW aP aS aC aO nW nE cL aL R f us P S sc li rc rn ro rd st (vp_updL ot (0 : Int32).toNatClampNeg r4.toInt64)) := hD
    have h := h.2
    refine lv_goto (tgt := 15) hx hb d_L_value_9 (by decide) ?_
    refine lv_iconst (v := (0 : Int32)) hx hb d_L_value_15 (by decide) ?_
    refine W.widen (k := 1) (n := 6) (Nat.le_of_ble_eq_true rfl) (Nat.le_of_ble_eq_true rfl) ?_
    exact W.iret (v := (0 : Int32)) hx hb hr9 (fun t ht hW => ⟨⟨_, (vp_updL ot (0 : Int32).toNatClampNeg r4.toInt64), rfl, h, by rw [ht]; exact hP, va_K.moved hW.alike hK, hD⟩, hS.F ht⟩) hS.2.2 d_L_value_16
def wqL_size (nW : Nat) (nE : Nat) (R : Nat → Int32) (f : Nat → Int32) (P : Nat → Int32) (ot : Nat → Int64) (p1 : Int32) (post : Int32 → (Nat → Int64) → Prop) : Prop :=
  wqT_size nW nE R f P p1 (fun r4 => vp_in (0 : Int32) 1 ∧ (post (0 : Int32) (vp_updL ot (0 : Int32).toNatClampNeg r4.toInt64))) (fun E => (E = "java/lang/IllegalArgumentException" ∧ (post (1 : Int32) ot)))
set_option maxHeartbeats 4000000 in
set_option maxRecDepth 100000 in
theorem mL_size (l : Launch) (hlT : l.stackTraces = false) (sa : Nat → Nat) (dC : Nat → ClassId) (dI : Nat → Nat → Nat) (cA : ClassId) (a0 : Nat) (aR : Nat) (aM : Nat) (aW : Nat) (aP : Nat) (aS : Nat) (aC : Nat) (aO : Nat) (nW : Nat) (nE : Nat) (cL : ClassId) (aL : Nat) (sz : Nat) (R : Nat → Int32) (f : Nat → Int32) (us : Int32) (P : Nat → Int32) (S : Nat → Int32) (sc : Int32) (li : Int32) (rc : Nat → Int32) (rn : Int32) (ro : Nat → Int32) (rd : Int32) (st : Int32) (ot : Nat → Int64) (p1 : Int32) (post : Int32 → (Nat → Int64) → Prop) (h : wqL_size nW nE R f P ot p1 post) : Met l y_L_size ws_L_size ({ frames := 8, cells := 1, slots := 6, locals := 141 }) (xh_P (dC, dI) vwCl (LHw cA a0 aR aM aW aP aS aC aO nW nE cL aL R f us P S sc li rc rn ro rd st ot) [(cA, .int), (cL, .long)] sz sa [.ref a0, .int p1, .ref aL]) (va_Qi (fun (r : Int32) (u : (Nat → Int64)) => post r u) (rw_B (dC, dI) vwCl [(cA, .int), (cL, .long)] (va_A (LHw cA a0 aR aM aW aP aS aC aO nW nE cL aL R f us P S sc li rc rn ro rd st ot) sz) (fun u : (Nat → Int64) => LHw cA a0 aR aM aW aP aS aC aO nW nE cL aL R f us P S sc li rc rn ro rd st u)) (va_A (LHw cA a0 aR aM aW aP aS aC aO nW nE cL aL R f us P S sc li rc rn ro rd st ot) sz)) 1 6 (va_A (LHw cA a0 aR aM aW aP aS aC aO nW nE cL aL R f us P S sc li rc rn ro rd st ot) sz) := by
  refine va_MetW (cc := c_L_size) (maxL := 4) (ret := (some .int)) (hh := [(0, 9, 12, 13)]) (by decide) rfl ?_
  intro p e s m args below meth c s₁ B hml hv
  obtain ⟨rfl, hsz, hP, hK, hD0, hXT, hNC⟩ := hv
  have hx := B.exec
  have hb := B.bytes
  have hr9 := B.returns
  have hts := atoms_spec (ws := ws_L_size) B.pre
  have hw : ∀ w ∈ WB_, w.before _ s = true := fun w h => hts w (List.mem_cons_of_mem _ h)
  have hTab : c.exceptionTable.toList = tableOf [(0, 9, 12, 13)] := vx_table (x := y_L_size) B (hts _ List.mem_cons_self)
  have hown : s.vm.findClass R_L = some m.cls := findClass_of_methodNamed B.named
  have hlocks := B.notSynchronized
  subst hsz
  have hD := hD0.self (sz := s.heap.size)
  generalize hAe : va_A (LHw cA a0 aR aM aW aP aS aC aO nW nE cL aL R f us P S sc li rc rn ro rd st ot) s.heap.size = A at hD hXT ⊢
  have hA : ∀ q : Nat, s.heap.size ≤ q → A q := fun q h => by rw [← hAe]; exact Or.inr h
  have hS : va_S A s.heap s.heap [] := va_S.rf
  have hl := lv_entry ([.ref a0, .int p1, .ref aL]) (n := 4) (Nat.le_of_ble_eq_true rfl)
  rw [lg_entry_eq]
  generalize (lg_sl ([.ref a0, .int p1, .ref aL]) ++ List.replicate (4 - (lg_sl ([.ref a0, .int p1, .ref aL])).length) Slot.unset).toArray = ls at hl ⊢
  have hl : lv_has ls 4 [(0, .ref a0), (1, .int p1), (2, .ref aL)] := hl
  unfold wqL_size at h
  refine lv_aload_n hx hb d_L_size_0 rfl (lv_at hl 2 rfl) ?_
  refine lv_iconst (v := (0 : Int32)) hx hb d_L_size_1 (by decide) ?_
  refine lv_aload_n hx hb d_L_size_2 rfl (lv_at hl 0 rfl) ?_
  refine lv_iload_n hx hb d_L_size_3 rfl (lv_at hl 1 rfl) ?_
  have hPc := hP.sub (ws' := TSw cA a0 aR aM aW aP aS aC aO nW nE R f us P S sc li rc rn ro rd st) [0, 1, 2, 3, 4, 5, 6, 7] rfl
  have hDc := hD.sub (ws' := TSw cA a0 aR aM aW aP aS aC aO nW nE R f us P S sc li rc rn ro rd st) [0, 1, 2, 3, 4, 5, 6, 7] (by decide) rfl
  have hKc := hK.sub (tys' := [(cA, .int)]) [0] rfl
  have hFc := va_free (wc := TSw cA a0 aR aM aW aP aS aC aO nW nE R f us P S sc li rc rn ro rd st) hD hS hA [0, 1, 2, 3, 4, 5, 6, 7] rfl
  refine vx_calli (vx_runV (As := [.int p1]) (rest := [.int (0 : Int32), .ref aL]) ⟨hx, hb, hml, hown, hw⟩ (mT_size l hlT sa dC dI cA a0 aR aM aW aP aS aC aO nW nE s.heap.size R f us P S sc li rc rn ro rd st p1 _ _ h) (cwV 1 hw g_L_69 rfl rfl rfl (by decide +kernel) ⟨Nat.le_of_ble_eq_true rfl, Nat.le_of_ble_eq_true rfl⟩) (xw_PV (ci := 0) (q0 := 0) hKc hPc hDc (xt_at hXT hS) hFc rfl rfl) rfl rfl hl.1 rfl (lv_room (Nat.le_of_ble_eq_true rfl)) d_L_size_4 ⟨Nat.le_of_ble_eq_true rfl, Nat.le_of_ble_eq_true rfl⟩) hS (fun q _ h => hFc q h) hFc (fun q _ h => hFc q h) (fun E9 ce q9 u t H1 locs ht hvm _ hB hz1 hk1 hS hce hcv hcl => ?_) (fun r4 u t H1 locs ht hvm h hB hz1 hk1 hS => ?_)
  · obtain ⟨h, hB⟩ := hB
    obtain ⟨hP1, hK1, hD1⟩ := hB
    rw [ht] at hP1
    obtain ⟨hP, hD⟩ := va_join (wr := [(aL, .inl (cL, 1, .inr (.inl ot)))]) (w1 := TSw cA a0 aR aM aW aP aS aC aO nW nE R f us P S sc li rc rn ro rd st) hP hD [0, 1, 2, 3, 4, 5, 6, 7] [8] rfl rfl (by decide) (by decide) hk1 hFc hP1 hD1
    have hP := hP.sub (ws' := LHw cA a0 aR aM aW aP aS aC aO nW nE cL aL R f us P S sc li rc rn ro rd st ot) [1, 2, 3, 4, 5, 6, 7, 8, 0] rfl
    have hD := hD.sub (ws' := LHw cA a0 aR aM aW aP aS aC aO nW nE cL aL R f us P S sc li rc rn ro rd st ot) [1, 2, 3, 4, 5, 6, 7, 8, 0] (by decide) rfl
    generalize H1 = H at hP hS hce ⊢
    clear hPc hDc hKc hFc hP1 hD1 hK1 hk1
    try dsimp only at h
    obtain ⟨rfl, h⟩ := h
    refine vx_catch (own := R_L) (name := "java/lang/IllegalArgumentException") (E := "java/lang/IllegalArgumentException") hown [] ⟨0, 9, 12, 13⟩ [] hTab (fun z hz => nomatch hz) (by decide) (by decide) (hw _ wd_209) (hXT.2.2.2.2.2.2.2.2.2.1 _) hce hcv hcl ?_
    refine lv_astore_n (lv' := [(3, .ref q9), (0, .ref a0), (1, .int p1), (2, .ref aL)]) hx hb d_L_size_12 rfl hl (by decide) rfl (fun ls hl => ?_)
    refine lv_iconst (v := (1 : Int32)) hx hb d_L_size_13 (by decide) ?_
    refine W.widen (k := 1) (n := 6) (Nat.le_of_ble_eq_true rfl) (Nat.le_of_ble_eq_true rfl) ?_
    exact W.iret (v := (1 : Int32)) hx hb hr9 (fun t ht hW => ⟨⟨_, (ot), rfl, h, by rw [ht]; exact hP, va_K.moved hW.alike hK, hD⟩, hS.F ht⟩) hS.2.2 d_L_size_14
  · obtain ⟨hP1, hK1, hD1⟩ := hB
    rw [ht] at hP1
    obtain ⟨hP, hD⟩ := va_join (wr := [(aL, .inl (cL, 1, .inr (.inl ot)))]) (w1 := TSw cA a0 aR aM aW aP aS aC aO nW nE R f us P S sc li rc rn ro rd st) hP hD [0, 1, 2, 3, 4, 5, 6, 7] [8] rfl rfl (by decide) (by decide) hk1 hFc hP1 hD1
    have hP := hP.sub (ws' := LHw cA a0 aR aM aW aP aS aC aO nW nE cL aL R f us P S sc li rc rn ro rd st ot) [1, 2, 3, 4, 5, 6, 7, 8, 0] rfl
    have hD := hD.sub (ws' := LHw cA a0 aR aM aW aP aS aC aO nW nE cL aL R f us P S sc li rc rn ro rd st ot) [1, 2, 3, 4, 5, 6, 7, 8, 0] (by decide) rfl
    generalize H1 = H at hP hS ⊢
    clear hPc hDc hKc hFc hP1 hD1 hK1 hk1
    try dsimp only at h
    refine lv_i2l (v := r4.toInt64) hx hb d_L_size_7 rfl ?_
    refine va_last hx hb hK hP hD hS 8 1 rfl rfl h.1 d_L_size_8 (fun H locs hP hD hS => ?_)
    have hP : va_P (dC, dI) vwCl (LHw cA a0 aR aM aW aP aS aC aO nW nE cL aL R f us P S sc li rc rn ro rd st (vp_updL ot (0 : Int32).toNatClampNeg r4.toInt64)) H := hP
    have hD : va_D A (LHw cA a0 aR aM aW aP aS aC aO nW nE cL aL R f us P S sc li rc rn ro rd st (vp_updL ot (0 : Int32).toNatClampNeg r4.toInt64)) := hD
    have h := h.2
    refine lv_goto (tgt := 15) hx hb d_L_size_9 (by decide) ?_
    refine lv_iconst (v := (0 : Int32)) hx hb d_L_size_15 (by decide) ?_
    refine W.widen (k := 1) (n := 6) (Nat.le_of_ble_eq_true rfl) (Nat.le_of_ble_eq_true rfl) ?_
    exact W.iret (v := (0 : Int32)) hx hb hr9 (fun t ht hW => ⟨⟨_, (vp_updL ot (0 : Int32).toNatClampNeg r4.toInt64), rfl, h, by rw [ht]; exact hP, va_K.moved hW.alike hK, hD⟩, hS.F ht⟩) hS.2.2 d_L_size_16
def wqL_become (nW : Nat) (nE : Nat) (R : Nat → Int32) (f : Nat → Int32) (P : Nat → Int32) (p1 : Int32) (p2 : Int32) (post : Int32 → (Nat → Int32) → (Nat → Int32) → Prop) : Prop :=
  wqT_become nW nE R f P p1 p2 (fun f_3 P_3 => post (0 : Int32) f_3 P_3) (fun E f_3 P_3 => (E = "java/lang/IllegalArgumentException" ∧ (post (1 : Int32) f_3 P_3)))
set_option maxHeartbeats 4000000 in
set_option maxRecDepth 100000 in
theorem mL_become (l : Launch) (hlT : l.stackTraces = false) (sa : Nat → Nat) (dC : Nat → ClassId) (dI : Nat → Nat → Nat) (cA : ClassId) (a0 : Nat) (aR : Nat) (aM : Nat) (aW : Nat) (aP : Nat) (aS : Nat) (aC : Nat) (aO : Nat) (nW : Nat) (nE : Nat) (cL : ClassId) (aL : Nat) (sz : Nat) (R : Nat → Int32) (f : Nat → Int32) (us : Int32) (P : Nat → Int32) (S : Nat → Int32) (sc : Int32) (li : Int32) (rc : Nat → Int32) (rn : Int32) (ro : Nat → Int32) (rd : Int32) (st : Int32) (ot : Nat → Int64) (p1 : Int32) (p2 : Int32) (post : Int32 → (Nat → Int32) → (Nat → Int32) → Prop) (h : wqL_become nW nE R f P p1 p2 post) : Met l y_L_become ws_L_become ({ frames := 9, cells := 4, slots := 24, locals := 163 }) (xh_P (dC, dI) vwCl (LHw cA a0 aR aM aW aP aS aC aO nW nE cL aL R f us P S sc li rc rn ro rd st ot) [(cA, .int), (cL, .long)] sz sa [.ref a0, .int p1, .int p2]) (va_Qi (fun (r : Int32) (u : (Nat → Int32) × (Nat → Int32)) => post r u.1 u.2) (rw_B (dC, dI) vwCl [(cA, .int), (cL, .long)] (va_A (LHw cA a0 aR aM aW aP aS aC aO nW nE cL aL R f us P S sc li rc rn ro rd st ot) sz) (fun u : (Nat → Int32) × (Nat → Int32) => LHw cA a0 aR aM aW aP aS aC aO nW nE cL aL R u.1 us u.2 S sc li rc rn ro rd st ot)) (va_A (LHw cA a0 aR aM aW aP aS aC aO nW nE cL aL R f us P S sc li rc rn ro rd st ot) sz)) 4 24 (va_A (LHw cA a0 aR aM aW aP aS aC aO nW nE cL aL R f us P S sc li rc rn ro rd st ot) sz) := by
  refine va_MetW (cc := c_L_become) (maxL := 4) (ret := (some .int)) (hh := [(0, 6, 9, 13)]) (by decide) rfl ?_
  intro p e s m args below meth c s₁ B hml hv
  obtain ⟨rfl, hsz, hP, hK, hD0, hXT, hNC⟩ := hv
  have hx := B.exec
  have hb := B.bytes
  have hr9 := B.returns
  have hts := atoms_spec (ws := ws_L_become) B.pre
  have hw : ∀ w ∈ WB_, w.before _ s = true := fun w h => hts w (List.mem_cons_of_mem _ h)
  have hTab : c.exceptionTable.toList = tableOf [(0, 6, 9, 13)] := vx_table (x := y_L_become) B (hts _ List.mem_cons_self)
  have hown : s.vm.findClass R_L = some m.cls := findClass_of_methodNamed B.named
  have hlocks := B.notSynchronized
  subst hsz
  have hD := hD0.self (sz := s.heap.size)
  generalize hAe : va_A (LHw cA a0 aR aM aW aP aS aC aO nW nE cL aL R f us P S sc li rc rn ro rd st ot) s.heap.size = A at hD hXT ⊢
  have hA : ∀ q : Nat, s.heap.size ≤ q → A q := fun q h => by rw [← hAe]; exact Or.inr h
  have hS : va_S A s.heap s.heap [] := va_S.rf
  have hl := lv_entry ([.ref a0, .int p1, .int p2]) (n := 4) (Nat.le_of_ble_eq_true rfl)
  rw [lg_entry_eq]
  generalize (lg_sl ([.ref a0, .int p1, .int p2]) ++ List.replicate (4 - (lg_sl ([.ref a0, .int p1, .int p2])).length) Slot.unset).toArray = ls at hl ⊢
  have hl : lv_has ls 4 [(0, .ref a0), (1, .int p1), (2, .int p2)] := hl
  unfold wqL_become at h
  refine lv_aload_n hx hb d_L_become_0 rfl (lv_at hl 0 rfl) ?_
  refine lv_iload_n hx hb d_L_become_1 rfl (lv_at hl 1 rfl) ?_
  refine lv_iload_n hx hb d_L_become_2 rfl (lv_at hl 2 rfl) ?_
  have hPc := hP.sub (ws' := TSw cA a0 aR aM aW aP aS aC aO nW nE R f us P S sc li rc rn ro rd st) [0, 1, 2, 3, 4, 5, 6, 7] rfl
  have hDc := hD.sub (ws' := TSw cA a0 aR aM aW aP aS aC aO nW nE R f us P S sc li rc rn ro rd st) [0, 1, 2, 3, 4, 5, 6, 7] (by decide) rfl
  have hKc := hK.sub (tys' := [(cA, .int)]) [0] rfl
  have hFc := va_free (wc := TSw cA a0 aR aM aW aP aS aC aO nW nE R f us P S sc li rc rn ro rd st) hD hS hA [0, 1, 2, 3, 4, 5, 6, 7] rfl
  refine vx_callv (vx_runV (As := [.int p1, .int p2]) (rest := []) ⟨hx, hb, hml, hown, hw⟩ (mT_become l hlT sa dC dI cA a0 aR aM aW aP aS aC aO nW nE s.heap.size R f us P S sc li rc rn ro rd st p1 p2 _ _ h) (cwV 2 hw g_L_72 rfl rfl rfl (by decide +kernel) ⟨Nat.le_of_ble_eq_true rfl, Nat.le_of_ble_eq_true rfl⟩) (xw_PV (ci := 0) (q0 := 0) hKc hPc hDc (xt_at hXT hS) hFc rfl rfl) rfl rfl hl.1 rfl (lv_room (Nat.le_of_ble_eq_true rfl)) d_L_become_3 ⟨Nat.le_of_ble_eq_true rfl, Nat.le_of_ble_eq_true rfl⟩) hS (fun q _ h => hFc q h) hFc (fun q _ h => hFc q h) (fun E9 ce q9 u t H1 locs ht hvm _ hB hz1 hk1 hS hce hcv hcl => ?_) (fun u t H1 locs ht hvm h hB hz1 hk1 hS => ?_)
  · obtain ⟨f_3, P_3⟩ := u
    obtain ⟨h, hB⟩ := hB
    obtain ⟨hP1, hK1, hD1⟩ := hB
    rw [ht] at hP1
    obtain ⟨hP, hD⟩ := va_join (wr := [(aL, .inl (cL, 1, .inr (.inl ot)))]) (w1 := TSw cA a0 aR aM aW aP aS aC aO nW nE R f_3 us P_3 S sc li rc rn ro rd st) hP hD [0, 1, 2, 3, 4, 5, 6, 7] [8] rfl rfl (by decide) (by decide) hk1 hFc hP1 hD1
    have hP := hP.sub (ws' := LHw cA a0 aR aM aW aP aS aC aO nW nE cL aL R f_3 us P_3 S sc li rc rn ro rd st ot) [1, 2, 3, 4, 5, 6, 7, 8, 0] rfl
    have hD := hD.sub (ws' := LHw cA a0 aR aM aW aP aS aC aO nW nE cL aL R f_3 us P_3 S sc li rc rn ro rd st ot) [1, 2, 3, 4, 5, 6, 7, 8, 0] (by decide) rfl
    generalize H1 = H at hP hS hce ⊢
    clear hPc hDc hKc hFc hP1 hD1 hK1 hk1
    try dsimp only at h
    obtain ⟨rfl, h⟩ := h
    refine vx_catch (own := R_L) (name := "java/lang/IllegalArgumentException") (E := "java/lang/IllegalArgumentException") hown [] ⟨0, 6, 9, 13⟩ [] hTab (fun z hz => nomatch hz) (by decide) (by decide) (hw _ wd_209) (hXT.2.2.2.2.2.2.2.2.2.1 _) hce hcv hcl ?_
    refine lv_astore_n (lv' := [(3, .ref q9), (0, .ref a0), (1, .int p1), (2, .int p2)]) hx hb d_L_become_9 rfl hl (by decide) rfl (fun ls hl => ?_)
    refine lv_iconst (v := (1 : Int32)) hx hb d_L_become_10 (by decide) ?_
    refine W.widen (k := 4) (n := 24) (Nat.le_of_ble_eq_true rfl) (Nat.le_of_ble_eq_true rfl) ?_
    exact W.iret (v := (1 : Int32)) hx hb hr9 (fun t ht hW => ⟨⟨_, (f_3, P_3), rfl, h, by rw [ht]; exact hP, va_K.moved hW.alike hK, hD⟩, hS.F ht⟩) hS.2.2 d_L_become_11
  · obtain ⟨f_3, P_3⟩ := u
    obtain ⟨hP1, hK1, hD1⟩ := hB
    rw [ht] at hP1
    obtain ⟨hP, hD⟩ := va_join (wr := [(aL, .inl (cL, 1, .inr (.inl ot)))]) (w1 := TSw cA a0 aR aM aW aP aS aC aO nW nE R f_3 us P_3 S sc li rc rn ro rd st) hP hD [0, 1, 2, 3, 4, 5, 6, 7] [8] rfl rfl (by decide) (by decide) hk1 hFc hP1 hD1
    have hP := hP.sub (ws' := LHw cA a0 aR aM aW aP aS aC aO nW nE cL aL R f_3 us P_3 S sc li rc rn ro rd st ot) [1, 2, 3, 4, 5, 6, 7, 8, 0] rfl
    have hD := hD.sub (ws' := LHw cA a0 aR aM aW aP aS aC aO nW nE cL aL R f_3 us P_3 S sc li rc rn ro rd st ot) [1, 2, 3, 4, 5, 6, 7, 8, 0] (by decide) rfl
    generalize H1 = H at hP hS ⊢
    clear hPc hDc hKc hFc hP1 hD1 hK1 hk1
    try dsimp only at h
    refine lv_goto (tgt := 12) hx hb d_L_become_6 (by decide) ?_
    refine lv_iconst (v := (0 : Int32)) hx hb d_L_become_12 (by decide) ?_
    refine W.widen (k := 4) (n := 24) (Nat.le_of_ble_eq_true rfl) (Nat.le_of_ble_eq_true rfl) ?_
    exact W.iret (v := (0 : Int32)) hx hb hr9 (fun t ht hW => ⟨⟨_, (f_3, P_3), rfl, h, by rw [ht]; exact hP, va_K.moved hW.alike hK, hD⟩, hS.F ht⟩) hS.2.2 d_L_become_13
def wqL_instance (nW : Nat) (nE : Nat) (R : Nat → Int32) (f : Nat → Int32) (us : Int32) (P : Nat → Int32) (S : Nat → Int32) (sc : Int32) (rc : Nat → Int32) (rn : Int32) (ro : Nat → Int32) (rd : Int32) (st : Int32) (ot : Nat → Int64) (p1 : Int32) (p2 : Int32) (p3 : Int32) (post : Int32 → (Nat → Int32) → (Nat → Int32) → Int32 → (Nat → Int32) → (Nat → Int32) → Int32 → (Nat → Int32) → Int32 → (Nat → Int32) → Int32 → Int32 → (Nat → Int64) → Prop) : Prop :=
  wqT_instance nW nE R f us P S sc rc rn ro rd st p1 p2 p3 (fun r7 R_7 f_7 us_7 P_7 S_7 sc_7 rc_7 rn_7 ro_7 rd_7 st_7 => vp_in (0 : Int32) 1 ∧ (post (0 : Int32) R_7 f_7 us_7 P_7 S_7 sc_7 rc_7 rn_7 ro_7 rd_7 st_7 (vp_updL ot (0 : Int32).toNatClampNeg r7.toInt64))) (fun E R_7 f_7 us_7 P_7 S_7 sc_7 rc_7 rn_7 ro_7 rd_7 st_7 => (E = "java/lang/IllegalArgumentException" ∧ (post (1 : Int32) R_7 f_7 us_7 P_7 S_7 sc_7 rc_7 rn_7 ro_7 rd_7 st_7 ot)))
set_option maxHeartbeats 4000000 in
set_option maxRecDepth 100000 in
theorem mL_instance (l : Launch) (hlT : l.stackTraces = false) (sa : Nat → Nat) (dC : Nat → ClassId) (dI : Nat → Nat → Nat) (cA : ClassId) (a0 : Nat) (aR : Nat) (aM : Nat) (aW : Nat) (aP : Nat) (aS : Nat) (aC : Nat) (aO : Nat) (nW : Nat) (nE : Nat) (cL : ClassId) (aL : Nat) (sz : Nat) (R : Nat → Int32) (f : Nat → Int32) (us : Int32) (P : Nat → Int32) (S : Nat → Int32) (sc : Int32) (li : Int32) (rc : Nat → Int32) (rn : Int32) (ro : Nat → Int32) (rd : Int32) (st : Int32) (ot : Nat → Int64) (p1 : Int32) (p2 : Int32) (p3 : Int32) (post : Int32 → (Nat → Int32) → (Nat → Int32) → Int32 → (Nat → Int32) → (Nat → Int32) → Int32 → (Nat → Int32) → Int32 → (Nat → Int32) → Int32 → Int32 → (Nat → Int64) → Prop) (h : wqL_instance nW nE R f us P S sc rc rn ro rd st ot p1 p2 p3 post) : Met l y_L_instance ws_L_instance ({ frames := 8, cells := 3, slots := 18, locals := 146 }) (xh_P (dC, dI) vwCl (LHw cA a0 aR aM aW aP aS aC aO nW nE cL aL R f us P S sc li rc rn ro rd st ot) [(cA, .int), (cL, .long)] sz sa [.ref a0, .int p1, .int p2, .int p3, .ref aL]) (va_Qi (fun (r : Int32) (u : (Nat → Int32) × (Nat → Int32) × Int32 × (Nat → Int32) × (Nat → Int32) × Int32 × (Nat → Int32) × Int32 × (Nat → Int32) × Int32 × Int32 × (Nat → Int64)) => post r u.1 u.2.1 u.2.2.1 u.2.2.2.1 u.2.2.2.2.1 u.2.2.2.2.2.1 u.2.2.2.2.2.2.1 u.2.2.2.2.2.2.2.1 u.2.2.2.2.2.2.2.2.1 u.2.2.2.2.2.2.2.2.2.1 u.2.2.2.2.2.2.2.2.2.2.1 u.2.2.2.2.2.2.2.2.2.2.2) (rw_B (dC, dI) vwCl [(cA, .int), (cL, .long)] (va_A (LHw cA a0 aR aM aW aP aS aC aO nW nE cL aL R f us P S sc li rc rn ro rd st ot) sz) (fun u : (Nat → Int32) × (Nat → Int32) × Int32 × (Nat → Int32) × (Nat → Int32) × Int32 × (Nat → Int32) × Int32 × (Nat → Int32) × Int32 × Int32 × (Nat → Int64) => LHw cA a0 aR aM aW aP aS aC aO nW nE cL aL u.1 u.2.1 u.2.2.1 u.2.2.2.1 u.2.2.2.2.1 u.2.2.2.2.2.1 li u.2.2.2.2.2.2.1 u.2.2.2.2.2.2.2.1 u.2.2.2.2.2.2.2.2.1 u.2.2.2.2.2.2.2.2.2.1 u.2.2.2.2.2.2.2.2.2.2.1 u.2.2.2.2.2.2.2.2.2.2.2)) (va_A (LHw cA a0 aR aM aW aP aS aC aO nW nE cL aL R f us P S sc li rc rn ro rd st ot) sz)) 3 18 (va_A (LHw cA a0 aR aM aW aP aS aC aO nW nE cL aL R f us P S sc li rc rn ro rd st ot) sz) := by
  refine va_MetW (cc := c_L_instance) (maxL := 6) (ret := (some .int)) (hh := [(0, 12, 15, 13)]) (by decide) rfl ?_
  intro p e s m args below meth c s₁ B hml hv
  obtain ⟨rfl, hsz, hP, hK, hD0, hXT, hNC⟩ := hv
  have hx := B.exec
  have hb := B.bytes
  have hr9 := B.returns
  have hts := atoms_spec (ws := ws_L_instance) B.pre
  have hw : ∀ w ∈ WB_, w.before _ s = true := fun w h => hts w (List.mem_cons_of_mem _ h)
  have hTab : c.exceptionTable.toList = tableOf [(0, 12, 15, 13)] := vx_table (x := y_L_instance) B (hts _ List.mem_cons_self)
  have hown : s.vm.findClass R_L = some m.cls := findClass_of_methodNamed B.named
  have hlocks := B.notSynchronized
  subst hsz
  have hD := hD0.self (sz := s.heap.size)
  generalize hAe : va_A (LHw cA a0 aR aM aW aP aS aC aO nW nE cL aL R f us P S sc li rc rn ro rd st ot) s.heap.size = A at hD hXT ⊢
  have hA : ∀ q : Nat, s.heap.size ≤ q → A q := fun q h => by rw [← hAe]; exact Or.inr h
  have hS : va_S A s.heap s.heap [] := va_S.rf
  have hl := lv_entry ([.ref a0, .int p1, .int p2, .int p3, .ref aL]) (n := 6) (Nat.le_of_ble_eq_true rfl)
  rw [lg_entry_eq]
  generalize (lg_sl ([.ref a0, .int p1, .int p2, .int p3, .ref aL]) ++ List.replicate (6 - (lg_sl ([.ref a0, .int p1, .int p2, .int p3, .ref aL])).length) Slot.unset).toArray = ls at hl ⊢
  have hl : lv_has ls 6 [(0, .ref a0), (1, .int p1), (2, .int p2), (3, .int p3), (4, .ref aL)] := hl
  unfold wqL_instance at h
  refine lv_aload hx hb d_L_instance_0 (lv_at hl 4 rfl) ?_
  refine lv_iconst (v := (0 : Int32)) hx hb d_L_instance_2 (by decide) ?_
  refine lv_aload_n hx hb d_L_instance_3 rfl (lv_at hl 0 rfl) ?_
  refine lv_iload_n hx hb d_L_instance_4 rfl (lv_at hl 1 rfl) ?_
  refine lv_iload_n hx hb d_L_instance_5 rfl (lv_at hl 2 rfl) ?_
  refine lv_iload_n hx hb d_L_instance_6 rfl (lv_at hl 3 rfl) ?_
  have hPc := hP.sub (ws' := TSw cA a0 aR aM aW aP aS aC aO nW nE R f us P S sc li rc rn ro rd st) [0, 1, 2, 3, 4, 5, 6, 7] rfl
  have hDc := hD.sub (ws' := TSw cA a0 aR aM aW aP aS aC aO nW nE R f us P S sc li rc rn ro rd st) [0, 1, 2, 3, 4, 5, 6, 7] (by decide) rfl
  have hKc := hK.sub (tys' := [(cA, .int)]) [0] rfl
  have hFc := va_free (wc := TSw cA a0 aR aM aW aP aS aC aO nW nE R f us P S sc li rc rn ro rd st) hD hS hA [0, 1, 2, 3, 4, 5, 6, 7] rfl
  refine vx_calli (vx_runV (As := [.int p1, .int p2, .int p3]) (rest := [.int (0 : Int32), .ref aL]) ⟨hx, hb, hml, hown, hw⟩ (mT_instance l hlT sa dC dI cA a0 aR aM aW aP aS aC aO nW nE s.heap.size R f us P S sc li rc rn ro rd st p1 p2 p3 _ _ h) (cwV 3 hw g_L_75 rfl rfl rfl (by decide +kernel) ⟨Nat.le_of_ble_eq_true rfl, Nat.le_of_ble_eq_true rfl⟩) (xw_PV (ci := 0) (q0 := 0) hKc hPc hDc (xt_at hXT hS) hFc rfl rfl) rfl rfl hl.1 rfl (lv_room (Nat.le_of_ble_eq_true rfl)) d_L_instance_7 ⟨Nat.le_of_ble_eq_true rfl, Nat.le_of_ble_eq_true rfl⟩) hS (fun q _ h => hFc q h) hFc (fun q _ h => hFc q h) (fun E9 ce q9 u t H1 locs ht hvm _ hB hz1 hk1 hS hce hcv hcl => ?_) (fun r7 u t H1 locs ht hvm h hB hz1 hk1 hS => ?_)
  · obtain ⟨R_7, f_7, us_7, P_7, S_7, sc_7, rc_7, rn_7, ro_7, rd_7, st_7⟩ := u
    obtain ⟨h, hB⟩ := hB
    obtain ⟨hP1, hK1, hD1⟩ := hB
    rw [ht] at hP1
    obtain ⟨hP, hD⟩ := va_join (wr := [(aL, .inl (cL, 1, .inr (.inl ot)))]) (w1 := TSw cA a0 aR aM aW aP aS aC aO nW nE R_7 f_7 us_7 P_7 S_7 sc_7 li rc_7 rn_7 ro_7 rd_7 st_7) hP hD [0, 1, 2, 3, 4, 5, 6, 7] [8] rfl rfl (by decide) (by decide) hk1 hFc hP1 hD1
    have hP := hP.sub (ws' := LHw cA a0 aR aM aW aP aS aC aO nW nE cL aL R_7 f_7 us_7 P_7 S_7 sc_7 li rc_7 rn_7 ro_7 rd_7 st_7 ot) [1, 2, 3, 4, 5, 6, 7, 8, 0] rfl
    have hD := hD.sub (ws' := LHw cA a0 aR aM aW aP aS aC aO nW nE cL aL R_7 f_7 us_7 P_7 S_7 sc_7 li rc_7 rn_7 ro_7 rd_7 st_7 ot) [1, 2, 3, 4, 5, 6, 7, 8, 0] (by decide) rfl
    generalize H1 = H at hP hS hce ⊢
    clear hPc hDc hKc hFc hP1 hD1 hK1 hk1
    try dsimp only at h
    obtain ⟨rfl, h⟩ := h
    refine vx_catch (own := R_L) (name := "java/lang/IllegalArgumentException") (E := "java/lang/IllegalArgumentException") hown [] ⟨0, 12, 15, 13⟩ [] hTab (fun z hz => nomatch hz) (by decide) (by decide) (hw _ wd_209) (hXT.2.2.2.2.2.2.2.2.2.1 _) hce hcv hcl ?_
    refine lv_astore (lv' := [(5, .ref q9), (0, .ref a0), (1, .int p1), (2, .int p2), (3, .int p3), (4, .ref aL)]) hx hb d_L_instance_15 hl (by decide) rfl (fun ls hl => ?_)
    refine lv_iconst (v := (1 : Int32)) hx hb d_L_instance_17 (by decide) ?_
    refine W.widen (k := 3) (n := 18) (Nat.le_of_ble_eq_true rfl) (Nat.le_of_ble_eq_true rfl) ?_
    exact W.iret (v := (1 : Int32)) hx hb hr9 (fun t ht hW => ⟨⟨_, (R_7, f_7, us_7, P_7, S_7, sc_7, rc_7, rn_7, ro_7, rd_7, st_7, ot), rfl, h, by rw [ht]; exact hP, va_K.moved hW.alike hK, hD⟩, hS.F ht⟩) hS.2.2 d_L_instance_18
  · obtain ⟨R_7, f_7, us_7, P_7, S_7, sc_7, rc_7, rn_7, ro_7, rd_7, st_7⟩ := u
    obtain ⟨hP1, hK1, hD1⟩ := hB
    rw [ht] at hP1
    obtain ⟨hP, hD⟩ := va_join (wr := [(aL, .inl (cL, 1, .inr (.inl ot)))]) (w1 := TSw cA a0 aR aM aW aP aS aC aO nW nE R_7 f_7 us_7 P_7 S_7 sc_7 li rc_7 rn_7 ro_7 rd_7 st_7) hP hD [0, 1, 2, 3, 4, 5, 6, 7] [8] rfl rfl (by decide) (by decide) hk1 hFc hP1 hD1
    have hP := hP.sub (ws' := LHw cA a0 aR aM aW aP aS aC aO nW nE cL aL R_7 f_7 us_7 P_7 S_7 sc_7 li rc_7 rn_7 ro_7 rd_7 st_7 ot) [1, 2, 3, 4, 5, 6, 7, 8, 0] rfl
    have hD := hD.sub (ws' := LHw cA a0 aR aM aW aP aS aC aO nW nE cL aL R_7 f_7 us_7 P_7 S_7 sc_7 li rc_7 rn_7 ro_7 rd_7 st_7 ot) [1, 2, 3, 4, 5, 6, 7, 8, 0] (by decide) rfl
    generalize H1 = H at hP hS ⊢
    clear hPc hDc hKc hFc hP1 hD1 hK1 hk1
    try dsimp only at h
    refine lv_i2l (v := r7.toInt64) hx hb d_L_instance_10 rfl ?_
    refine va_last hx hb hK hP hD hS 8 1 rfl rfl h.1 d_L_instance_11 (fun H locs hP hD hS => ?_)
    have hP : va_P (dC, dI) vwCl (LHw cA a0 aR aM aW aP aS aC aO nW nE cL aL R_7 f_7 us_7 P_7 S_7 sc_7 li rc_7 rn_7 ro_7 rd_7 st_7 (vp_updL ot (0 : Int32).toNatClampNeg r7.toInt64)) H := hP
    have hD : va_D A (LHw cA a0 aR aM aW aP aS aC aO nW nE cL aL R_7 f_7 us_7 P_7 S_7 sc_7 li rc_7 rn_7 ro_7 rd_7 st_7 (vp_updL ot (0 : Int32).toNatClampNeg r7.toInt64)) := hD
    have h := h.2
    refine lv_goto (tgt := 19) hx hb d_L_instance_12 (by decide) ?_
    refine lv_iconst (v := (0 : Int32)) hx hb d_L_instance_19 (by decide) ?_
    refine W.widen (k := 3) (n := 18) (Nat.le_of_ble_eq_true rfl) (Nat.le_of_ble_eq_true rfl) ?_
    exact W.iret (v := (0 : Int32)) hx hb hr9 (fun t ht hW => ⟨⟨_, (R_7, f_7, us_7, P_7, S_7, sc_7, rc_7, rn_7, ro_7, rd_7, st_7, vp_updL ot (0 : Int32).toNatClampNeg r7.toInt64), rfl, h, by rw [ht]; exact hP, va_K.moved hW.alike hK, hD⟩, hS.F ht⟩) hS.2.2 d_L_instance_20
def wqL_owners (nW : Nat) (nE : Nat) (R : Nat → Int32) (f : Nat → Int32) (us : Int32) (P : Nat → Int32) (S : Nat → Int32) (sc : Int32) (rc : Nat → Int32) (rn : Int32) (ro : Nat → Int32) (rd : Int32) (st : Int32) (ot : Nat → Int64) (p1 : Int32) (post : Int32 → (Nat → Int32) → Int32 → (Nat → Int32) → (Nat → Int32) → Int32 → (Nat → Int32) → Int32 → (Nat → Int32) → Int32 → Int32 → (Nat → Int64) → Prop) : Prop :=
  wqT_owners nW nE R f us P S sc rc rn ro rd st p1 (fun r4 f_4 us_4 P_4 S_4 sc_4 rc_4 rn_4 ro_4 rd_4 st_4 => vp_in (0 : Int32) 1 ∧ (post (0 : Int32) f_4 us_4 P_4 S_4 sc_4 rc_4 rn_4 ro_4 rd_4 st_4 (vp_updL ot (0 : Int32).toNatClampNeg r4.toInt64))) (fun E f_4 us_4 P_4 S_4 sc_4 rc_4 rn_4 ro_4 rd_4 st_4 => (E = "java/lang/IllegalArgumentException" ∧ (post (1 : Int32) f_4 us_4 P_4 S_4 sc_4 rc_4 rn_4 ro_4 rd_4 st_4 ot)))
set_option maxHeartbeats 4000000 in
set_option maxRecDepth 100000 in
theorem mL_owners (l : Launch) (hlT : l.stackTraces = false) (sa : Nat → Nat) (dC : Nat → ClassId) (dI : Nat → Nat → Nat) (cA : ClassId) (a0 : Nat) (aR : Nat) (aM : Nat) (aW : Nat) (aP : Nat) (aS : Nat) (aC : Nat) (aO : Nat) (nW : Nat) (nE : Nat) (cL : ClassId) (aL : Nat) (sz : Nat) (R : Nat → Int32) (f : Nat → Int32) (us : Int32) (P : Nat → Int32) (S : Nat → Int32) (sc : Int32) (li : Int32) (rc : Nat → Int32) (rn : Int32) (ro : Nat → Int32) (rd : Int32) (st : Int32) (ot : Nat → Int64) (p1 : Int32) (post : Int32 → (Nat → Int32) → Int32 → (Nat → Int32) → (Nat → Int32) → Int32 → (Nat → Int32) → Int32 → (Nat → Int32) → Int32 → Int32 → (Nat → Int64) → Prop) (h : wqL_owners nW nE R f us P S sc rc rn ro rd st ot p1 post) : Met l y_L_owners ws_L_owners ({ frames := 8, cells := 1, slots := 6, locals := 147 }) (xh_P (dC, dI) vwCl (LHw cA a0 aR aM aW aP aS aC aO nW nE cL aL R f us P S sc li rc rn ro rd st ot) [(cA, .int), (cL, .long)] sz sa [.ref a0, .int p1, .ref aL]) (va_Qi (fun (r : Int32) (u : (Nat → Int32) × Int32 × (Nat → Int32) × (Nat → Int32) × Int32 × (Nat → Int32) × Int32 × (Nat → Int32) × Int32 × Int32 × (Nat → Int64)) => post r u.1 u.2.1 u.2.2.1 u.2.2.2.1 u.2.2.2.2.1 u.2.2.2.2.2.1 u.2.2.2.2.2.2.1 u.2.2.2.2.2.2.2.1 u.2.2.2.2.2.2.2.2.1 u.2.2.2.2.2.2.2.2.2.1 u.2.2.2.2.2.2.2.2.2.2) (rw_B (dC, dI) vwCl [(cA, .int), (cL, .long)] (va_A (LHw cA a0 aR aM aW aP aS aC aO nW nE cL aL R f us P S sc li rc rn ro rd st ot) sz) (fun u : (Nat → Int32) × Int32 × (Nat → Int32) × (Nat → Int32) × Int32 × (Nat → Int32) × Int32 × (Nat → Int32) × Int32 × Int32 × (Nat → Int64) => LHw cA a0 aR aM aW aP aS aC aO nW nE cL aL R u.1 u.2.1 u.2.2.1 u.2.2.2.1 u.2.2.2.2.1 li u.2.2.2.2.2.1 u.2.2.2.2.2.2.1 u.2.2.2.2.2.2.2.1 u.2.2.2.2.2.2.2.2.1 u.2.2.2.2.2.2.2.2.2.1 u.2.2.2.2.2.2.2.2.2.2)) (va_A (LHw cA a0 aR aM aW aP aS aC aO nW nE cL aL R f us P S sc li rc rn ro rd st ot) sz)) 1 6 (va_A (LHw cA a0 aR aM aW aP aS aC aO nW nE cL aL R f us P S sc li rc rn ro rd st ot) sz) := by
  refine va_MetW (cc := c_L_owners) (maxL := 4) (ret := (some .int)) (hh := [(0, 9, 12, 13)]) (by decide) rfl ?_
  intro p e s m args below meth c s₁ B hml hv
  obtain ⟨rfl, hsz, hP, hK, hD0, hXT, hNC⟩ := hv
  have hx := B.exec
  have hb := B.bytes
  have hr9 := B.returns
  have hts := atoms_spec (ws := ws_L_owners) B.pre
  have hw : ∀ w ∈ WB_, w.before _ s = true := fun w h => hts w (List.mem_cons_of_mem _ h)
  have hTab : c.exceptionTable.toList = tableOf [(0, 9, 12, 13)] := vx_table (x := y_L_owners) B (hts _ List.mem_cons_self)
  have hown : s.vm.findClass R_L = some m.cls := findClass_of_methodNamed B.named
  have hlocks := B.notSynchronized
  subst hsz
  have hD := hD0.self (sz := s.heap.size)
  generalize hAe : va_A (LHw cA a0 aR aM aW aP aS aC aO nW nE cL aL R f us P S sc li rc rn ro rd st ot) s.heap.size = A at hD hXT ⊢
  have hA : ∀ q : Nat, s.heap.size ≤ q → A q := fun q h => by rw [← hAe]; exact Or.inr h
  have hS : va_S A s.heap s.heap [] := va_S.rf
  have hl := lv_entry ([.ref a0, .int p1, .ref aL]) (n := 4) (Nat.le_of_ble_eq_true rfl)
  rw [lg_entry_eq]
  generalize (lg_sl ([.ref a0, .int p1, .ref aL]) ++ List.replicate (4 - (lg_sl ([.ref a0, .int p1, .ref aL])).length) Slot.unset).toArray = ls at hl ⊢
  have hl : lv_has ls 4 [(0, .ref a0), (1, .int p1), (2, .ref aL)] := hl
  unfold wqL_owners at h
  refine lv_aload_n hx hb d_L_owners_0 rfl (lv_at hl 2 rfl) ?_
  refine lv_iconst (v := (0 : Int32)) hx hb d_L_owners_1 (by decide) ?_
  refine lv_aload_n hx hb d_L_owners_2 rfl (lv_at hl 0 rfl) ?_
  refine lv_iload_n hx hb d_L_owners_3 rfl (lv_at hl 1 rfl) ?_
  have hPc := hP.sub (ws' := TSw cA a0 aR aM aW aP aS aC aO nW nE R f us P S sc li rc rn ro rd st) [0, 1, 2, 3, 4, 5, 6, 7] rfl
  have hDc := hD.sub (ws' := TSw cA a0 aR aM aW aP aS aC aO nW nE R f us P S sc li rc rn ro rd st) [0, 1, 2, 3, 4, 5, 6, 7] (by decide) rfl
  have hKc := hK.sub (tys' := [(cA, .int)]) [0] rfl
  have hFc := va_free (wc := TSw cA a0 aR aM aW aP aS aC aO nW nE R f us P S sc li rc rn ro rd st) hD hS hA [0, 1, 2, 3, 4, 5, 6, 7] rfl
  refine vx_calli (vx_runV (As := [.int p1]) (rest := [.int (0 : Int32), .ref aL]) ⟨hx, hb, hml, hown, hw⟩ (mT_owners l hlT sa dC dI cA a0 aR aM aW aP aS aC aO nW nE s.heap.size R f us P S sc li rc rn ro rd st p1 _ _ h) (cwV 1 hw g_L_78 rfl rfl rfl (by decide +kernel) ⟨Nat.le_of_ble_eq_true rfl, Nat.le_of_ble_eq_true rfl⟩) (xw_PV (ci := 0) (q0 := 0) hKc hPc hDc (xt_at hXT hS) hFc rfl rfl) rfl rfl hl.1 rfl (lv_room (Nat.le_of_ble_eq_true rfl)) d_L_owners_4 ⟨Nat.le_of_ble_eq_true rfl, Nat.le_of_ble_eq_true rfl⟩) hS (fun q _ h => hFc q h) hFc (fun q _ h => hFc q h) (fun E9 ce q9 u t H1 locs ht hvm _ hB hz1 hk1 hS hce hcv hcl => ?_) (fun r4 u t H1 locs ht hvm h hB hz1 hk1 hS => ?_)
  · obtain ⟨f_4, us_4, P_4, S_4, sc_4, rc_4, rn_4, ro_4, rd_4, st_4⟩ := u
    obtain ⟨h, hB⟩ := hB
    obtain ⟨hP1, hK1, hD1⟩ := hB
    rw [ht] at hP1
    obtain ⟨hP, hD⟩ := va_join (wr := [(aL, .inl (cL, 1, .inr (.inl ot)))]) (w1 := TSw cA a0 aR aM aW aP aS aC aO nW nE R f_4 us_4 P_4 S_4 sc_4 li rc_4 rn_4 ro_4 rd_4 st_4) hP hD [0, 1, 2, 3, 4, 5, 6, 7] [8] rfl rfl (by decide) (by decide) hk1 hFc hP1 hD1
    have hP := hP.sub (ws' := LHw cA a0 aR aM aW aP aS aC aO nW nE cL aL R f_4 us_4 P_4 S_4 sc_4 li rc_4 rn_4 ro_4 rd_4 st_4 ot) [1, 2, 3, 4, 5, 6, 7, 8, 0] rfl
    have hD := hD.sub (ws' := LHw cA a0 aR aM aW aP aS aC aO nW nE cL aL R f_4 us_4 P_4 S_4 sc_4 li rc_4 rn_4 ro_4 rd_4 st_4 ot) [1, 2, 3, 4, 5, 6, 7, 8, 0] (by decide) rfl
    generalize H1 = H at hP hS hce ⊢
    clear hPc hDc hKc hFc hP1 hD1 hK1 hk1
    try dsimp only at h
    obtain ⟨rfl, h⟩ := h
    refine vx_catch (own := R_L) (name := "java/lang/IllegalArgumentException") (E := "java/lang/IllegalArgumentException") hown [] ⟨0, 9, 12, 13⟩ [] hTab (fun z hz => nomatch hz) (by decide) (by decide) (hw _ wd_209) (hXT.2.2.2.2.2.2.2.2.2.1 _) hce hcv hcl ?_
    refine lv_astore_n (lv' := [(3, .ref q9), (0, .ref a0), (1, .int p1), (2, .ref aL)]) hx hb d_L_owners_12 rfl hl (by decide) rfl (fun ls hl => ?_)
    refine lv_iconst (v := (1 : Int32)) hx hb d_L_owners_13 (by decide) ?_
    refine W.widen (k := 1) (n := 6) (Nat.le_of_ble_eq_true rfl) (Nat.le_of_ble_eq_true rfl) ?_
    exact W.iret (v := (1 : Int32)) hx hb hr9 (fun t ht hW => ⟨⟨_, (f_4, us_4, P_4, S_4, sc_4, rc_4, rn_4, ro_4, rd_4, st_4, ot), rfl, h, by rw [ht]; exact hP, va_K.moved hW.alike hK, hD⟩, hS.F ht⟩) hS.2.2 d_L_owners_14
  · obtain ⟨f_4, us_4, P_4, S_4, sc_4, rc_4, rn_4, ro_4, rd_4, st_4⟩ := u
    obtain ⟨hP1, hK1, hD1⟩ := hB
    rw [ht] at hP1
    obtain ⟨hP, hD⟩ := va_join (wr := [(aL, .inl (cL, 1, .inr (.inl ot)))]) (w1 := TSw cA a0 aR aM aW aP aS aC aO nW nE R f_4 us_4 P_4 S_4 sc_4 li rc_4 rn_4 ro_4 rd_4 st_4) hP hD [0, 1, 2, 3, 4, 5, 6, 7] [8] rfl rfl (by decide) (by decide) hk1 hFc hP1 hD1
    have hP := hP.sub (ws' := LHw cA a0 aR aM aW aP aS aC aO nW nE cL aL R f_4 us_4 P_4 S_4 sc_4 li rc_4 rn_4 ro_4 rd_4 st_4 ot) [1, 2, 3, 4, 5, 6, 7, 8, 0] rfl
    have hD := hD.sub (ws' := LHw cA a0 aR aM aW aP aS aC aO nW nE cL aL R f_4 us_4 P_4 S_4 sc_4 li rc_4 rn_4 ro_4 rd_4 st_4 ot) [1, 2, 3, 4, 5, 6, 7, 8, 0] (by decide) rfl
    generalize H1 = H at hP hS ⊢
    clear hPc hDc hKc hFc hP1 hD1 hK1 hk1
    try dsimp only at h
    refine lv_i2l (v := r4.toInt64) hx hb d_L_owners_7 rfl ?_
    refine va_last hx hb hK hP hD hS 8 1 rfl rfl h.1 d_L_owners_8 (fun H locs hP hD hS => ?_)
    have hP : va_P (dC, dI) vwCl (LHw cA a0 aR aM aW aP aS aC aO nW nE cL aL R f_4 us_4 P_4 S_4 sc_4 li rc_4 rn_4 ro_4 rd_4 st_4 (vp_updL ot (0 : Int32).toNatClampNeg r4.toInt64)) H := hP
    have hD : va_D A (LHw cA a0 aR aM aW aP aS aC aO nW nE cL aL R f_4 us_4 P_4 S_4 sc_4 li rc_4 rn_4 ro_4 rd_4 st_4 (vp_updL ot (0 : Int32).toNatClampNeg r4.toInt64)) := hD
    have h := h.2
    refine lv_goto (tgt := 15) hx hb d_L_owners_9 (by decide) ?_
    refine lv_iconst (v := (0 : Int32)) hx hb d_L_owners_15 (by decide) ?_
    refine W.widen (k := 1) (n := 6) (Nat.le_of_ble_eq_true rfl) (Nat.le_of_ble_eq_true rfl) ?_
    exact W.iret (v := (0 : Int32)) hx hb hr9 (fun t ht hW => ⟨⟨_, (f_4, us_4, P_4, S_4, sc_4, rc_4, rn_4, ro_4, rd_4, st_4, vp_updL ot (0 : Int32).toNatClampNeg r4.toInt64), rfl, h, by rw [ht]; exact hP, va_K.moved hW.alike hK, hD⟩, hS.F ht⟩) hS.2.2 d_L_owners_16
def wqL_reaches (nW : Nat) (nE : Nat) (R : Nat → Int32) (f : Nat → Int32) (P : Nat → Int32) (rc : Nat → Int32) (rn : Int32) (ro : Nat → Int32) (rd : Int32) (ot : Nat → Int64) (p1 : Int32) (p2 : Int32) (post : Int32 → (Nat → Int32) → Int32 → (Nat → Int32) → Int32 → (Nat → Int64) → Prop) : Prop :=
  wqT_reaches nW nE R f P rc rn ro rd p1 p2 (fun r5 rc_5 rn_5 ro_5 rd_5 => (r5 = 0 → (vp_in (0 : Int32) 1 ∧ (post (0 : Int32) rc_5 rn_5 ro_5 rd_5 (vp_updL ot (0 : Int32).toNatClampNeg (0 : Int64))))) ∧ (¬ (r5 = 0) → (vp_in (0 : Int32) 1 ∧ (post (0 : Int32) rc_5 rn_5 ro_5 rd_5 (vp_updL ot (0 : Int32).toNatClampNeg (1 : Int64)))))) (fun E rc_5 rn_5 ro_5 rd_5 => (E = "java/lang/IllegalArgumentException" ∧ (post (1 : Int32) rc_5 rn_5 ro_5 rd_5 ot)))
set_option maxHeartbeats 4000000 in
set_option maxRecDepth 100000 in
theorem mL_reaches (l : Launch) (hlT : l.stackTraces = false) (sa : Nat → Nat) (dC : Nat → ClassId) (dI : Nat → Nat → Nat) (cA : ClassId) (a0 : Nat) (aR : Nat) (aM : Nat) (aW : Nat) (aP : Nat) (aS : Nat) (aC : Nat) (aO : Nat) (nW : Nat) (nE : Nat) (cL : ClassId) (aL : Nat) (sz : Nat) (R : Nat → Int32) (f : Nat → Int32) (us : Int32) (P : Nat → Int32) (S : Nat → Int32) (sc : Int32) (li : Int32) (rc : Nat → Int32) (rn : Int32) (ro : Nat → Int32) (rd : Int32) (st : Int32) (ot : Nat → Int64) (p1 : Int32) (p2 : Int32) (post : Int32 → (Nat → Int32) → Int32 → (Nat → Int32) → Int32 → (Nat → Int64) → Prop) (h : wqL_reaches nW nE R f P rc rn ro rd ot p1 p2 post) : Met l y_L_reaches ws_L_reaches ({ frames := 9, cells := 4, slots := 24, locals := 163 }) (xh_P (dC, dI) vwCl (LHw cA a0 aR aM aW aP aS aC aO nW nE cL aL R f us P S sc li rc rn ro rd st ot) [(cA, .int), (cL, .long)] sz sa [.ref a0, .int p1, .int p2, .ref aL]) (va_Qi (fun (r : Int32) (u : (Nat → Int32) × Int32 × (Nat → Int32) × Int32 × (Nat → Int64)) => post r u.1 u.2.1 u.2.2.1 u.2.2.2.1 u.2.2.2.2) (rw_B (dC, dI) vwCl [(cA, .int), (cL, .long)] (va_A (LHw cA a0 aR aM aW aP aS aC aO nW nE cL aL R f us P S sc li rc rn ro rd st ot) sz) (fun u : (Nat → Int32) × Int32 × (Nat → Int32) × Int32 × (Nat → Int64) => LHw cA a0 aR aM aW aP aS aC aO nW nE cL aL R f us P S sc li u.1 u.2.1 u.2.2.1 u.2.2.2.1 st u.2.2.2.2)) (va_A (LHw cA a0 aR aM aW aP aS aC aO nW nE cL aL R f us P S sc li rc rn ro rd st ot) sz)) 4 24 (va_A (LHw cA a0 aR aM aW aP aS aC aO nW nE cL aL R f us P S sc li rc rn ro rd st ot) sz) := by
  refine va_MetW (cc := c_L_reaches) (maxL := 5) (ret := (some .int)) (hh := [(0, 17, 20, 13)]) (by decide) rfl ?_
  intro p e s m args below meth c s₁ B hml hv
  obtain ⟨rfl, hsz, hP, hK, hD0, hXT, hNC⟩ := hv
  have hx := B.exec
  have hb := B.bytes
  have hr9 := B.returns
  have hts := atoms_spec (ws := ws_L_reaches) B.pre
  have hw : ∀ w ∈ WB_, w.before _ s = true := fun w h => hts w (List.mem_cons_of_mem _ h)
  have hTab : c.exceptionTable.toList = tableOf [(0, 17, 20, 13)] := vx_table (x := y_L_reaches) B (hts _ List.mem_cons_self)
  have hown : s.vm.findClass R_L = some m.cls := findClass_of_methodNamed B.named
  have hlocks := B.notSynchronized
  subst hsz
  have hD := hD0.self (sz := s.heap.size)
  generalize hAe : va_A (LHw cA a0 aR aM aW aP aS aC aO nW nE cL aL R f us P S sc li rc rn ro rd st ot) s.heap.size = A at hD hXT ⊢
  have hA : ∀ q : Nat, s.heap.size ≤ q → A q := fun q h => by rw [← hAe]; exact Or.inr h
  have hS : va_S A s.heap s.heap [] := va_S.rf
  have hl := lv_entry ([.ref a0, .int p1, .int p2, .ref aL]) (n := 5) (Nat.le_of_ble_eq_true rfl)
  rw [lg_entry_eq]
  generalize (lg_sl ([.ref a0, .int p1, .int p2, .ref aL]) ++ List.replicate (5 - (lg_sl ([.ref a0, .int p1, .int p2, .ref aL])).length) Slot.unset).toArray = ls at hl ⊢
  have hl : lv_has ls 5 [(0, .ref a0), (1, .int p1), (2, .int p2), (3, .ref aL)] := hl
  unfold wqL_reaches at h
  refine lv_aload_n hx hb d_L_reaches_0 rfl (lv_at hl 3 rfl) ?_
  refine lv_iconst (v := (0 : Int32)) hx hb d_L_reaches_1 (by decide) ?_
  refine lv_aload_n hx hb d_L_reaches_2 rfl (lv_at hl 0 rfl) ?_
  refine lv_iload_n hx hb d_L_reaches_3 rfl (lv_at hl 1 rfl) ?_
  refine lv_iload_n hx hb d_L_reaches_4 rfl (lv_at hl 2 rfl) ?_
  have hPc := hP.sub (ws' := TSw cA a0 aR aM aW aP aS aC aO nW nE R f us P S sc li rc rn ro rd st) [0, 1, 2, 3, 4, 5, 6, 7] rfl
  have hDc := hD.sub (ws' := TSw cA a0 aR aM aW aP aS aC aO nW nE R f us P S sc li rc rn ro rd st) [0, 1, 2, 3, 4, 5, 6, 7] (by decide) rfl
  have hKc := hK.sub (tys' := [(cA, .int)]) [0] rfl
  have hFc := va_free (wc := TSw cA a0 aR aM aW aP aS aC aO nW nE R f us P S sc li rc rn ro rd st) hD hS hA [0, 1, 2, 3, 4, 5, 6, 7] rfl
  refine vx_calli (vx_runV (As := [.int p1, .int p2]) (rest := [.int (0 : Int32), .ref aL]) ⟨hx, hb, hml, hown, hw⟩ (mT_reaches l hlT sa dC dI cA a0 aR aM aW aP aS aC aO nW nE s.heap.size R f us P S sc li rc rn ro rd st p1 p2 _ _ h) (cwV 2 hw g_L_81 rfl rfl rfl (by decide +kernel) ⟨Nat.le_of_ble_eq_true rfl, Nat.le_of_ble_eq_true rfl⟩) (xw_PV (ci := 0) (q0 := 0) hKc hPc hDc (xt_at hXT hS) hFc rfl rfl) rfl rfl hl.1 rfl (lv_room (Nat.le_of_ble_eq_true rfl)) d_L_reaches_5 ⟨Nat.le_of_ble_eq_true rfl, Nat.le_of_ble_eq_true rfl⟩) hS (fun q _ h => hFc q h) hFc (fun q _ h => hFc q h) (fun E9 ce q9 u t H1 locs ht hvm _ hB hz1 hk1 hS hce hcv hcl => ?_) (fun r5 u t H1 locs ht hvm h hB hz1 hk1 hS => ?_)
  · obtain ⟨rc_5, rn_5, ro_5, rd_5⟩ := u
    obtain ⟨h, hB⟩ := hB
    obtain ⟨hP1, hK1, hD1⟩ := hB
    rw [ht] at hP1
    obtain ⟨hP, hD⟩ := va_join (wr := [(aL, .inl (cL, 1, .inr (.inl ot)))]) (w1 := TSw cA a0 aR aM aW aP aS aC aO nW nE R f us P S sc li rc_5 rn_5 ro_5 rd_5 st) hP hD [0, 1, 2, 3, 4, 5, 6, 7] [8] rfl rfl (by decide) (by decide) hk1 hFc hP1 hD1
    have hP := hP.sub (ws' := LHw cA a0 aR aM aW aP aS aC aO nW nE cL aL R f us P S sc li rc_5 rn_5 ro_5 rd_5 st ot) [1, 2, 3, 4, 5, 6, 7, 8, 0] rfl
    have hD := hD.sub (ws' := LHw cA a0 aR aM aW aP aS aC aO nW nE cL aL R f us P S sc li rc_5 rn_5 ro_5 rd_5 st ot) [1, 2, 3, 4, 5, 6, 7, 8, 0] (by decide) rfl
    generalize H1 = H at hP hS hce ⊢
    clear hPc hDc hKc hFc hP1 hD1 hK1 hk1
    try dsimp only at h
    obtain ⟨rfl, h⟩ := h
    refine vx_catch (own := R_L) (name := "java/lang/IllegalArgumentException") (E := "java/lang/IllegalArgumentException") hown [] ⟨0, 17, 20, 13⟩ [] hTab (fun z hz => nomatch hz) (by decide) (by decide) (hw _ wd_209) (hXT.2.2.2.2.2.2.2.2.2.1 _) hce hcv hcl ?_
    refine lv_astore (lv' := [(4, .ref q9), (0, .ref a0), (1, .int p1), (2, .int p2), (3, .ref aL)]) hx hb d_L_reaches_20 hl (by decide) rfl (fun ls hl => ?_)
    refine lv_iconst (v := (1 : Int32)) hx hb d_L_reaches_22 (by decide) ?_
    refine W.widen (k := 4) (n := 24) (Nat.le_of_ble_eq_true rfl) (Nat.le_of_ble_eq_true rfl) ?_
    exact W.iret (v := (1 : Int32)) hx hb hr9 (fun t ht hW => ⟨⟨_, (rc_5, rn_5, ro_5, rd_5, ot), rfl, h, by rw [ht]; exact hP, va_K.moved hW.alike hK, hD⟩, hS.F ht⟩) hS.2.2 d_L_reaches_23
  · obtain ⟨rc_5, rn_5, ro_5, rd_5⟩ := u
    obtain ⟨hP1, hK1, hD1⟩ := hB
    rw [ht] at hP1
    obtain ⟨hP, hD⟩ := va_join (wr := [(aL, .inl (cL, 1, .inr (.inl ot)))]) (w1 := TSw cA a0 aR aM aW aP aS aC aO nW nE R f us P S sc li rc_5 rn_5 ro_5 rd_5 st) hP hD [0, 1, 2, 3, 4, 5, 6, 7] [8] rfl rfl (by decide) (by decide) hk1 hFc hP1 hD1
    have hP := hP.sub (ws' := LHw cA a0 aR aM aW aP aS aC aO nW nE cL aL R f us P S sc li rc_5 rn_5 ro_5 rd_5 st ot) [1, 2, 3, 4, 5, 6, 7, 8, 0] rfl
    have hD := hD.sub (ws' := LHw cA a0 aR aM aW aP aS aC aO nW nE cL aL R f us P S sc li rc_5 rn_5 ro_5 rd_5 st ot) [1, 2, 3, 4, 5, 6, 7, 8, 0] (by decide) rfl
    generalize H1 = H at hP hS ⊢
    clear hPc hDc hKc hFc hP1 hD1 hK1 hk1
    try dsimp only at h
    refine lv_if_eq (tgt := 15) hx hb d_L_reaches_8 (by decide) (fun c_8 => ?_) (fun c_8 => ?_)
    · have h := h.1 c_8
      refine lv_lconst (v := (0 : Int64)) hx hb d_L_reaches_15 (by decide) ?_
      refine va_last hx hb hK hP hD hS 8 1 rfl rfl h.1 d_L_reaches_16 (fun H locs hP hD hS => ?_)
      have hP : va_P (dC, dI) vwCl (LHw cA a0 aR aM aW aP aS aC aO nW nE cL aL R f us P S sc li rc_5 rn_5 ro_5 rd_5 st (vp_updL ot (0 : Int32).toNatClampNeg (0 : Int64))) H := hP
      have hD : va_D A (LHw cA a0 aR aM aW aP aS aC aO nW nE cL aL R f us P S sc li rc_5 rn_5 ro_5 rd_5 st (vp_updL ot (0 : Int32).toNatClampNeg (0 : Int64))) := hD
      have h := h.2
      refine lv_goto (tgt := 24) hx hb d_L_reaches_17 (by decide) ?_
      refine lv_iconst (v := (0 : Int32)) hx hb d_L_reaches_24 (by decide) ?_
      refine W.widen (k := 4) (n := 24) (Nat.le_of_ble_eq_true rfl) (Nat.le_of_ble_eq_true rfl) ?_
      exact W.iret (v := (0 : Int32)) hx hb hr9 (fun t ht hW => ⟨⟨_, (rc_5, rn_5, ro_5, rd_5, vp_updL ot (0 : Int32).toNatClampNeg (0 : Int64)), rfl, h, by rw [ht]; exact hP, va_K.moved hW.alike hK, hD⟩, hS.F ht⟩) hS.2.2 d_L_reaches_25
    · have h := h.2 c_8
      refine lv_lconst (v := (1 : Int64)) hx hb d_L_reaches_11 (by decide) ?_
      refine lv_goto (tgt := 16) hx hb d_L_reaches_12 (by decide) ?_
      refine va_last hx hb hK hP hD hS 8 1 rfl rfl h.1 d_L_reaches_16 (fun H locs hP hD hS => ?_)
      have hP : va_P (dC, dI) vwCl (LHw cA a0 aR aM aW aP aS aC aO nW nE cL aL R f us P S sc li rc_5 rn_5 ro_5 rd_5 st (vp_updL ot (0 : Int32).toNatClampNeg (1 : Int64))) H := hP
      have hD : va_D A (LHw cA a0 aR aM aW aP aS aC aO nW nE cL aL R f us P S sc li rc_5 rn_5 ro_5 rd_5 st (vp_updL ot (0 : Int32).toNatClampNeg (1 : Int64))) := hD
      have h := h.2
      refine lv_goto (tgt := 24) hx hb d_L_reaches_17 (by decide) ?_
      refine lv_iconst (v := (0 : Int32)) hx hb d_L_reaches_24 (by decide) ?_
      refine W.widen (k := 4) (n := 24) (Nat.le_of_ble_eq_true rfl) (Nat.le_of_ble_eq_true rfl) ?_
      exact W.iret (v := (0 : Int32)) hx hb hr9 (fun t ht hW => ⟨⟨_, (rc_5, rn_5, ro_5, rd_5, vp_updL ot (0 : Int32).toNatClampNeg (1 : Int64)), rfl, h, by rw [ht]; exact hP, va_K.moved hW.alike hK, hD⟩, hS.F ht⟩) hS.2.2 d_L_reaches_25
def wqL_sum (nW : Nat) (nE : Nat) (R : Nat → Int32) (f : Nat → Int32) (P : Nat → Int32) (ot : Nat → Int64) (p1 : Int32) (post : Int32 → (Nat → Int64) → Prop) : Prop :=
  wqT_sum nW nE R f P p1 (fun r4 => vp_in (0 : Int32) 1 ∧ (post (0 : Int32) (vp_updL ot (0 : Int32).toNatClampNeg r4.toInt64))) (fun E => (E = "java/lang/IllegalArgumentException" ∧ (post (1 : Int32) ot)))
set_option maxHeartbeats 4000000 in
set_option maxRecDepth 100000 in
theorem mL_sum (l : Launch) (hlT : l.stackTraces = false) (sa : Nat → Nat) (dC : Nat → ClassId) (dI : Nat → Nat → Nat) (cA : ClassId) (a0 : Nat) (aR : Nat) (aM : Nat) (aW : Nat) (aP : Nat) (aS : Nat) (aC : Nat) (aO : Nat) (nW : Nat) (nE : Nat) (cL : ClassId) (aL : Nat) (sz : Nat) (R : Nat → Int32) (f : Nat → Int32) (us : Int32) (P : Nat → Int32) (S : Nat → Int32) (sc : Int32) (li : Int32) (rc : Nat → Int32) (rn : Int32) (ro : Nat → Int32) (rd : Int32) (st : Int32) (ot : Nat → Int64) (p1 : Int32) (post : Int32 → (Nat → Int64) → Prop) (h : wqL_sum nW nE R f P ot p1 post) : Met l y_L_sum ws_L_sum ({ frames := 8, cells := 1, slots := 6, locals := 142 }) (xh_P (dC, dI) vwCl (LHw cA a0 aR aM aW aP aS aC aO nW nE cL aL R f us P S sc li rc rn ro rd st ot) [(cA, .int), (cL, .long)] sz sa [.ref a0, .int p1, .ref aL]) (va_Qi (fun (r : Int32) (u : (Nat → Int64)) => post r u) (rw_B (dC, dI) vwCl [(cA, .int), (cL, .long)] (va_A (LHw cA a0 aR aM aW aP aS aC aO nW nE cL aL R f us P S sc li rc rn ro rd st ot) sz) (fun u : (Nat → Int64) => LHw cA a0 aR aM aW aP aS aC aO nW nE cL aL R f us P S sc li rc rn ro rd st u)) (va_A (LHw cA a0 aR aM aW aP aS aC aO nW nE cL aL R f us P S sc li rc rn ro rd st ot) sz)) 1 6 (va_A (LHw cA a0 aR aM aW aP aS aC aO nW nE cL aL R f us P S sc li rc rn ro rd st ot) sz) := by
  refine va_MetW (cc := c_L_sum) (maxL := 4) (ret := (some .int)) (hh := [(0, 9, 12, 13)]) (by decide) rfl ?_
  intro p e s m args below meth c s₁ B hml hv
  obtain ⟨rfl, hsz, hP, hK, hD0, hXT, hNC⟩ := hv
  have hx := B.exec
  have hb := B.bytes
  have hr9 := B.returns
  have hts := atoms_spec (ws := ws_L_sum) B.pre
  have hw : ∀ w ∈ WB_, w.before _ s = true := fun w h => hts w (List.mem_cons_of_mem _ h)
  have hTab : c.exceptionTable.toList = tableOf [(0, 9, 12, 13)] := vx_table (x := y_L_sum) B (hts _ List.mem_cons_self)
  have hown : s.vm.findClass R_L = some m.cls := findClass_of_methodNamed B.named
  have hlocks := B.notSynchronized
  subst hsz
  have hD := hD0.self (sz := s.heap.size)
  generalize hAe : va_A (LHw cA a0 aR aM aW aP aS aC aO nW nE cL aL R f us P S sc li rc rn ro rd st ot) s.heap.size = A at hD hXT ⊢
  have hA : ∀ q : Nat, s.heap.size ≤ q → A q := fun q h => by rw [← hAe]; exact Or.inr h
  have hS : va_S A s.heap s.heap [] := va_S.rf
  have hl := lv_entry ([.ref a0, .int p1, .ref aL]) (n := 4) (Nat.le_of_ble_eq_true rfl)
  rw [lg_entry_eq]
  generalize (lg_sl ([.ref a0, .int p1, .ref aL]) ++ List.replicate (4 - (lg_sl ([.ref a0, .int p1, .ref aL])).length) Slot.unset).toArray = ls at hl ⊢
  have hl : lv_has ls 4 [(0, .ref a0), (1, .int p1), (2, .ref aL)] := hl
  unfold wqL_sum at h
  refine lv_aload_n hx hb d_L_sum_0 rfl (lv_at hl 2 rfl) ?_
  refine lv_iconst (v := (0 : Int32)) hx hb d_L_sum_1 (by decide) ?_
  refine lv_aload_n hx hb d_L_sum_2 rfl (lv_at hl 0 rfl) ?_
  refine lv_iload_n hx hb d_L_sum_3 rfl (lv_at hl 1 rfl) ?_
  have hPc := hP.sub (ws' := TSw cA a0 aR aM aW aP aS aC aO nW nE R f us P S sc li rc rn ro rd st) [0, 1, 2, 3, 4, 5, 6, 7] rfl
  have hDc := hD.sub (ws' := TSw cA a0 aR aM aW aP aS aC aO nW nE R f us P S sc li rc rn ro rd st) [0, 1, 2, 3, 4, 5, 6, 7] (by decide) rfl
  have hKc := hK.sub (tys' := [(cA, .int)]) [0] rfl
  have hFc := va_free (wc := TSw cA a0 aR aM aW aP aS aC aO nW nE R f us P S sc li rc rn ro rd st) hD hS hA [0, 1, 2, 3, 4, 5, 6, 7] rfl
  refine vx_calli (vx_runV (As := [.int p1]) (rest := [.int (0 : Int32), .ref aL]) ⟨hx, hb, hml, hown, hw⟩ (mT_sum l hlT sa dC dI cA a0 aR aM aW aP aS aC aO nW nE s.heap.size R f us P S sc li rc rn ro rd st p1 _ _ h) (cwV 1 hw g_L_85 rfl rfl rfl (by decide +kernel) ⟨Nat.le_of_ble_eq_true rfl, Nat.le_of_ble_eq_true rfl⟩) (xw_PV (ci := 0) (q0 := 0) hKc hPc hDc (xt_at hXT hS) hFc rfl rfl) rfl rfl hl.1 rfl (lv_room (Nat.le_of_ble_eq_true rfl)) d_L_sum_4 ⟨Nat.le_of_ble_eq_true rfl, Nat.le_of_ble_eq_true rfl⟩) hS (fun q _ h => hFc q h) hFc (fun q _ h => hFc q h) (fun E9 ce q9 u t H1 locs ht hvm _ hB hz1 hk1 hS hce hcv hcl => ?_) (fun r4 u t H1 locs ht hvm h hB hz1 hk1 hS => ?_)
  · obtain ⟨h, hB⟩ := hB
    obtain ⟨hP1, hK1, hD1⟩ := hB
    rw [ht] at hP1
    obtain ⟨hP, hD⟩ := va_join (wr := [(aL, .inl (cL, 1, .inr (.inl ot)))]) (w1 := TSw cA a0 aR aM aW aP aS aC aO nW nE R f us P S sc li rc rn ro rd st) hP hD [0, 1, 2, 3, 4, 5, 6, 7] [8] rfl rfl (by decide) (by decide) hk1 hFc hP1 hD1
    have hP := hP.sub (ws' := LHw cA a0 aR aM aW aP aS aC aO nW nE cL aL R f us P S sc li rc rn ro rd st ot) [1, 2, 3, 4, 5, 6, 7, 8, 0] rfl
    have hD := hD.sub (ws' := LHw cA a0 aR aM aW aP aS aC aO nW nE cL aL R f us P S sc li rc rn ro rd st ot) [1, 2, 3, 4, 5, 6, 7, 8, 0] (by decide) rfl
    generalize H1 = H at hP hS hce ⊢
    clear hPc hDc hKc hFc hP1 hD1 hK1 hk1
    try dsimp only at h
    obtain ⟨rfl, h⟩ := h
    refine vx_catch (own := R_L) (name := "java/lang/IllegalArgumentException") (E := "java/lang/IllegalArgumentException") hown [] ⟨0, 9, 12, 13⟩ [] hTab (fun z hz => nomatch hz) (by decide) (by decide) (hw _ wd_209) (hXT.2.2.2.2.2.2.2.2.2.1 _) hce hcv hcl ?_
    refine lv_astore_n (lv' := [(3, .ref q9), (0, .ref a0), (1, .int p1), (2, .ref aL)]) hx hb d_L_sum_12 rfl hl (by decide) rfl (fun ls hl => ?_)
    refine lv_iconst (v := (1 : Int32)) hx hb d_L_sum_13 (by decide) ?_
    refine W.widen (k := 1) (n := 6) (Nat.le_of_ble_eq_true rfl) (Nat.le_of_ble_eq_true rfl) ?_
    exact W.iret (v := (1 : Int32)) hx hb hr9 (fun t ht hW => ⟨⟨_, (ot), rfl, h, by rw [ht]; exact hP, va_K.moved hW.alike hK, hD⟩, hS.F ht⟩) hS.2.2 d_L_sum_14
  · obtain ⟨hP1, hK1, hD1⟩ := hB
    rw [ht] at hP1
    obtain ⟨hP, hD⟩ := va_join (wr := [(aL, .inl (cL, 1, .inr (.inl ot)))]) (w1 := TSw cA a0 aR aM aW aP aS aC aO nW nE R f us P S sc li rc rn ro rd st) hP hD [0, 1, 2, 3, 4, 5, 6, 7] [8] rfl rfl (by decide) (by decide) hk1 hFc hP1 hD1
    have hP := hP.sub (ws' := LHw cA a0 aR aM aW aP aS aC aO nW nE cL aL R f us P S sc li rc rn ro rd st ot) [1, 2, 3, 4, 5, 6, 7, 8, 0] rfl
    have hD := hD.sub (ws' := LHw cA a0 aR aM aW aP aS aC aO nW nE cL aL R f us P S sc li rc rn ro rd st ot) [1, 2, 3, 4, 5, 6, 7, 8, 0] (by decide) rfl
    generalize H1 = H at hP hS ⊢
    clear hPc hDc hKc hFc hP1 hD1 hK1 hk1
    try dsimp only at h
    refine lv_i2l (v := r4.toInt64) hx hb d_L_sum_7 rfl ?_
    refine va_last hx hb hK hP hD hS 8 1 rfl rfl h.1 d_L_sum_8 (fun H locs hP hD hS => ?_)
    have hP : va_P (dC, dI) vwCl (LHw cA a0 aR aM aW aP aS aC aO nW nE cL aL R f us P S sc li rc rn ro rd st (vp_updL ot (0 : Int32).toNatClampNeg r4.toInt64)) H := hP
    have hD : va_D A (LHw cA a0 aR aM aW aP aS aC aO nW nE cL aL R f us P S sc li rc rn ro rd st (vp_updL ot (0 : Int32).toNatClampNeg r4.toInt64)) := hD
    have h := h.2
    refine lv_goto (tgt := 15) hx hb d_L_sum_9 (by decide) ?_
    refine lv_iconst (v := (0 : Int32)) hx hb d_L_sum_15 (by decide) ?_
    refine W.widen (k := 1) (n := 6) (Nat.le_of_ble_eq_true rfl) (Nat.le_of_ble_eq_true rfl) ?_
    exact W.iret (v := (0 : Int32)) hx hb hr9 (fun t ht hW => ⟨⟨_, (vp_updL ot (0 : Int32).toNatClampNeg r4.toInt64), rfl, h, by rw [ht]; exact hP, va_K.moved hW.alike hK, hD⟩, hS.F ht⟩) hS.2.2 d_L_sum_16

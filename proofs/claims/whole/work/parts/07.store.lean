def wqT_isBetween (a1 : Int32) (a2 : Int32) (a3 : Int32) (post : Int32 → Prop) : Prop :=
  (a1 < a2 → (post (0 : Int32))) ∧ (¬ (a1 < a2) → ((a3 < a1 → (post (0 : Int32))) ∧ (¬ (a3 < a1) → (post (1 : Int32)))))
set_option maxHeartbeats 4000000 in
set_option maxRecDepth 100000 in
theorem mT_isBetween (l : Launch) (a1 : Int32) (a2 : Int32) (a3 : Int32) (post : Int32 → Prop) (h : wqT_isBetween a1 a2 a3 post) : Met l y_T_isBetween ws_T_isBetween ({ frames := 0, cells := 0, slots := 0, locals := 0 }) (fun v _ => v = ([.int a1, .int a2, .int a3] : List Value).toArray) (rq_i post) 0 0 (fun _ => False) := by
  refine Met.ofW (cc := c_T_isBetween) (maxL := 3) (ret := (some .boolean)) (by decide) rfl ?_
  intro p e s m args below meth c s₁ B hml hv
  subst hv
  have hx := B.exec
  have hb := B.bytes
  have hr9 := B.returns
  have hts := atoms_spec (ws := ws_T_isBetween) B.pre
  have hw : ∀ w ∈ WB_, w.before _ s = true := fun w h => hts w (List.mem_cons_of_mem _ h)
  have hown : s.vm.findClass R_T = some m.cls := findClass_of_methodNamed B.named
  have hlocks := B.notSynchronized
  have hl := lv_entry ([.int a1, .int a2, .int a3]) (n := 3) (Nat.le_of_ble_eq_true rfl)
  rw [lg_entry_eq]
  generalize (lg_sl ([.int a1, .int a2, .int a3]) ++ List.replicate (3 - (lg_sl ([.int a1, .int a2, .int a3])).length) Slot.unset).toArray = ls at hl ⊢
  have hl : lv_has ls 3 [(0, .int a1), (1, .int a2), (2, .int a3)] := hl
  unfold wqT_isBetween at h
  refine lv_iload_n hx hb d_T_isBetween_0 rfl (lv_at hl 0 rfl) ?_
  refine lv_iload_n hx hb d_T_isBetween_1 rfl (lv_at hl 1 rfl) ?_
  refine lv_icmp_lt (tgt := 14) hx hb d_T_isBetween_2 (by decide) (fun c_2 => ?_) (fun c_2 => ?_)
  · have h := h.1 c_2
    refine lv_iconst (v := (0 : Int32)) hx hb d_T_isBetween_14 (by decide) ?_
    exact W.zret (v := (0 : Int32)) (ty := .boolean) hx hb hr9 rfl (fun t ht hW => ⟨_, rfl, h, ht⟩) (fun _ h9 => nomatch h9) d_T_isBetween_15
  · have h := h.2 c_2
    refine lv_iload_n hx hb d_T_isBetween_5 rfl (lv_at hl 0 rfl) ?_
    refine lv_iload_n hx hb d_T_isBetween_6 rfl (lv_at hl 2 rfl) ?_
    refine lv_icmp_gt (tgt := 14) hx hb d_T_isBetween_7 (by decide) (fun c_7 => ?_) (fun c_7 => ?_)
    · have h := h.1 c_7
      refine lv_iconst (v := (0 : Int32)) hx hb d_T_isBetween_14 (by decide) ?_
      exact W.zret (v := (0 : Int32)) (ty := .boolean) hx hb hr9 rfl (fun t ht hW => ⟨_, rfl, h, ht⟩) (fun _ h9 => nomatch h9) d_T_isBetween_15
    · have h := h.2 c_7
      refine lv_iconst (v := (1 : Int32)) hx hb d_T_isBetween_10 (by decide) ?_
      refine lv_goto (tgt := 15) hx hb d_T_isBetween_11 (by decide) ?_
      exact W.zret (v := (1 : Int32)) (ty := .boolean) hx hb hr9 rfl (fun t ht hW => ⟨_, rfl, h, ht⟩) (fun _ h9 => nomatch h9) d_T_isBetween_15
def wqT_needBetween (a1 : Int32) (a2 : Int32) (a3 : Int32) (post : Prop) (px : String → Prop) : Prop :=
  wqT_isBetween a1 a2 a3 (fun r3 => (r3 = 0 → (px "java/lang/IllegalArgumentException")) ∧ (¬ (r3 = 0) → post))
set_option maxHeartbeats 4000000 in
set_option maxRecDepth 100000 in
theorem mT_needBetween (l : Launch) (hlT : l.stackTraces = false) (sa : Nat → Nat) (a1 : Int32) (a2 : Int32) (a3 : Int32) (post : Prop) (px : String → Prop) (h : wqT_needBetween a1 a2 a3 post px) : vx_Met l y_T_needBetween ws_T_needBetween ({ frames := 6, cells := 1, slots := 6, locals := 100 }) (xs_P sa [.int a1, .int a2, .int a3]) (rq_v post) (rq_X px) 1 6 (fun _ => False) := by
  refine vx_ofW (cc := c_T_needBetween) (maxL := 3) (ret := none) (by decide) rfl ?_
  intro p e s m args below meth c s₁ B hml hEx hv
  obtain ⟨rfl, hXT⟩ := hv
  have hx := B.exec
  have hb := B.bytes
  have hr9 := B.returns
  have hts := atoms_spec (ws := ws_T_needBetween) B.pre
  have hw : ∀ w ∈ WB_, w.before _ s = true := fun w h => hts w (List.mem_cons_of_mem _ h)
  have hown : s.vm.findClass R_T = some m.cls := findClass_of_methodNamed B.named
  have hlocks := B.notSynchronized
  have hl := lv_entry ([.int a1, .int a2, .int a3]) (n := 3) (Nat.le_of_ble_eq_true rfl)
  rw [lg_entry_eq]
  generalize (lg_sl ([.int a1, .int a2, .int a3]) ++ List.replicate (3 - (lg_sl ([.int a1, .int a2, .int a3])).length) Slot.unset).toArray = ls at hl ⊢
  have hl : lv_has ls 3 [(0, .int a1), (1, .int a2), (2, .int a3)] := hl
  unfold wqT_needBetween at h
  refine lv_iload_n hx hb d_T_needBetween_0 rfl (lv_at hl 0 rfl) ?_
  refine lv_iload_n hx hb d_T_needBetween_1 rfl (lv_at hl 1 rfl) ?_
  refine lv_iload_n hx hb d_T_needBetween_2 rfl (lv_at hl 2 rfl) ?_
  refine rq_calli (W.runS (As := [.int a1, .int a2, .int a3]) (rest := []) ⟨hx, hb, hml, hown, hw⟩ (mT_isBetween l a1 a2 a3 _ h) (va_cwS 3 hw g_T_16 rfl rfl rfl (by decide +kernel) ⟨Nat.le_of_ble_eq_true rfl, Nat.le_of_ble_eq_true rfl⟩) preEq rfl rfl hl.1 rfl (lv_room (Nat.le_of_ble_eq_true rfl)) d_T_needBetween_3 ⟨Nat.le_of_ble_eq_true rfl, Nat.le_of_ble_eq_true rfl⟩) (fun r3 h => ?_)
  refine lv_if_ne (tgt := 19) hx hb d_T_needBetween_6 (by decide) (fun c_6 => ?_) (fun c_6 => ?_)
  · have h := h.2 c_6
    refine W.widen (k := 1) (n := 6) (Nat.le_of_ble_eq_true rfl) (Nat.le_of_ble_eq_true rfl) ?_
    exact vx_ret (W.vret hx hb hr9 (fun t ht hW => ⟨rfl, h, ht⟩) (fun _ h9 => nomatch h9) d_T_needBetween_19)
  · have h := h.1 c_6
    exact vx_throwS (own := R_T) (cls := "java/lang/IllegalArgumentException") (text := "a number is out of its range") (names := ["java/lang/RuntimeException", "java/lang/Exception"]) (A := fun _ => False) (sa := sa 0) hx hb hlT hown (by decide +kernel) (by decide +kernel) (hw _ wd_217) (hw _ wd_44) hXT.2.2.1 (vx_hat (fun w h9 => hw w (xa_T_161 w h9)) xa_T_161_n (vx_c (hXT.2.2.2.2.2.2.2.2.2.1 _) (vx_c (hXT.2.2.2.2.2.2.2.2.2.2.2.2.1 _) (vx_c (hXT.2.2.2.2.2.2.2.2.2.2.2.2.2.1 _) (vx_c (hXT.2.2.2.2.2.2.2.2.2.2.2.2.2.2 _) vx_n))))) (by decide +kernel) hXT.1 hXT.2.1 va_S.rf (hl.1.trans hml.symm) d_T_needBetween_9 d_T_needBetween_12 d_T_needBetween_13 d_T_needBetween_15 d_T_needBetween_18 (fun x hx => (hEx x hx).elim) (Nat.le_of_ble_eq_true rfl) (Nat.le_of_ble_eq_true rfl) (Nat.le_of_ble_eq_true rfl) (Nat.le_of_ble_eq_true rfl) hlocks (fun t hvm hz hk => ⟨h, hz, hk⟩) (fun _ h9 => nomatch h9) (Nat.le_of_ble_eq_true rfl) (Nat.le_of_ble_eq_true rfl)
def wqT_needRegister (a1 : Int32) (post : Prop) (px : String → Prop) : Prop :=
  wqT_isBetween a1 (0 : Int32) (31 : Int32) (fun r4 => (r4 = 0 → (px "java/lang/IllegalArgumentException")) ∧ (¬ (r4 = 0) → post))
set_option maxHeartbeats 4000000 in
set_option maxRecDepth 100000 in
theorem mT_needRegister (l : Launch) (hlT : l.stackTraces = false) (sa : Nat → Nat) (a1 : Int32) (post : Prop) (px : String → Prop) (h : wqT_needRegister a1 post px) : vx_Met l y_T_needRegister ws_T_needRegister ({ frames := 6, cells := 1, slots := 6, locals := 100 }) (xs_P sa [.int a1]) (rq_v post) (rq_X px) 1 6 (fun _ => False) := by
  refine vx_ofW (cc := c_T_needRegister) (maxL := 1) (ret := none) (by decide) rfl ?_
  intro p e s m args below meth c s₁ B hml hEx hv
  obtain ⟨rfl, hXT⟩ := hv
  have hx := B.exec
  have hb := B.bytes
  have hr9 := B.returns
  have hts := atoms_spec (ws := ws_T_needRegister) B.pre
  have hw : ∀ w ∈ WB_, w.before _ s = true := fun w h => hts w (List.mem_cons_of_mem _ h)
  have hown : s.vm.findClass R_T = some m.cls := findClass_of_methodNamed B.named
  have hlocks := B.notSynchronized
  have hl := lv_entry ([.int a1]) (n := 1) (Nat.le_of_ble_eq_true rfl)
  rw [lg_entry_eq]
  generalize (lg_sl ([.int a1]) ++ List.replicate (1 - (lg_sl ([.int a1])).length) Slot.unset).toArray = ls at hl ⊢
  have hl : lv_has ls 1 [(0, .int a1)] := hl
  unfold wqT_needRegister at h
  refine lv_iload_n hx hb d_T_needRegister_0 rfl (lv_at hl 0 rfl) ?_
  refine lv_iconst (v := (0 : Int32)) hx hb d_T_needRegister_1 (by decide) ?_
  refine lv_bipush (v := (31 : Int32)) hx hb d_T_needRegister_2 (by decide) ?_
  refine rq_calli (W.runS (As := [.int a1, .int (0 : Int32), .int (31 : Int32)]) (rest := []) ⟨hx, hb, hml, hown, hw⟩ (mT_isBetween l a1 (0 : Int32) (31 : Int32) _ h) (va_cwS 3 hw g_T_16 rfl rfl rfl (by decide +kernel) ⟨Nat.le_of_ble_eq_true rfl, Nat.le_of_ble_eq_true rfl⟩) preEq rfl rfl hl.1 rfl (lv_room (Nat.le_of_ble_eq_true rfl)) d_T_needRegister_4 ⟨Nat.le_of_ble_eq_true rfl, Nat.le_of_ble_eq_true rfl⟩) (fun r4 h => ?_)
  refine lv_if_ne (tgt := 20) hx hb d_T_needRegister_7 (by decide) (fun c_7 => ?_) (fun c_7 => ?_)
  · have h := h.2 c_7
    refine W.widen (k := 1) (n := 6) (Nat.le_of_ble_eq_true rfl) (Nat.le_of_ble_eq_true rfl) ?_
    exact vx_ret (W.vret hx hb hr9 (fun t ht hW => ⟨rfl, h, ht⟩) (fun _ h9 => nomatch h9) d_T_needRegister_20)
  · have h := h.1 c_7
    exact vx_throwS (own := R_T) (cls := "java/lang/IllegalArgumentException") (text := "there is no such register") (names := ["java/lang/RuntimeException", "java/lang/Exception"]) (A := fun _ => False) (sa := sa 1) hx hb hlT hown (by decide +kernel) (by decide +kernel) (hw _ wd_217) (hw _ wd_44) hXT.2.2.2.1 (vx_hat (fun w h9 => hw w (xa_T_161 w h9)) xa_T_161_n (vx_c (hXT.2.2.2.2.2.2.2.2.2.1 _) (vx_c (hXT.2.2.2.2.2.2.2.2.2.2.2.2.1 _) (vx_c (hXT.2.2.2.2.2.2.2.2.2.2.2.2.2.1 _) (vx_c (hXT.2.2.2.2.2.2.2.2.2.2.2.2.2.2 _) vx_n))))) (by decide +kernel) hXT.1 hXT.2.1 va_S.rf (hl.1.trans hml.symm) d_T_needRegister_10 d_T_needRegister_13 d_T_needRegister_14 d_T_needRegister_16 d_T_needRegister_19 (fun x hx => (hEx x hx).elim) (Nat.le_of_ble_eq_true rfl) (Nat.le_of_ble_eq_true rfl) (Nat.le_of_ble_eq_true rfl) (Nat.le_of_ble_eq_true rfl) hlocks (fun t hvm hz hk => ⟨h, hz, hk⟩) (fun _ h9 => nomatch h9) (Nat.le_of_ble_eq_true rfl) (Nat.le_of_ble_eq_true rfl)
def wqT_needMade (a1 : Int32) (post : Prop) (px : String → Prop) : Prop :=
  (a1 = 0 → (px "java/lang/UnsupportedOperationException")) ∧ (¬ (a1 = 0) → post)
set_option maxHeartbeats 4000000 in
set_option maxRecDepth 100000 in
theorem mT_needMade (l : Launch) (hlT : l.stackTraces = false) (sa : Nat → Nat) (a1 : Int32) (post : Prop) (px : String → Prop) (h : wqT_needMade a1 post px) : vx_Met l y_T_needMade ws_T_needMade ({ frames := 6, cells := 1, slots := 6, locals := 100 }) (xs_P sa [.int a1]) (rq_v post) (rq_X px) 1 6 (fun _ => False) := by
  refine vx_ofW (cc := c_T_needMade) (maxL := 1) (ret := none) (by decide) rfl ?_
  intro p e s m args below meth c s₁ B hml hEx hv
  obtain ⟨rfl, hXT⟩ := hv
  have hx := B.exec
  have hb := B.bytes
  have hr9 := B.returns
  have hts := atoms_spec (ws := ws_T_needMade) B.pre
  have hw : ∀ w ∈ WB_, w.before _ s = true := fun w h => hts w (List.mem_cons_of_mem _ h)
  have hown : s.vm.findClass R_T = some m.cls := findClass_of_methodNamed B.named
  have hlocks := B.notSynchronized
  have hl := lv_entry ([.int a1]) (n := 1) (Nat.le_of_ble_eq_true rfl)
  rw [lg_entry_eq]
  generalize (lg_sl ([.int a1]) ++ List.replicate (1 - (lg_sl ([.int a1])).length) Slot.unset).toArray = ls at hl ⊢
  have hl : lv_has ls 1 [(0, .int a1)] := hl
  unfold wqT_needMade at h
  refine lv_iload_n hx hb d_T_needMade_0 rfl (lv_at hl 0 rfl) ?_
  refine lv_if_ne (tgt := 14) hx hb d_T_needMade_1 (by decide) (fun c_1 => ?_) (fun c_1 => ?_)
  · have h := h.2 c_1
    refine W.widen (k := 1) (n := 6) (Nat.le_of_ble_eq_true rfl) (Nat.le_of_ble_eq_true rfl) ?_
    exact vx_ret (W.vret hx hb hr9 (fun t ht hW => ⟨rfl, h, ht⟩) (fun _ h9 => nomatch h9) d_T_needMade_14)
  · have h := h.1 c_1
    exact vx_throwS (own := R_T) (cls := "java/lang/UnsupportedOperationException") (text := "there is no room for the object") (names := ["java/lang/RuntimeException", "java/lang/Exception"]) (A := fun _ => False) (sa := sa 6) hx hb hlT hown (by decide +kernel) (by decide +kernel) (hw _ wd_342) (hw _ wd_48) hXT.2.2.2.2.2.2.2.2.1 (vx_hat (fun w h9 => hw w (xa_T_181 w h9)) xa_T_181_n (vx_c (hXT.2.2.2.2.2.2.2.2.2.2.2.1 _) (vx_c (hXT.2.2.2.2.2.2.2.2.2.2.2.2.1 _) (vx_c (hXT.2.2.2.2.2.2.2.2.2.2.2.2.2.1 _) (vx_c (hXT.2.2.2.2.2.2.2.2.2.2.2.2.2.2 _) vx_n))))) (by decide +kernel) hXT.1 hXT.2.1 va_S.rf (hl.1.trans hml.symm) d_T_needMade_4 d_T_needMade_7 d_T_needMade_8 d_T_needMade_10 d_T_needMade_13 (fun x hx => (hEx x hx).elim) (Nat.le_of_ble_eq_true rfl) (Nat.le_of_ble_eq_true rfl) (Nat.le_of_ble_eq_true rfl) (Nat.le_of_ble_eq_true rfl) hlocks (fun t hvm hz hk => ⟨h, hz, hk⟩) (fun _ h9 => nomatch h9) (Nat.le_of_ble_eq_true rfl) (Nat.le_of_ble_eq_true rfl)
def wqT_needObject (nW : Nat) (nE : Nat) (R : Nat → Int32) (a1 : Int32) (post : Prop) (px : String → Prop) : Prop :=
  wqT_needRegister a1 (vp_in a1 32 ∧ (wqV_isObject (R a1.toNatClampNeg) (fun r10 => (r10 = 0 → (px "java/lang/IllegalArgumentException")) ∧ (¬ (r10 = 0) → post)))) (fun E => px E)
set_option maxHeartbeats 4000000 in
set_option maxRecDepth 100000 in
theorem mT_needObject (l : Launch) (hlT : l.stackTraces = false) (sa : Nat → Nat) (dC : Nat → ClassId) (dI : Nat → Nat → Nat) (cA : ClassId) (a0 : Nat) (aR : Nat) (aM : Nat) (aW : Nat) (aP : Nat) (aS : Nat) (aC : Nat) (aO : Nat) (nW : Nat) (nE : Nat) (R : Nat → Int32) (f : Nat → Int32) (us : Int32) (P : Nat → Int32) (S : Nat → Int32) (sc : Int32) (li : Int32) (rc : Nat → Int32) (rn : Int32) (ro : Nat → Int32) (rd : Int32) (st : Int32) (a1 : Int32) (post : Prop) (px : String → Prop) (h : wqT_needObject nW nE R a1 post px) : vx_Met l y_T_needObject ws_T_needObject ({ frames := 7, cells := 2, slots := 12, locals := 120 }) (xo_P (dC, dI) vwCl (TSw cA a0 aR aM aW aP aS aC aO nW nE R f us P S sc li rc rn ro rd st) [(cA, .int)] sa [.ref a0, .int a1]) (rq_v post) (rq_X px) 2 12 (fun _ => False) := by
  refine vx_ofW (cc := c_T_needObject) (maxL := 2) (ret := none) (by decide) rfl ?_
  intro p e s m args below meth c s₁ B hml hEx hv
  obtain ⟨rfl, hP, hK, hXT⟩ := hv
  have hx := B.exec
  have hb := B.bytes
  have hr9 := B.returns
  have hts := atoms_spec (ws := ws_T_needObject) B.pre
  have hw : ∀ w ∈ WB_, w.before _ s = true := fun w h => hts w (List.mem_cons_of_mem _ h)
  have hown : s.vm.findClass R_T = some m.cls := findClass_of_methodNamed B.named
  have hlocks := B.notSynchronized
  have hl := lv_entry ([.ref a0, .int a1]) (n := 2) (Nat.le_of_ble_eq_true rfl)
  rw [lg_entry_eq]
  generalize (lg_sl ([.ref a0, .int a1]) ++ List.replicate (2 - (lg_sl ([.ref a0, .int a1])).length) Slot.unset).toArray = ls at hl ⊢
  have hl : lv_has ls 2 [(0, .ref a0), (1, .int a1)] := hl
  unfold wqT_needObject at h
  refine lv_iload_n hx hb d_T_needObject_0 rfl (lv_at hl 1 rfl) ?_
  refine rx_callv (vx_runS (As := [.int a1]) (rest := []) ⟨hx, hb, hml, hown, hw⟩ (mT_needRegister l hlT sa a1 _ _ h) (va_cwS 1 hw g_T_27 rfl rfl rfl (by decide +kernel) ⟨Nat.le_of_ble_eq_true rfl, Nat.le_of_ble_eq_true rfl⟩) (xs_PS hXT) rfl rfl hl.1 rfl (lv_room (Nat.le_of_ble_eq_true rfl)) d_T_needObject_1 ⟨Nat.le_of_ble_eq_true rfl, Nat.le_of_ble_eq_true rfl⟩) (fun E9 ce q9 H1 h hz hk hce hcv hcl => ?_) (fun h => ?_)
  · exact rq_out hEx hlocks h hz hk hce hcv hcl (Nat.le_of_ble_eq_true rfl) (Nat.le_of_ble_eq_true rfl)
  · refine lv_aload_n hx hb d_T_needObject_4 rfl (lv_at hl 0 rfl) ?_
    refine va_get (D := (dC, dI)) (ci := 0) (v := .ref aR) (C := R_T) (T := T_T) (N := 2) hx hb hw in_T hown hK hP 0 rfl rfl 0 (by decide) (hw _ wd_103) (fun _ h9 => h9) rfl d_T_needObject_5 ?_
    refine lv_iload_n hx hb d_T_needObject_8 rfl (lv_at hl 1 rfl) ?_
    refine va_iald hx hb hK hP 1 0 rfl rfl h.1 d_T_needObject_9 ?_
    have h := h.2
    refine rq_calli (W.runS (As := [.int (R a1.toNatClampNeg)]) (rest := []) ⟨hx, hb, hml, hown, hw⟩ (mV_isObject l (R a1.toNatClampNeg) _ h) (va_cwS 1 hw g_T_119 rfl rfl rfl (by decide +kernel) ⟨Nat.le_of_ble_eq_true rfl, Nat.le_of_ble_eq_true rfl⟩) preEq rfl rfl hl.1 rfl (lv_room (Nat.le_of_ble_eq_true rfl)) d_T_needObject_10 ⟨Nat.le_of_ble_eq_true rfl, Nat.le_of_ble_eq_true rfl⟩) (fun r10 h => ?_)
    refine lv_if_ne (tgt := 26) hx hb d_T_needObject_13 (by decide) (fun c_13 => ?_) (fun c_13 => ?_)
    · have h := h.2 c_13
      refine W.widen (k := 2) (n := 12) (Nat.le_of_ble_eq_true rfl) (Nat.le_of_ble_eq_true rfl) ?_
      exact vx_ret (W.vret hx hb hr9 (fun t ht hW => ⟨rfl, h, ht⟩) (fun _ h9 => nomatch h9) d_T_needObject_26)
    · have h := h.1 c_13
      exact vx_throwS (own := R_T) (cls := "java/lang/IllegalArgumentException") (text := "the register has no object") (names := ["java/lang/RuntimeException", "java/lang/Exception"]) (A := fun _ => False) (sa := sa 2) hx hb hlT hown (by decide +kernel) (by decide +kernel) (hw _ wd_217) (hw _ wd_44) hXT.2.2.2.2.1 (vx_hat (fun w h9 => hw w (xa_T_161 w h9)) xa_T_161_n (vx_c (hXT.2.2.2.2.2.2.2.2.2.1 _) (vx_c (hXT.2.2.2.2.2.2.2.2.2.2.2.2.1 _) (vx_c (hXT.2.2.2.2.2.2.2.2.2.2.2.2.2.1 _) (vx_c (hXT.2.2.2.2.2.2.2.2.2.2.2.2.2.2 _) vx_n))))) (by decide +kernel) hXT.1 hXT.2.1 va_S.rf (hl.1.trans hml.symm) d_T_needObject_16 d_T_needObject_19 d_T_needObject_20 d_T_needObject_22 d_T_needObject_25 (fun x hx => (hEx x hx).elim) (Nat.le_of_ble_eq_true rfl) (Nat.le_of_ble_eq_true rfl) (Nat.le_of_ble_eq_true rfl) (Nat.le_of_ble_eq_true rfl) hlocks (fun t hvm hz hk => ⟨h, hz, hk⟩) (fun _ h9 => nomatch h9) (Nat.le_of_ble_eq_true rfl) (Nat.le_of_ble_eq_true rfl)
def wqT_needSlots (nW : Nat) (nE : Nat) (R : Nat → Int32) (f : Nat → Int32) (P : Nat → Int32) (a1 : Int32) (post : Prop) (px : String → Prop) : Prop :=
  wqT_needRegister a1 (vp_in a1 32 ∧ (wqM_holdsSlots nW nE f P (R a1.toNatClampNeg) (fun r14 => (r14 = 0 → (px "java/lang/IllegalArgumentException")) ∧ (¬ (r14 = 0) → post)))) (fun E => px E)
set_option maxHeartbeats 4000000 in
set_option maxRecDepth 100000 in
theorem mT_needSlots (l : Launch) (hlT : l.stackTraces = false) (sa : Nat → Nat) (dC : Nat → ClassId) (dI : Nat → Nat → Nat) (cA : ClassId) (a0 : Nat) (aR : Nat) (aM : Nat) (aW : Nat) (aP : Nat) (aS : Nat) (aC : Nat) (aO : Nat) (nW : Nat) (nE : Nat) (R : Nat → Int32) (f : Nat → Int32) (us : Int32) (P : Nat → Int32) (S : Nat → Int32) (sc : Int32) (li : Int32) (rc : Nat → Int32) (rn : Int32) (ro : Nat → Int32) (rd : Int32) (st : Int32) (a1 : Int32) (post : Prop) (px : String → Prop) (h : wqT_needSlots nW nE R f P a1 post px) : vx_Met l y_T_needSlots ws_T_needSlots ({ frames := 7, cells := 2, slots := 12, locals := 120 }) (xo_P (dC, dI) vwCl (TSw cA a0 aR aM aW aP aS aC aO nW nE R f us P S sc li rc rn ro rd st) [(cA, .int)] sa [.ref a0, .int a1]) (rq_v post) (rq_X px) 2 12 (fun _ => False) := by
  refine vx_ofW (cc := c_T_needSlots) (maxL := 2) (ret := none) (by decide) rfl ?_
  intro p e s m args below meth c s₁ B hml hEx hv
  obtain ⟨rfl, hP, hK, hXT⟩ := hv
  have hx := B.exec
  have hb := B.bytes
  have hr9 := B.returns
  have hts := atoms_spec (ws := ws_T_needSlots) B.pre
  have hw : ∀ w ∈ WB_, w.before _ s = true := fun w h => hts w (List.mem_cons_of_mem _ h)
  have hown : s.vm.findClass R_T = some m.cls := findClass_of_methodNamed B.named
  have hlocks := B.notSynchronized
  have hl := lv_entry ([.ref a0, .int a1]) (n := 2) (Nat.le_of_ble_eq_true rfl)
  rw [lg_entry_eq]
  generalize (lg_sl ([.ref a0, .int a1]) ++ List.replicate (2 - (lg_sl ([.ref a0, .int a1])).length) Slot.unset).toArray = ls at hl ⊢
  have hl : lv_has ls 2 [(0, .ref a0), (1, .int a1)] := hl
  unfold wqT_needSlots at h
  refine lv_iload_n hx hb d_T_needSlots_0 rfl (lv_at hl 1 rfl) ?_
  refine rx_callv (vx_runS (As := [.int a1]) (rest := []) ⟨hx, hb, hml, hown, hw⟩ (mT_needRegister l hlT sa a1 _ _ h) (va_cwS 1 hw g_T_27 rfl rfl rfl (by decide +kernel) ⟨Nat.le_of_ble_eq_true rfl, Nat.le_of_ble_eq_true rfl⟩) (xs_PS hXT) rfl rfl hl.1 rfl (lv_room (Nat.le_of_ble_eq_true rfl)) d_T_needSlots_1 ⟨Nat.le_of_ble_eq_true rfl, Nat.le_of_ble_eq_true rfl⟩) (fun E9 ce q9 H1 h hz hk hce hcv hcl => ?_) (fun h => ?_)
  · exact rq_out hEx hlocks h hz hk hce hcv hcl (Nat.le_of_ble_eq_true rfl) (Nat.le_of_ble_eq_true rfl)
  · refine lv_aload_n hx hb d_T_needSlots_4 rfl (lv_at hl 0 rfl) ?_
    refine va_get (D := (dC, dI)) (ci := 0) (v := .ref aM) (C := R_T) (T := T_T) (N := 2) hx hb hw in_T hown hK hP 0 rfl rfl 1 (by decide) (hw _ wd_104) (fun _ h9 => h9) rfl d_T_needSlots_5 ?_
    refine lv_aload_n hx hb d_T_needSlots_8 rfl (lv_at hl 0 rfl) ?_
    refine va_get (D := (dC, dI)) (ci := 0) (v := .ref aR) (C := R_T) (T := T_T) (N := 2) hx hb hw in_T hown hK hP 0 rfl rfl 0 (by decide) (hw _ wd_103) (fun _ h9 => h9) rfl d_T_needSlots_9 ?_
    refine lv_iload_n hx hb d_T_needSlots_12 rfl (lv_at hl 1 rfl) ?_
    refine va_iald hx hb hK hP 1 0 rfl rfl h.1 d_T_needSlots_13 ?_
    have h := h.2
    refine rq_calli (W.runV (As := [.int (R a1.toNatClampNeg)]) (rest := []) ⟨hx, hb, hml, hown, hw⟩ (mM_holdsSlots l dC dI cA a0 aR aM aW aP aS aC aO nW nE R f us P S sc li rc rn ro rd st (R a1.toNatClampNeg) _ h) (cwV 1 hw g_T_113 rfl rfl rfl (by decide +kernel) ⟨Nat.le_of_ble_eq_true rfl, Nat.le_of_ble_eq_true rfl⟩) (ro_PV (ci := 1) (q0 := 2) hK hP rfl rfl) rfl rfl hl.1 rfl (lv_room (Nat.le_of_ble_eq_true rfl)) d_T_needSlots_14 ⟨Nat.le_of_ble_eq_true rfl, Nat.le_of_ble_eq_true rfl⟩) (fun r14 h => ?_)
    refine lv_if_ne (tgt := 30) hx hb d_T_needSlots_17 (by decide) (fun c_17 => ?_) (fun c_17 => ?_)
    · have h := h.2 c_17
      refine W.widen (k := 2) (n := 12) (Nat.le_of_ble_eq_true rfl) (Nat.le_of_ble_eq_true rfl) ?_
      exact vx_ret (W.vret hx hb hr9 (fun t ht hW => ⟨rfl, h, ht⟩) (fun _ h9 => nomatch h9) d_T_needSlots_30)
    · have h := h.1 c_17
      exact vx_throwS (own := R_T) (cls := "java/lang/IllegalArgumentException") (text := "the register has no object of slots") (names := ["java/lang/RuntimeException", "java/lang/Exception"]) (A := fun _ => False) (sa := sa 3) hx hb hlT hown (by decide +kernel) (by decide +kernel) (hw _ wd_217) (hw _ wd_44) hXT.2.2.2.2.2.1 (vx_hat (fun w h9 => hw w (xa_T_161 w h9)) xa_T_161_n (vx_c (hXT.2.2.2.2.2.2.2.2.2.1 _) (vx_c (hXT.2.2.2.2.2.2.2.2.2.2.2.2.1 _) (vx_c (hXT.2.2.2.2.2.2.2.2.2.2.2.2.2.1 _) (vx_c (hXT.2.2.2.2.2.2.2.2.2.2.2.2.2.2 _) vx_n))))) (by decide +kernel) hXT.1 hXT.2.1 va_S.rf (hl.1.trans hml.symm) d_T_needSlots_20 d_T_needSlots_23 d_T_needSlots_24 d_T_needSlots_26 d_T_needSlots_29 (fun x hx => (hEx x hx).elim) (Nat.le_of_ble_eq_true rfl) (Nat.le_of_ble_eq_true rfl) (Nat.le_of_ble_eq_true rfl) (Nat.le_of_ble_eq_true rfl) hlocks (fun t hvm hz hk => ⟨h, hz, hk⟩) (fun _ h9 => nomatch h9) (Nat.le_of_ble_eq_true rfl) (Nat.le_of_ble_eq_true rfl)
def wqT_needBytes (nW : Nat) (nE : Nat) (R : Nat → Int32) (f : Nat → Int32) (P : Nat → Int32) (a1 : Int32) (post : Prop) (px : String → Prop) : Prop :=
  wqT_needRegister a1 (vp_in a1 32 ∧ (wqM_holdsBytes nW nE f P (R a1.toNatClampNeg) (fun r14 => (r14 = 0 → (px "java/lang/IllegalArgumentException")) ∧ (¬ (r14 = 0) → post)))) (fun E => px E)
set_option maxHeartbeats 4000000 in
set_option maxRecDepth 100000 in
theorem mT_needBytes (l : Launch) (hlT : l.stackTraces = false) (sa : Nat → Nat) (dC : Nat → ClassId) (dI : Nat → Nat → Nat) (cA : ClassId) (a0 : Nat) (aR : Nat) (aM : Nat) (aW : Nat) (aP : Nat) (aS : Nat) (aC : Nat) (aO : Nat) (nW : Nat) (nE : Nat) (R : Nat → Int32) (f : Nat → Int32) (us : Int32) (P : Nat → Int32) (S : Nat → Int32) (sc : Int32) (li : Int32) (rc : Nat → Int32) (rn : Int32) (ro : Nat → Int32) (rd : Int32) (st : Int32) (a1 : Int32) (post : Prop) (px : String → Prop) (h : wqT_needBytes nW nE R f P a1 post px) : vx_Met l y_T_needBytes ws_T_needBytes ({ frames := 7, cells := 2, slots := 12, locals := 120 }) (xo_P (dC, dI) vwCl (TSw cA a0 aR aM aW aP aS aC aO nW nE R f us P S sc li rc rn ro rd st) [(cA, .int)] sa [.ref a0, .int a1]) (rq_v post) (rq_X px) 2 12 (fun _ => False) := by
  refine vx_ofW (cc := c_T_needBytes) (maxL := 2) (ret := none) (by decide) rfl ?_
  intro p e s m args below meth c s₁ B hml hEx hv
  obtain ⟨rfl, hP, hK, hXT⟩ := hv
  have hx := B.exec
  have hb := B.bytes
  have hr9 := B.returns
  have hts := atoms_spec (ws := ws_T_needBytes) B.pre
  have hw : ∀ w ∈ WB_, w.before _ s = true := fun w h => hts w (List.mem_cons_of_mem _ h)
  have hown : s.vm.findClass R_T = some m.cls := findClass_of_methodNamed B.named
  have hlocks := B.notSynchronized
  have hl := lv_entry ([.ref a0, .int a1]) (n := 2) (Nat.le_of_ble_eq_true rfl)
  rw [lg_entry_eq]
  generalize (lg_sl ([.ref a0, .int a1]) ++ List.replicate (2 - (lg_sl ([.ref a0, .int a1])).length) Slot.unset).toArray = ls at hl ⊢
  have hl : lv_has ls 2 [(0, .ref a0), (1, .int a1)] := hl
  unfold wqT_needBytes at h
  refine lv_iload_n hx hb d_T_needBytes_0 rfl (lv_at hl 1 rfl) ?_
  refine rx_callv (vx_runS (As := [.int a1]) (rest := []) ⟨hx, hb, hml, hown, hw⟩ (mT_needRegister l hlT sa a1 _ _ h) (va_cwS 1 hw g_T_27 rfl rfl rfl (by decide +kernel) ⟨Nat.le_of_ble_eq_true rfl, Nat.le_of_ble_eq_true rfl⟩) (xs_PS hXT) rfl rfl hl.1 rfl (lv_room (Nat.le_of_ble_eq_true rfl)) d_T_needBytes_1 ⟨Nat.le_of_ble_eq_true rfl, Nat.le_of_ble_eq_true rfl⟩) (fun E9 ce q9 H1 h hz hk hce hcv hcl => ?_) (fun h => ?_)
  · exact rq_out hEx hlocks h hz hk hce hcv hcl (Nat.le_of_ble_eq_true rfl) (Nat.le_of_ble_eq_true rfl)
  · refine lv_aload_n hx hb d_T_needBytes_4 rfl (lv_at hl 0 rfl) ?_
    refine va_get (D := (dC, dI)) (ci := 0) (v := .ref aM) (C := R_T) (T := T_T) (N := 2) hx hb hw in_T hown hK hP 0 rfl rfl 1 (by decide) (hw _ wd_104) (fun _ h9 => h9) rfl d_T_needBytes_5 ?_
    refine lv_aload_n hx hb d_T_needBytes_8 rfl (lv_at hl 0 rfl) ?_
    refine va_get (D := (dC, dI)) (ci := 0) (v := .ref aR) (C := R_T) (T := T_T) (N := 2) hx hb hw in_T hown hK hP 0 rfl rfl 0 (by decide) (hw _ wd_103) (fun _ h9 => h9) rfl d_T_needBytes_9 ?_
    refine lv_iload_n hx hb d_T_needBytes_12 rfl (lv_at hl 1 rfl) ?_
    refine va_iald hx hb hK hP 1 0 rfl rfl h.1 d_T_needBytes_13 ?_
    have h := h.2
    refine rq_calli (W.runV (As := [.int (R a1.toNatClampNeg)]) (rest := []) ⟨hx, hb, hml, hown, hw⟩ (mM_holdsBytes l dC dI cA a0 aR aM aW aP aS aC aO nW nE R f us P S sc li rc rn ro rd st (R a1.toNatClampNeg) _ h) (cwV 1 hw g_T_148 rfl rfl rfl (by decide +kernel) ⟨Nat.le_of_ble_eq_true rfl, Nat.le_of_ble_eq_true rfl⟩) (ro_PV (ci := 1) (q0 := 2) hK hP rfl rfl) rfl rfl hl.1 rfl (lv_room (Nat.le_of_ble_eq_true rfl)) d_T_needBytes_14 ⟨Nat.le_of_ble_eq_true rfl, Nat.le_of_ble_eq_true rfl⟩) (fun r14 h => ?_)
    refine lv_if_ne (tgt := 30) hx hb d_T_needBytes_17 (by decide) (fun c_17 => ?_) (fun c_17 => ?_)
    · have h := h.2 c_17
      refine W.widen (k := 2) (n := 12) (Nat.le_of_ble_eq_true rfl) (Nat.le_of_ble_eq_true rfl) ?_
      exact vx_ret (W.vret hx hb hr9 (fun t ht hW => ⟨rfl, h, ht⟩) (fun _ h9 => nomatch h9) d_T_needBytes_30)
    · have h := h.1 c_17
      exact vx_throwS (own := R_T) (cls := "java/lang/IllegalArgumentException") (text := "the register has no object of bytes") (names := ["java/lang/RuntimeException", "java/lang/Exception"]) (A := fun _ => False) (sa := sa 4) hx hb hlT hown (by decide +kernel) (by decide +kernel) (hw _ wd_217) (hw _ wd_44) hXT.2.2.2.2.2.2.1 (vx_hat (fun w h9 => hw w (xa_T_161 w h9)) xa_T_161_n (vx_c (hXT.2.2.2.2.2.2.2.2.2.1 _) (vx_c (hXT.2.2.2.2.2.2.2.2.2.2.2.2.1 _) (vx_c (hXT.2.2.2.2.2.2.2.2.2.2.2.2.2.1 _) (vx_c (hXT.2.2.2.2.2.2.2.2.2.2.2.2.2.2 _) vx_n))))) (by decide +kernel) hXT.1 hXT.2.1 va_S.rf (hl.1.trans hml.symm) d_T_needBytes_20 d_T_needBytes_23 d_T_needBytes_24 d_T_needBytes_26 d_T_needBytes_29 (fun x hx => (hEx x hx).elim) (Nat.le_of_ble_eq_true rfl) (Nat.le_of_ble_eq_true rfl) (Nat.le_of_ble_eq_true rfl) (Nat.le_of_ble_eq_true rfl) hlocks (fun t hvm hz hk => ⟨h, hz, hk⟩) (fun _ h9 => nomatch h9) (Nat.le_of_ble_eq_true rfl) (Nat.le_of_ble_eq_true rfl)
def wqT_needIndex (nW : Nat) (nE : Nat) (R : Nat → Int32) (f : Nat → Int32) (P : Nat → Int32) (a1 : Int32) (a2 : Int32) (post : Prop) (px : String → Prop) : Prop :=
  vp_in a1 32 ∧ (wqM_count nW nE f P (R a1.toNatClampNeg) (fun r12 => wqT_isBetween a2 (0 : Int32) (r12 - (1 : Int32)) (fun r17 => (r17 = 0 → (px "java/lang/IndexOutOfBoundsException")) ∧ (¬ (r17 = 0) → post))))
set_option maxHeartbeats 4000000 in
set_option maxRecDepth 100000 in
theorem mT_needIndex (l : Launch) (hlT : l.stackTraces = false) (sa : Nat → Nat) (dC : Nat → ClassId) (dI : Nat → Nat → Nat) (cA : ClassId) (a0 : Nat) (aR : Nat) (aM : Nat) (aW : Nat) (aP : Nat) (aS : Nat) (aC : Nat) (aO : Nat) (nW : Nat) (nE : Nat) (R : Nat → Int32) (f : Nat → Int32) (us : Int32) (P : Nat → Int32) (S : Nat → Int32) (sc : Int32) (li : Int32) (rc : Nat → Int32) (rn : Int32) (ro : Nat → Int32) (rd : Int32) (st : Int32) (a1 : Int32) (a2 : Int32) (post : Prop) (px : String → Prop) (h : wqT_needIndex nW nE R f P a1 a2 post px) : vx_Met l y_T_needIndex ws_T_needIndex ({ frames := 6, cells := 1, slots := 6, locals := 100 }) (xo_P (dC, dI) vwCl (TSw cA a0 aR aM aW aP aS aC aO nW nE R f us P S sc li rc rn ro rd st) [(cA, .int)] sa [.ref a0, .int a1, .int a2]) (rq_v post) (rq_X px) 1 6 (fun _ => False) := by
  refine vx_ofW (cc := c_T_needIndex) (maxL := 3) (ret := none) (by decide) rfl ?_
  intro p e s m args below meth c s₁ B hml hEx hv
  obtain ⟨rfl, hP, hK, hXT⟩ := hv
  have hx := B.exec
  have hb := B.bytes
  have hr9 := B.returns
  have hts := atoms_spec (ws := ws_T_needIndex) B.pre
  have hw : ∀ w ∈ WB_, w.before _ s = true := fun w h => hts w (List.mem_cons_of_mem _ h)
  have hown : s.vm.findClass R_T = some m.cls := findClass_of_methodNamed B.named
  have hlocks := B.notSynchronized
  have hl := lv_entry ([.ref a0, .int a1, .int a2]) (n := 3) (Nat.le_of_ble_eq_true rfl)
  rw [lg_entry_eq]
  generalize (lg_sl ([.ref a0, .int a1, .int a2]) ++ List.replicate (3 - (lg_sl ([.ref a0, .int a1, .int a2])).length) Slot.unset).toArray = ls at hl ⊢
  have hl : lv_has ls 3 [(0, .ref a0), (1, .int a1), (2, .int a2)] := hl
  unfold wqT_needIndex at h
  refine lv_iload_n hx hb d_T_needIndex_0 rfl (lv_at hl 2 rfl) ?_
  refine lv_iconst (v := (0 : Int32)) hx hb d_T_needIndex_1 (by decide) ?_
  refine lv_aload_n hx hb d_T_needIndex_2 rfl (lv_at hl 0 rfl) ?_
  refine va_get (D := (dC, dI)) (ci := 0) (v := .ref aM) (C := R_T) (T := T_T) (N := 2) hx hb hw in_T hown hK hP 0 rfl rfl 1 (by decide) (hw _ wd_104) (fun _ h9 => h9) rfl d_T_needIndex_3 ?_
  refine lv_aload_n hx hb d_T_needIndex_6 rfl (lv_at hl 0 rfl) ?_
  refine va_get (D := (dC, dI)) (ci := 0) (v := .ref aR) (C := R_T) (T := T_T) (N := 2) hx hb hw in_T hown hK hP 0 rfl rfl 0 (by decide) (hw _ wd_103) (fun _ h9 => h9) rfl d_T_needIndex_7 ?_
  refine lv_iload_n hx hb d_T_needIndex_10 rfl (lv_at hl 1 rfl) ?_
  refine va_iald hx hb hK hP 1 0 rfl rfl h.1 d_T_needIndex_11 ?_
  have h := h.2
  refine rq_calli (W.runV (As := [.int (R a1.toNatClampNeg)]) (rest := [.int (0 : Int32), .int a2]) ⟨hx, hb, hml, hown, hw⟩ (mM_count l dC dI cA a0 aR aM aW aP aS aC aO nW nE R f us P S sc li rc rn ro rd st (R a1.toNatClampNeg) _ h) (cwV 1 hw g_T_98 rfl rfl rfl (by decide +kernel) ⟨Nat.le_of_ble_eq_true rfl, Nat.le_of_ble_eq_true rfl⟩) (ro_PV (ci := 1) (q0 := 2) hK hP rfl rfl) rfl rfl hl.1 rfl (lv_room (Nat.le_of_ble_eq_true rfl)) d_T_needIndex_12 ⟨Nat.le_of_ble_eq_true rfl, Nat.le_of_ble_eq_true rfl⟩) (fun r12 h => ?_)
  refine lv_iconst (v := (1 : Int32)) hx hb d_T_needIndex_15 (by decide) ?_
  refine lv_isub hx hb d_T_needIndex_16 ?_
  refine rq_calli (W.runS (As := [.int a2, .int (0 : Int32), .int (r12 - (1 : Int32))]) (rest := []) ⟨hx, hb, hml, hown, hw⟩ (mT_isBetween l a2 (0 : Int32) (r12 - (1 : Int32)) _ h) (va_cwS 3 hw g_T_16 rfl rfl rfl (by decide +kernel) ⟨Nat.le_of_ble_eq_true rfl, Nat.le_of_ble_eq_true rfl⟩) preEq rfl rfl hl.1 rfl (lv_room (Nat.le_of_ble_eq_true rfl)) d_T_needIndex_17 ⟨Nat.le_of_ble_eq_true rfl, Nat.le_of_ble_eq_true rfl⟩) (fun r17 h => ?_)
  refine lv_if_ne (tgt := 33) hx hb d_T_needIndex_20 (by decide) (fun c_20 => ?_) (fun c_20 => ?_)
  · have h := h.2 c_20
    refine W.widen (k := 1) (n := 6) (Nat.le_of_ble_eq_true rfl) (Nat.le_of_ble_eq_true rfl) ?_
    exact vx_ret (W.vret hx hb hr9 (fun t ht hW => ⟨rfl, h, ht⟩) (fun _ h9 => nomatch h9) d_T_needIndex_33)
  · have h := h.1 c_20
    exact vx_throwS (own := R_T) (cls := "java/lang/IndexOutOfBoundsException") (text := "the object has no such slot or byte") (names := ["java/lang/RuntimeException", "java/lang/Exception"]) (A := fun _ => False) (sa := sa 5) hx hb hlT hown (by decide +kernel) (by decide +kernel) (hw _ wd_429) (hw _ wd_49) hXT.2.2.2.2.2.2.2.1 (vx_hat (fun w h9 => hw w (xa_T_176 w h9)) xa_T_176_n (vx_c (hXT.2.2.2.2.2.2.2.2.2.2.1 _) (vx_c (hXT.2.2.2.2.2.2.2.2.2.2.2.2.1 _) (vx_c (hXT.2.2.2.2.2.2.2.2.2.2.2.2.2.1 _) (vx_c (hXT.2.2.2.2.2.2.2.2.2.2.2.2.2.2 _) vx_n))))) (by decide +kernel) hXT.1 hXT.2.1 va_S.rf (hl.1.trans hml.symm) d_T_needIndex_23 d_T_needIndex_26 d_T_needIndex_27 d_T_needIndex_29 d_T_needIndex_32 (fun x hx => (hEx x hx).elim) (Nat.le_of_ble_eq_true rfl) (Nat.le_of_ble_eq_true rfl) (Nat.le_of_ble_eq_true rfl) (Nat.le_of_ble_eq_true rfl) hlocks (fun t hvm hz hk => ⟨h, hz, hk⟩) (fun _ h9 => nomatch h9) (Nat.le_of_ble_eq_true rfl) (Nat.le_of_ble_eq_true rfl)
def wqT_setRegister (nW : Nat) (nE : Nat) (R : Nat → Int32) (st : Int32) (a1 : Int32) (a2 : Int32) (post : (Nat → Int32) → Int32 → Prop) : Prop :=
  vp_in a1 32 ∧ (wqM_letGo nW nE st (R a1.toNatClampNeg) (fun st_10 => vp_in a1 32 ∧ (post (upd R a1.toNatClampNeg a2) st_10)))
set_option maxHeartbeats 4000000 in
set_option maxRecDepth 100000 in
theorem mT_setRegister (l : Launch) (dC : Nat → ClassId) (dI : Nat → Nat → Nat) (cA : ClassId) (a0 : Nat) (aR : Nat) (aM : Nat) (aW : Nat) (aP : Nat) (aS : Nat) (aC : Nat) (aO : Nat) (nW : Nat) (nE : Nat) (sz : Nat) (R : Nat → Int32) (f : Nat → Int32) (us : Int32) (P : Nat → Int32) (S : Nat → Int32) (sc : Int32) (li : Int32) (rc : Nat → Int32) (rn : Int32) (ro : Nat → Int32) (rd : Int32) (st : Int32) (a1 : Int32) (a2 : Int32) (post : (Nat → Int32) → Int32 → Prop) (h : wqT_setRegister nW nE R st a1 a2 post) : Met l y_T_setRegister ws_T_setRegister ({ frames := 2, cells := 0, slots := 0, locals := 41 }) (rw_P (dC, dI) vwCl (TSw cA a0 aR aM aW aP aS aC aO nW nE R f us P S sc li rc rn ro rd st) [(cA, .int)] sz [.ref a0, .int a1, .int a2]) (va_Qv (fun u : (Nat → Int32) × Int32 => post u.1 u.2) (rw_B (dC, dI) vwCl [(cA, .int)] (va_A (TSw cA a0 aR aM aW aP aS aC aO nW nE R f us P S sc li rc rn ro rd st) sz) (fun u : (Nat → Int32) × Int32 => TSw cA a0 aR aM aW aP aS aC aO nW nE u.1 f us P S sc li rc rn ro rd u.2)) (va_A (TSw cA a0 aR aM aW aP aS aC aO nW nE R f us P S sc li rc rn ro rd st) sz)) 0 0 (va_A (TSw cA a0 aR aM aW aP aS aC aO nW nE R f us P S sc li rc rn ro rd st) sz) := by
  refine Met.ofW (cc := c_T_setRegister) (maxL := 3) (ret := none) (by decide) rfl ?_
  intro p e s m args below meth c s₁ B hml hv
  obtain ⟨rfl, hsz, hP, hK, hD0⟩ := hv
  have hx := B.exec
  have hb := B.bytes
  have hr9 := B.returns
  have hts := atoms_spec (ws := ws_T_setRegister) B.pre
  have hw : ∀ w ∈ WB_, w.before _ s = true := fun w h => hts w (List.mem_cons_of_mem _ h)
  have hown : s.vm.findClass R_T = some m.cls := findClass_of_methodNamed B.named
  have hlocks := B.notSynchronized
  subst hsz
  have hD := hD0.self (sz := s.heap.size)
  generalize hAe : va_A (TSw cA a0 aR aM aW aP aS aC aO nW nE R f us P S sc li rc rn ro rd st) s.heap.size = A at hD ⊢
  have hA : ∀ q : Nat, s.heap.size ≤ q → A q := fun q h => by rw [← hAe]; exact Or.inr h
  have hS : va_S A s.heap s.heap [] := va_S.rf
  have hl := lv_entry ([.ref a0, .int a1, .int a2]) (n := 3) (Nat.le_of_ble_eq_true rfl)
  rw [lg_entry_eq]
  generalize (lg_sl ([.ref a0, .int a1, .int a2]) ++ List.replicate (3 - (lg_sl ([.ref a0, .int a1, .int a2])).length) Slot.unset).toArray = ls at hl ⊢
  have hl : lv_has ls 3 [(0, .ref a0), (1, .int a1), (2, .int a2)] := hl
  unfold wqT_setRegister at h
  refine lv_aload_n hx hb d_T_setRegister_0 rfl (lv_at hl 0 rfl) ?_
  refine va_get (D := (dC, dI)) (ci := 0) (v := .ref aM) (C := R_T) (T := T_T) (N := 2) hx hb hw in_T hown hK hP 0 rfl rfl 1 (by decide) (hw _ wd_104) (fun _ h9 => h9) rfl d_T_setRegister_1 ?_
  refine lv_aload_n hx hb d_T_setRegister_4 rfl (lv_at hl 0 rfl) ?_
  refine va_get (D := (dC, dI)) (ci := 0) (v := .ref aR) (C := R_T) (T := T_T) (N := 2) hx hb hw in_T hown hK hP 0 rfl rfl 0 (by decide) (hw _ wd_103) (fun _ h9 => h9) rfl d_T_setRegister_5 ?_
  refine lv_iload_n hx hb d_T_setRegister_8 rfl (lv_at hl 1 rfl) ?_
  refine va_iald hx hb hK hP 1 0 rfl rfl h.1 d_T_setRegister_9 ?_
  have h := h.2
  have hFc := va_free (wc := TSw cA a0 aR aM aW aP aS aC aO nW nE R f us P S sc li rc rn ro rd st) hD hS hA [0, 1, 2, 3, 4, 5, 6, 7] rfl
  refine va_callv (va_runV (As := [.int (R a1.toNatClampNeg)]) (rest := []) ⟨hx, hb, hml, hown, hw⟩ (mM_letGo l dC dI cA a0 aR aM aW aP aS aC aO nW nE s.heap.size R f us P S sc li rc rn ro rd st (R a1.toNatClampNeg) _ h) (cwV 1 hw g_T_154 rfl rfl rfl (by decide +kernel) ⟨Nat.le_of_ble_eq_true rfl, Nat.le_of_ble_eq_true rfl⟩) (rw_PV (ci := 1) (q0 := 2) hK hP hD rfl rfl) rfl rfl hl.1 rfl (lv_room (Nat.le_of_ble_eq_true rfl)) d_T_setRegister_10 ⟨Nat.le_of_ble_eq_true rfl, Nat.le_of_ble_eq_true rfl⟩) hS (fun q _ h => hFc q h) hFc (fun u t H locs ht hvm h hB hz1 hk1 hS => ?_)
  obtain ⟨st_10, rfl⟩ : ∃ z, z = u := ⟨_, rfl⟩
  obtain ⟨hP, hK1, hD1⟩ := hB
  rw [ht] at hP
  have hD := hD1.weaken (fun _ _ _ q => hFc _ q)
  clear hFc hD1 hK1
  try dsimp only at h
  have hP : va_P (dC, dI) vwCl (TSw cA a0 aR aM aW aP aS aC aO nW nE R f us P S sc li rc rn ro rd st_10) H := hP
  have hD : va_D A (TSw cA a0 aR aM aW aP aS aC aO nW nE R f us P S sc li rc rn ro rd st_10) := hD
  refine lv_aload_n hx hb d_T_setRegister_13 rfl (lv_at hl 0 rfl) ?_
  refine va_get (D := (dC, dI)) (ci := 0) (v := .ref aR) (C := R_T) (T := T_T) (N := 2) hx hb hw in_T hown hK hP 0 rfl rfl 0 (by decide) (hw _ wd_103) (fun _ h9 => h9) rfl d_T_setRegister_14 ?_
  refine lv_iload_n hx hb d_T_setRegister_17 rfl (lv_at hl 1 rfl) ?_
  refine lv_iload_n hx hb d_T_setRegister_18 rfl (lv_at hl 2 rfl) ?_
  refine va_iast hx hb hK hP hD hS 1 0 rfl rfl h.1 d_T_setRegister_19 (fun H locs hP hD hS => ?_)
  have hP : va_P (dC, dI) vwCl (TSw cA a0 aR aM aW aP aS aC aO nW nE (upd R a1.toNatClampNeg a2) f us P S sc li rc rn ro rd st_10) H := hP
  have hD : va_D A (TSw cA a0 aR aM aW aP aS aC aO nW nE (upd R a1.toNatClampNeg a2) f us P S sc li rc rn ro rd st_10) := hD
  have h := h.2
  exact W.vret hx hb hr9 (fun t ht hW => ⟨⟨(upd R a1.toNatClampNeg a2, st_10), rfl, h, by rw [ht]; exact hP, va_K.moved hW.alike hK, hD⟩, hS.F ht⟩) hS.2.2 d_T_setRegister_20
def wqT_number (nW : Nat) (nE : Nat) (R : Nat → Int32) (st : Int32) (a1 : Int32) (a2 : Int32) (post : (Nat → Int32) → Int32 → Prop) (px : String → (Nat → Int32) → Int32 → Prop) : Prop :=
  wqT_needRegister a1 (wqT_needBetween a2 (-1073741824 : Int32) (1073741823 : Int32) (wqV_ofNumber a2 (fun r15 => wqT_setRegister nW nE R st a1 r15 (fun R_18 st_18 => post R_18 st_18))) (fun E => px E R st)) (fun E => px E R st)
set_option maxHeartbeats 4000000 in
set_option maxRecDepth 100000 in
theorem mT_number (l : Launch) (hlT : l.stackTraces = false) (sa : Nat → Nat) (dC : Nat → ClassId) (dI : Nat → Nat → Nat) (cA : ClassId) (a0 : Nat) (aR : Nat) (aM : Nat) (aW : Nat) (aP : Nat) (aS : Nat) (aC : Nat) (aO : Nat) (nW : Nat) (nE : Nat) (sz : Nat) (R : Nat → Int32) (f : Nat → Int32) (us : Int32) (P : Nat → Int32) (S : Nat → Int32) (sc : Int32) (li : Int32) (rc : Nat → Int32) (rn : Int32) (ro : Nat → Int32) (rd : Int32) (st : Int32) (a1 : Int32) (a2 : Int32) (post : (Nat → Int32) → Int32 → Prop) (px : String → (Nat → Int32) → Int32 → Prop) (h : wqT_number nW nE R st a1 a2 post px) : vx_Met l y_T_number ws_T_number ({ frames := 7, cells := 2, slots := 12, locals := 122 }) (xw_P (dC, dI) vwCl (TSw cA a0 aR aM aW aP aS aC aO nW nE R f us P S sc li rc rn ro rd st) [(cA, .int)] sz sa [.ref a0, .int a1, .int a2]) (va_Qv (fun u : (Nat → Int32) × Int32 => post u.1 u.2) (rw_B (dC, dI) vwCl [(cA, .int)] (va_A (TSw cA a0 aR aM aW aP aS aC aO nW nE R f us P S sc li rc rn ro rd st) sz) (fun u : (Nat → Int32) × Int32 => TSw cA a0 aR aM aW aP aS aC aO nW nE u.1 f us P S sc li rc rn ro rd u.2)) (va_A (TSw cA a0 aR aM aW aP aS aC aO nW nE R f us P S sc li rc rn ro rd st) sz)) (rw_X (dC, dI) vwCl [(cA, .int)] (va_A (TSw cA a0 aR aM aW aP aS aC aO nW nE R f us P S sc li rc rn ro rd st) sz) (fun u : (Nat → Int32) × Int32 => TSw cA a0 aR aM aW aP aS aC aO nW nE u.1 f us P S sc li rc rn ro rd u.2) (fun (E : String) (u : (Nat → Int32) × Int32) => px E u.1 u.2)) 2 12 (va_A (TSw cA a0 aR aM aW aP aS aC aO nW nE R f us P S sc li rc rn ro rd st) sz) := by
  refine vx_ofW (cc := c_T_number) (maxL := 3) (ret := none) (by decide) rfl ?_
  intro p e s m args below meth c s₁ B hml hEx hv
  obtain ⟨rfl, hsz, hP, hK, hD0, hXT⟩ := hv
  have hx := B.exec
  have hb := B.bytes
  have hr9 := B.returns
  have hts := atoms_spec (ws := ws_T_number) B.pre
  have hw : ∀ w ∈ WB_, w.before _ s = true := fun w h => hts w (List.mem_cons_of_mem _ h)
  have hown : s.vm.findClass R_T = some m.cls := findClass_of_methodNamed B.named
  have hlocks := B.notSynchronized
  subst hsz
  have hD := hD0.self (sz := s.heap.size)
  generalize hAe : va_A (TSw cA a0 aR aM aW aP aS aC aO nW nE R f us P S sc li rc rn ro rd st) s.heap.size = A at hD hXT ⊢
  have hA : ∀ q : Nat, s.heap.size ≤ q → A q := fun q h => by rw [← hAe]; exact Or.inr h
  have hS : va_S A s.heap s.heap [] := va_S.rf
  have hl := lv_entry ([.ref a0, .int a1, .int a2]) (n := 3) (Nat.le_of_ble_eq_true rfl)
  rw [lg_entry_eq]
  generalize (lg_sl ([.ref a0, .int a1, .int a2]) ++ List.replicate (3 - (lg_sl ([.ref a0, .int a1, .int a2])).length) Slot.unset).toArray = ls at hl ⊢
  have hl : lv_has ls 3 [(0, .ref a0), (1, .int a1), (2, .int a2)] := hl
  unfold wqT_number at h
  refine lv_iload_n hx hb d_T_number_0 rfl (lv_at hl 1 rfl) ?_
  refine rx_callv (vx_runS (As := [.int a1]) (rest := []) ⟨hx, hb, hml, hown, hw⟩ (mT_needRegister l hlT sa a1 _ _ h) (va_cwS 1 hw g_T_27 rfl rfl rfl (by decide +kernel) ⟨Nat.le_of_ble_eq_true rfl, Nat.le_of_ble_eq_true rfl⟩) (xs_PS (xt_at hXT hS)) rfl rfl hl.1 rfl (lv_room (Nat.le_of_ble_eq_true rfl)) d_T_number_1 ⟨Nat.le_of_ble_eq_true rfl, Nat.le_of_ble_eq_true rfl⟩) (fun E9 ce q9 H1 h hz hk hce hcv hcl => ?_) (fun h => ?_)
  · exact rx_out (R, st) rfl hEx hlocks hK hP hD hS h hz hk hce hcv hcl (Nat.le_of_ble_eq_true rfl) (Nat.le_of_ble_eq_true rfl)
  · refine lv_iload_n hx hb d_T_number_4 rfl (lv_at hl 2 rfl) ?_
    refine lv_ldc (v := (-1073741824 : Int32)) hx hb hown (hw _ wd_285) d_T_number_5 ?_
    refine lv_ldc (v := (1073741823 : Int32)) hx hb hown (hw _ wd_286) d_T_number_7 ?_
    refine rx_callv (vx_runS (As := [.int a2, .int (-1073741824 : Int32), .int (1073741823 : Int32)]) (rest := []) ⟨hx, hb, hml, hown, hw⟩ (mT_needBetween l hlT sa a2 (-1073741824 : Int32) (1073741823 : Int32) _ _ h) (va_cwS 3 hw g_T_33 rfl rfl rfl (by decide +kernel) ⟨Nat.le_of_ble_eq_true rfl, Nat.le_of_ble_eq_true rfl⟩) (xs_PS (xt_at hXT hS)) rfl rfl hl.1 rfl (lv_room (Nat.le_of_ble_eq_true rfl)) d_T_number_9 ⟨Nat.le_of_ble_eq_true rfl, Nat.le_of_ble_eq_true rfl⟩) (fun E9 ce q9 H1 h hz hk hce hcv hcl => ?_) (fun h => ?_)
    · exact rx_out (R, st) rfl hEx hlocks hK hP hD hS h hz hk hce hcv hcl (Nat.le_of_ble_eq_true rfl) (Nat.le_of_ble_eq_true rfl)
    · refine lv_aload_n hx hb d_T_number_12 rfl (lv_at hl 0 rfl) ?_
      refine lv_iload_n hx hb d_T_number_13 rfl (lv_at hl 1 rfl) ?_
      refine lv_iload_n hx hb d_T_number_14 rfl (lv_at hl 2 rfl) ?_
      refine rq_calli (W.runS (As := [.int a2]) (rest := [.int a1, .ref a0]) ⟨hx, hb, hml, hown, hw⟩ (mV_ofNumber l a2 _ h) (va_cwS 1 hw g_T_37 rfl rfl rfl (by decide +kernel) ⟨Nat.le_of_ble_eq_true rfl, Nat.le_of_ble_eq_true rfl⟩) preEq rfl rfl hl.1 rfl (lv_room (Nat.le_of_ble_eq_true rfl)) d_T_number_15 ⟨Nat.le_of_ble_eq_true rfl, Nat.le_of_ble_eq_true rfl⟩) (fun r15 h => ?_)
      have hFc := va_free (wc := TSw cA a0 aR aM aW aP aS aC aO nW nE R f us P S sc li rc rn ro rd st) hD hS hA [0, 1, 2, 3, 4, 5, 6, 7] rfl
      refine va_callv (va_runV (As := [.int a1, .int r15]) (rest := []) ⟨hx, hb, hml, hown, hw⟩ (mT_setRegister l dC dI cA a0 aR aM aW aP aS aC aO nW nE s.heap.size R f us P S sc li rc rn ro rd st a1 r15 _ h) (cwV 2 hw g_T_43 rfl rfl rfl (by decide +kernel) ⟨Nat.le_of_ble_eq_true rfl, Nat.le_of_ble_eq_true rfl⟩) (rw_PV (ci := 0) (q0 := 0) hK hP hD rfl rfl) rfl rfl hl.1 rfl (lv_room (Nat.le_of_ble_eq_true rfl)) d_T_number_18 ⟨Nat.le_of_ble_eq_true rfl, Nat.le_of_ble_eq_true rfl⟩) hS (fun q _ h => hFc q h) hFc (fun u t H locs ht hvm h hB hz1 hk1 hS => ?_)
      obtain ⟨R_18, st_18⟩ := u
      obtain ⟨hP, hK1, hD1⟩ := hB
      rw [ht] at hP
      have hD := hD1.weaken (fun _ _ _ q => hFc _ q)
      clear hFc hD1 hK1
      try dsimp only at h
      have hP : va_P (dC, dI) vwCl (TSw cA a0 aR aM aW aP aS aC aO nW nE R_18 f us P S sc li rc rn ro rd st_18) H := hP
      have hD : va_D A (TSw cA a0 aR aM aW aP aS aC aO nW nE R_18 f us P S sc li rc rn ro rd st_18) := hD
      refine W.widen (k := 2) (n := 12) (Nat.le_of_ble_eq_true rfl) (Nat.le_of_ble_eq_true rfl) ?_
      exact vx_ret (W.vret hx hb hr9 (fun t ht hW => ⟨⟨(R_18, st_18), rfl, h, by rw [ht]; exact hP, va_K.moved hW.alike hK, hD⟩, hS.F ht⟩) hS.2.2 d_T_number_21)
def wqT_move (nW : Nat) (nE : Nat) (R : Nat → Int32) (st : Int32) (a1 : Int32) (a2 : Int32) (post : (Nat → Int32) → Int32 → Prop) (px : String → (Nat → Int32) → Int32 → Prop) : Prop :=
  wqT_needRegister a1 (wqT_needRegister a2 (vp_in a2 32 ∧ (wqT_setRegister nW nE R st a1 (R a2.toNatClampNeg) (fun R_16 st_16 => post R_16 st_16))) (fun E => px E R st)) (fun E => px E R st)
set_option maxHeartbeats 4000000 in
set_option maxRecDepth 100000 in
theorem mT_move (l : Launch) (hlT : l.stackTraces = false) (sa : Nat → Nat) (dC : Nat → ClassId) (dI : Nat → Nat → Nat) (cA : ClassId) (a0 : Nat) (aR : Nat) (aM : Nat) (aW : Nat) (aP : Nat) (aS : Nat) (aC : Nat) (aO : Nat) (nW : Nat) (nE : Nat) (sz : Nat) (R : Nat → Int32) (f : Nat → Int32) (us : Int32) (P : Nat → Int32) (S : Nat → Int32) (sc : Int32) (li : Int32) (rc : Nat → Int32) (rn : Int32) (ro : Nat → Int32) (rd : Int32) (st : Int32) (a1 : Int32) (a2 : Int32) (post : (Nat → Int32) → Int32 → Prop) (px : String → (Nat → Int32) → Int32 → Prop) (h : wqT_move nW nE R st a1 a2 post px) : vx_Met l y_T_move ws_T_move ({ frames := 7, cells := 2, slots := 12, locals := 120 }) (xw_P (dC, dI) vwCl (TSw cA a0 aR aM aW aP aS aC aO nW nE R f us P S sc li rc rn ro rd st) [(cA, .int)] sz sa [.ref a0, .int a1, .int a2]) (va_Qv (fun u : (Nat → Int32) × Int32 => post u.1 u.2) (rw_B (dC, dI) vwCl [(cA, .int)] (va_A (TSw cA a0 aR aM aW aP aS aC aO nW nE R f us P S sc li rc rn ro rd st) sz) (fun u : (Nat → Int32) × Int32 => TSw cA a0 aR aM aW aP aS aC aO nW nE u.1 f us P S sc li rc rn ro rd u.2)) (va_A (TSw cA a0 aR aM aW aP aS aC aO nW nE R f us P S sc li rc rn ro rd st) sz)) (rw_X (dC, dI) vwCl [(cA, .int)] (va_A (TSw cA a0 aR aM aW aP aS aC aO nW nE R f us P S sc li rc rn ro rd st) sz) (fun u : (Nat → Int32) × Int32 => TSw cA a0 aR aM aW aP aS aC aO nW nE u.1 f us P S sc li rc rn ro rd u.2) (fun (E : String) (u : (Nat → Int32) × Int32) => px E u.1 u.2)) 2 12 (va_A (TSw cA a0 aR aM aW aP aS aC aO nW nE R f us P S sc li rc rn ro rd st) sz) := by
  refine vx_ofW (cc := c_T_move) (maxL := 3) (ret := none) (by decide) rfl ?_
  intro p e s m args below meth c s₁ B hml hEx hv
  obtain ⟨rfl, hsz, hP, hK, hD0, hXT⟩ := hv
  have hx := B.exec
  have hb := B.bytes
  have hr9 := B.returns
  have hts := atoms_spec (ws := ws_T_move) B.pre
  have hw : ∀ w ∈ WB_, w.before _ s = true := fun w h => hts w (List.mem_cons_of_mem _ h)
  have hown : s.vm.findClass R_T = some m.cls := findClass_of_methodNamed B.named
  have hlocks := B.notSynchronized
  subst hsz
  have hD := hD0.self (sz := s.heap.size)
  generalize hAe : va_A (TSw cA a0 aR aM aW aP aS aC aO nW nE R f us P S sc li rc rn ro rd st) s.heap.size = A at hD hXT ⊢
  have hA : ∀ q : Nat, s.heap.size ≤ q → A q := fun q h => by rw [← hAe]; exact Or.inr h
  have hS : va_S A s.heap s.heap [] := va_S.rf
  have hl := lv_entry ([.ref a0, .int a1, .int a2]) (n := 3) (Nat.le_of_ble_eq_true rfl)
  rw [lg_entry_eq]
  generalize (lg_sl ([.ref a0, .int a1, .int a2]) ++ List.replicate (3 - (lg_sl ([.ref a0, .int a1, .int a2])).length) Slot.unset).toArray = ls at hl ⊢
  have hl : lv_has ls 3 [(0, .ref a0), (1, .int a1), (2, .int a2)] := hl
  unfold wqT_move at h
  refine lv_iload_n hx hb d_T_move_0 rfl (lv_at hl 1 rfl) ?_
  refine rx_callv (vx_runS (As := [.int a1]) (rest := []) ⟨hx, hb, hml, hown, hw⟩ (mT_needRegister l hlT sa a1 _ _ h) (va_cwS 1 hw g_T_27 rfl rfl rfl (by decide +kernel) ⟨Nat.le_of_ble_eq_true rfl, Nat.le_of_ble_eq_true rfl⟩) (xs_PS (xt_at hXT hS)) rfl rfl hl.1 rfl (lv_room (Nat.le_of_ble_eq_true rfl)) d_T_move_1 ⟨Nat.le_of_ble_eq_true rfl, Nat.le_of_ble_eq_true rfl⟩) (fun E9 ce q9 H1 h hz hk hce hcv hcl => ?_) (fun h => ?_)
  · exact rx_out (R, st) rfl hEx hlocks hK hP hD hS h hz hk hce hcv hcl (Nat.le_of_ble_eq_true rfl) (Nat.le_of_ble_eq_true rfl)
  · refine lv_iload_n hx hb d_T_move_4 rfl (lv_at hl 2 rfl) ?_
    refine rx_callv (vx_runS (As := [.int a2]) (rest := []) ⟨hx, hb, hml, hown, hw⟩ (mT_needRegister l hlT sa a2 _ _ h) (va_cwS 1 hw g_T_27 rfl rfl rfl (by decide +kernel) ⟨Nat.le_of_ble_eq_true rfl, Nat.le_of_ble_eq_true rfl⟩) (xs_PS (xt_at hXT hS)) rfl rfl hl.1 rfl (lv_room (Nat.le_of_ble_eq_true rfl)) d_T_move_5 ⟨Nat.le_of_ble_eq_true rfl, Nat.le_of_ble_eq_true rfl⟩) (fun E9 ce q9 H1 h hz hk hce hcv hcl => ?_) (fun h => ?_)
    · exact rx_out (R, st) rfl hEx hlocks hK hP hD hS h hz hk hce hcv hcl (Nat.le_of_ble_eq_true rfl) (Nat.le_of_ble_eq_true rfl)
    · refine lv_aload_n hx hb d_T_move_8 rfl (lv_at hl 0 rfl) ?_
      refine lv_iload_n hx hb d_T_move_9 rfl (lv_at hl 1 rfl) ?_
      refine lv_aload_n hx hb d_T_move_10 rfl (lv_at hl 0 rfl) ?_
      refine va_get (D := (dC, dI)) (ci := 0) (v := .ref aR) (C := R_T) (T := T_T) (N := 2) hx hb hw in_T hown hK hP 0 rfl rfl 0 (by decide) (hw _ wd_103) (fun _ h9 => h9) rfl d_T_move_11 ?_
      refine lv_iload_n hx hb d_T_move_14 rfl (lv_at hl 2 rfl) ?_
      refine va_iald hx hb hK hP 1 0 rfl rfl h.1 d_T_move_15 ?_
      have h := h.2
      have hFc := va_free (wc := TSw cA a0 aR aM aW aP aS aC aO nW nE R f us P S sc li rc rn ro rd st) hD hS hA [0, 1, 2, 3, 4, 5, 6, 7] rfl
      refine va_callv (va_runV (As := [.int a1, .int (R a2.toNatClampNeg)]) (rest := []) ⟨hx, hb, hml, hown, hw⟩ (mT_setRegister l dC dI cA a0 aR aM aW aP aS aC aO nW nE s.heap.size R f us P S sc li rc rn ro rd st a1 (R a2.toNatClampNeg) _ h) (cwV 2 hw g_T_43 rfl rfl rfl (by decide +kernel) ⟨Nat.le_of_ble_eq_true rfl, Nat.le_of_ble_eq_true rfl⟩) (rw_PV (ci := 0) (q0 := 0) hK hP hD rfl rfl) rfl rfl hl.1 rfl (lv_room (Nat.le_of_ble_eq_true rfl)) d_T_move_16 ⟨Nat.le_of_ble_eq_true rfl, Nat.le_of_ble_eq_true rfl⟩) hS (fun q _ h => hFc q h) hFc (fun u t H locs ht hvm h hB hz1 hk1 hS => ?_)
      obtain ⟨R_16, st_16⟩ := u
      obtain ⟨hP, hK1, hD1⟩ := hB
      rw [ht] at hP
      have hD := hD1.weaken (fun _ _ _ q => hFc _ q)
      clear hFc hD1 hK1
      try dsimp only at h
      have hP : va_P (dC, dI) vwCl (TSw cA a0 aR aM aW aP aS aC aO nW nE R_16 f us P S sc li rc rn ro rd st_16) H := hP
      have hD : va_D A (TSw cA a0 aR aM aW aP aS aC aO nW nE R_16 f us P S sc li rc rn ro rd st_16) := hD
      refine W.widen (k := 2) (n := 12) (Nat.le_of_ble_eq_true rfl) (Nat.le_of_ble_eq_true rfl) ?_
      exact vx_ret (W.vret hx hb hr9 (fun t ht hW => ⟨⟨(R_16, st_16), rfl, h, by rw [ht]; exact hP, va_K.moved hW.alike hK, hD⟩, hS.F ht⟩) hS.2.2 d_T_move_19)
def wqT_clear (nW : Nat) (nE : Nat) (R : Nat → Int32) (st : Int32) (a1 : Int32) (post : (Nat → Int32) → Int32 → Prop) (px : String → (Nat → Int32) → Int32 → Prop) : Prop :=
  wqT_needRegister a1 (wqT_setRegister nW nE R st a1 (0 : Int32) (fun R_7 st_7 => post R_7 st_7)) (fun E => px E R st)
set_option maxHeartbeats 4000000 in
set_option maxRecDepth 100000 in
theorem mT_clear (l : Launch) (hlT : l.stackTraces = false) (sa : Nat → Nat) (dC : Nat → ClassId) (dI : Nat → Nat → Nat) (cA : ClassId) (a0 : Nat) (aR : Nat) (aM : Nat) (aW : Nat) (aP : Nat) (aS : Nat) (aC : Nat) (aO : Nat) (nW : Nat) (nE : Nat) (sz : Nat) (R : Nat → Int32) (f : Nat → Int32) (us : Int32) (P : Nat → Int32) (S : Nat → Int32) (sc : Int32) (li : Int32) (rc : Nat → Int32) (rn : Int32) (ro : Nat → Int32) (rd : Int32) (st : Int32) (a1 : Int32) (post : (Nat → Int32) → Int32 → Prop) (px : String → (Nat → Int32) → Int32 → Prop) (h : wqT_clear nW nE R st a1 post px) : vx_Met l y_T_clear ws_T_clear ({ frames := 7, cells := 1, slots := 6, locals := 120 }) (xw_P (dC, dI) vwCl (TSw cA a0 aR aM aW aP aS aC aO nW nE R f us P S sc li rc rn ro rd st) [(cA, .int)] sz sa [.ref a0, .int a1]) (va_Qv (fun u : (Nat → Int32) × Int32 => post u.1 u.2) (rw_B (dC, dI) vwCl [(cA, .int)] (va_A (TSw cA a0 aR aM aW aP aS aC aO nW nE R f us P S sc li rc rn ro rd st) sz) (fun u : (Nat → Int32) × Int32 => TSw cA a0 aR aM aW aP aS aC aO nW nE u.1 f us P S sc li rc rn ro rd u.2)) (va_A (TSw cA a0 aR aM aW aP aS aC aO nW nE R f us P S sc li rc rn ro rd st) sz)) (rw_X (dC, dI) vwCl [(cA, .int)] (va_A (TSw cA a0 aR aM aW aP aS aC aO nW nE R f us P S sc li rc rn ro rd st) sz) (fun u : (Nat → Int32) × Int32 => TSw cA a0 aR aM aW aP aS aC aO nW nE u.1 f us P S sc li rc rn ro rd u.2) (fun (E : String) (u : (Nat → Int32) × Int32) => px E u.1 u.2)) 1 6 (va_A (TSw cA a0 aR aM aW aP aS aC aO nW nE R f us P S sc li rc rn ro rd st) sz) := by
  refine vx_ofW (cc := c_T_clear) (maxL := 2) (ret := none) (by decide) rfl ?_
  intro p e s m args below meth c s₁ B hml hEx hv
  obtain ⟨rfl, hsz, hP, hK, hD0, hXT⟩ := hv
  have hx := B.exec
  have hb := B.bytes
  have hr9 := B.returns
  have hts := atoms_spec (ws := ws_T_clear) B.pre
  have hw : ∀ w ∈ WB_, w.before _ s = true := fun w h => hts w (List.mem_cons_of_mem _ h)
  have hown : s.vm.findClass R_T = some m.cls := findClass_of_methodNamed B.named
  have hlocks := B.notSynchronized
  subst hsz
  have hD := hD0.self (sz := s.heap.size)
  generalize hAe : va_A (TSw cA a0 aR aM aW aP aS aC aO nW nE R f us P S sc li rc rn ro rd st) s.heap.size = A at hD hXT ⊢
  have hA : ∀ q : Nat, s.heap.size ≤ q → A q := fun q h => by rw [← hAe]; exact Or.inr h
  have hS : va_S A s.heap s.heap [] := va_S.rf
  have hl := lv_entry ([.ref a0, .int a1]) (n := 2) (Nat.le_of_ble_eq_true rfl)
  rw [lg_entry_eq]
  generalize (lg_sl ([.ref a0, .int a1]) ++ List.replicate (2 - (lg_sl ([.ref a0, .int a1])).length) Slot.unset).toArray = ls at hl ⊢
  have hl : lv_has ls 2 [(0, .ref a0), (1, .int a1)] := hl
  unfold wqT_clear at h
  refine lv_iload_n hx hb d_T_clear_0 rfl (lv_at hl 1 rfl) ?_
  refine rx_callv (vx_runS (As := [.int a1]) (rest := []) ⟨hx, hb, hml, hown, hw⟩ (mT_needRegister l hlT sa a1 _ _ h) (va_cwS 1 hw g_T_27 rfl rfl rfl (by decide +kernel) ⟨Nat.le_of_ble_eq_true rfl, Nat.le_of_ble_eq_true rfl⟩) (xs_PS (xt_at hXT hS)) rfl rfl hl.1 rfl (lv_room (Nat.le_of_ble_eq_true rfl)) d_T_clear_1 ⟨Nat.le_of_ble_eq_true rfl, Nat.le_of_ble_eq_true rfl⟩) (fun E9 ce q9 H1 h hz hk hce hcv hcl => ?_) (fun h => ?_)
  · exact rx_out (R, st) rfl hEx hlocks hK hP hD hS h hz hk hce hcv hcl (Nat.le_of_ble_eq_true rfl) (Nat.le_of_ble_eq_true rfl)
  · refine lv_aload_n hx hb d_T_clear_4 rfl (lv_at hl 0 rfl) ?_
    refine lv_iload_n hx hb d_T_clear_5 rfl (lv_at hl 1 rfl) ?_
    refine lv_iconst (v := (0 : Int32)) hx hb d_T_clear_6 (by decide) ?_
    have hFc := va_free (wc := TSw cA a0 aR aM aW aP aS aC aO nW nE R f us P S sc li rc rn ro rd st) hD hS hA [0, 1, 2, 3, 4, 5, 6, 7] rfl
    refine va_callv (va_runV (As := [.int a1, .int (0 : Int32)]) (rest := []) ⟨hx, hb, hml, hown, hw⟩ (mT_setRegister l dC dI cA a0 aR aM aW aP aS aC aO nW nE s.heap.size R f us P S sc li rc rn ro rd st a1 (0 : Int32) _ h) (cwV 2 hw g_T_43 rfl rfl rfl (by decide +kernel) ⟨Nat.le_of_ble_eq_true rfl, Nat.le_of_ble_eq_true rfl⟩) (rw_PV (ci := 0) (q0 := 0) hK hP hD rfl rfl) rfl rfl hl.1 rfl (lv_room (Nat.le_of_ble_eq_true rfl)) d_T_clear_7 ⟨Nat.le_of_ble_eq_true rfl, Nat.le_of_ble_eq_true rfl⟩) hS (fun q _ h => hFc q h) hFc (fun u t H locs ht hvm h hB hz1 hk1 hS => ?_)
    obtain ⟨R_7, st_7⟩ := u
    obtain ⟨hP, hK1, hD1⟩ := hB
    rw [ht] at hP
    have hD := hD1.weaken (fun _ _ _ q => hFc _ q)
    clear hFc hD1 hK1
    try dsimp only at h
    have hP : va_P (dC, dI) vwCl (TSw cA a0 aR aM aW aP aS aC aO nW nE R_7 f us P S sc li rc rn ro rd st_7) H := hP
    have hD : va_D A (TSw cA a0 aR aM aW aP aS aC aO nW nE R_7 f us P S sc li rc rn ro rd st_7) := hD
    refine W.widen (k := 1) (n := 6) (Nat.le_of_ble_eq_true rfl) (Nat.le_of_ble_eq_true rfl) ?_
    exact vx_ret (W.vret hx hb hr9 (fun t ht hW => ⟨⟨(R_7, st_7), rfl, h, by rw [ht]; exact hP, va_K.moved hW.alike hK, hD⟩, hS.F ht⟩) hS.2.2 d_T_clear_10)
def wqT_make_27 (nW : Nat) (nE : Nat) (y1_27 : Int32) (y2_27 : Int32) (y3_27 : Int32) (y4_27 : Int32) (R_27 : Nat → Int32) (f_27 : Nat → Int32) (us_27 : Int32) (P_27 : Nat → Int32) (S_27 : Nat → Int32) (sc_27 : Int32) (li_27 : Int32) (rc_27 : Nat → Int32) (rn_27 : Int32) (ro_27 : Nat → Int32) (rd_27 : Int32) (st_27 : Int32) (post : Int32 → (Nat → Int32) → (Nat → Int32) → Int32 → (Nat → Int32) → (Nat → Int32) → Int32 → Int32 → (Nat → Int32) → Int32 → (Nat → Int32) → Int32 → Int32 → Prop) (px : String → (Nat → Int32) → (Nat → Int32) → Int32 → (Nat → Int32) → (Nat → Int32) → Int32 → Int32 → (Nat → Int32) → Int32 → (Nat → Int32) → Int32 → Int32 → Prop) : Prop :=
  vp_in y2_27 32 ∧ (wqM_shape y3_27 y4_27 (fun r40 => wqM_build nW nE R_27 f_27 us_27 P_27 S_27 sc_27 li_27 rc_27 rn_27 ro_27 rd_27 st_27 (R_27 y2_27.toNatClampNeg) r40 (fun r47 f_47 us_47 P_47 S_47 sc_47 li_47 rc_47 rn_47 ro_47 rd_47 st_47 => wqT_needMade r47 (wqT_setRegister nW nE R_27 st_47 y1_27 r47 (fun R_61 st_61 => wqM_identity nW nE f_47 P_47 r47 (fun r70 => post r70 R_61 f_47 us_47 P_47 S_47 sc_47 li_47 rc_47 rn_47 ro_47 rd_47 st_61))) (fun E => px E R_27 f_47 us_47 P_47 S_47 sc_47 li_47 rc_47 rn_47 ro_47 rd_47 st_47))))
def wqT_make (nW : Nat) (nE : Nat) (R : Nat → Int32) (f : Nat → Int32) (us : Int32) (P : Nat → Int32) (S : Nat → Int32) (sc : Int32) (li : Int32) (rc : Nat → Int32) (rn : Int32) (ro : Nat → Int32) (rd : Int32) (st : Int32) (a1 : Int32) (a2 : Int32) (a3 : Int32) (a4 : Int32) (post : Int32 → (Nat → Int32) → (Nat → Int32) → Int32 → (Nat → Int32) → (Nat → Int32) → Int32 → Int32 → (Nat → Int32) → Int32 → (Nat → Int32) → Int32 → Int32 → Prop) (px : String → (Nat → Int32) → (Nat → Int32) → Int32 → (Nat → Int32) → (Nat → Int32) → Int32 → Int32 → (Nat → Int32) → Int32 → (Nat → Int32) → Int32 → Int32 → Prop) : Prop :=
  wqT_needRegister a1 (wqT_needRegister a2 ((a4 = 0 → (wqT_needBetween a3 (0 : Int32) (16000 : Int32) (wqT_make_27 nW nE a1 a2 a3 a4 R f us P S sc li rc rn ro rd st post px) (fun E => px E R f us P S sc li rc rn ro rd st))) ∧ (¬ (a4 = 0) → (wqT_needBetween a3 (0 : Int32) (4000 : Int32) (wqT_make_27 nW nE a1 a2 a3 a4 R f us P S sc li rc rn ro rd st post px) (fun E => px E R f us P S sc li rc rn ro rd st)))) (fun E => px E R f us P S sc li rc rn ro rd st)) (fun E => px E R f us P S sc li rc rn ro rd st)
set_option maxHeartbeats 4000000 in
set_option maxRecDepth 100000 in
theorem mT_make (l : Launch) (hlT : l.stackTraces = false) (sa : Nat → Nat) (dC : Nat → ClassId) (dI : Nat → Nat → Nat) (cA : ClassId) (a0 : Nat) (aR : Nat) (aM : Nat) (aW : Nat) (aP : Nat) (aS : Nat) (aC : Nat) (aO : Nat) (nW : Nat) (nE : Nat) (sz : Nat) (R : Nat → Int32) (f : Nat → Int32) (us : Int32) (P : Nat → Int32) (S : Nat → Int32) (sc : Int32) (li : Int32) (rc : Nat → Int32) (rn : Int32) (ro : Nat → Int32) (rd : Int32) (st : Int32) (a1 : Int32) (a2 : Int32) (a3 : Int32) (a4 : Int32) (post : Int32 → (Nat → Int32) → (Nat → Int32) → Int32 → (Nat → Int32) → (Nat → Int32) → Int32 → Int32 → (Nat → Int32) → Int32 → (Nat → Int32) → Int32 → Int32 → Prop) (px : String → (Nat → Int32) → (Nat → Int32) → Int32 → (Nat → Int32) → (Nat → Int32) → Int32 → Int32 → (Nat → Int32) → Int32 → (Nat → Int32) → Int32 → Int32 → Prop) (h : wqT_make nW nE R f us P S sc li rc rn ro rd st a1 a2 a3 a4 post px) : vx_Met l y_T_make ws_T_make ({ frames := 7, cells := 4, slots := 24, locals := 140 }) (xw_P (dC, dI) vwCl (TSw cA a0 aR aM aW aP aS aC aO nW nE R f us P S sc li rc rn ro rd st) [(cA, .int)] sz sa [.ref a0, .int a1, .int a2, .int a3, .int a4]) (va_Qi (fun (r : Int32) (u : (Nat → Int32) × (Nat → Int32) × Int32 × (Nat → Int32) × (Nat → Int32) × Int32 × Int32 × (Nat → Int32) × Int32 × (Nat → Int32) × Int32 × Int32) => post r u.1 u.2.1 u.2.2.1 u.2.2.2.1 u.2.2.2.2.1 u.2.2.2.2.2.1 u.2.2.2.2.2.2.1 u.2.2.2.2.2.2.2.1 u.2.2.2.2.2.2.2.2.1 u.2.2.2.2.2.2.2.2.2.1 u.2.2.2.2.2.2.2.2.2.2.1 u.2.2.2.2.2.2.2.2.2.2.2) (rw_B (dC, dI) vwCl [(cA, .int)] (va_A (TSw cA a0 aR aM aW aP aS aC aO nW nE R f us P S sc li rc rn ro rd st) sz) (fun u : (Nat → Int32) × (Nat → Int32) × Int32 × (Nat → Int32) × (Nat → Int32) × Int32 × Int32 × (Nat → Int32) × Int32 × (Nat → Int32) × Int32 × Int32 => TSw cA a0 aR aM aW aP aS aC aO nW nE u.1 u.2.1 u.2.2.1 u.2.2.2.1 u.2.2.2.2.1 u.2.2.2.2.2.1 u.2.2.2.2.2.2.1 u.2.2.2.2.2.2.2.1 u.2.2.2.2.2.2.2.2.1 u.2.2.2.2.2.2.2.2.2.1 u.2.2.2.2.2.2.2.2.2.2.1 u.2.2.2.2.2.2.2.2.2.2.2)) (va_A (TSw cA a0 aR aM aW aP aS aC aO nW nE R f us P S sc li rc rn ro rd st) sz)) (rw_X (dC, dI) vwCl [(cA, .int)] (va_A (TSw cA a0 aR aM aW aP aS aC aO nW nE R f us P S sc li rc rn ro rd st) sz) (fun u : (Nat → Int32) × (Nat → Int32) × Int32 × (Nat → Int32) × (Nat → Int32) × Int32 × Int32 × (Nat → Int32) × Int32 × (Nat → Int32) × Int32 × Int32 => TSw cA a0 aR aM aW aP aS aC aO nW nE u.1 u.2.1 u.2.2.1 u.2.2.2.1 u.2.2.2.2.1 u.2.2.2.2.2.1 u.2.2.2.2.2.2.1 u.2.2.2.2.2.2.2.1 u.2.2.2.2.2.2.2.2.1 u.2.2.2.2.2.2.2.2.2.1 u.2.2.2.2.2.2.2.2.2.2.1 u.2.2.2.2.2.2.2.2.2.2.2) (fun (E : String) (u : (Nat → Int32) × (Nat → Int32) × Int32 × (Nat → Int32) × (Nat → Int32) × Int32 × Int32 × (Nat → Int32) × Int32 × (Nat → Int32) × Int32 × Int32) => px E u.1 u.2.1 u.2.2.1 u.2.2.2.1 u.2.2.2.2.1 u.2.2.2.2.2.1 u.2.2.2.2.2.2.1 u.2.2.2.2.2.2.2.1 u.2.2.2.2.2.2.2.2.1 u.2.2.2.2.2.2.2.2.2.1 u.2.2.2.2.2.2.2.2.2.2.1 u.2.2.2.2.2.2.2.2.2.2.2)) 4 24 (va_A (TSw cA a0 aR aM aW aP aS aC aO nW nE R f us P S sc li rc rn ro rd st) sz) := by
  refine vx_ofW (cc := c_T_make) (maxL := 6) (ret := (some .int)) (by decide) rfl ?_
  intro p e s m args below meth c s₁ B hml hEx hv
  obtain ⟨rfl, hsz, hP, hK, hD0, hXT⟩ := hv
  have hx := B.exec
  have hb := B.bytes
  have hr9 := B.returns
  have hts := atoms_spec (ws := ws_T_make) B.pre
  have hw : ∀ w ∈ WB_, w.before _ s = true := fun w h => hts w (List.mem_cons_of_mem _ h)
  have hown : s.vm.findClass R_T = some m.cls := findClass_of_methodNamed B.named
  have hlocks := B.notSynchronized
  subst hsz
  have hD := hD0.self (sz := s.heap.size)
  generalize hAe : va_A (TSw cA a0 aR aM aW aP aS aC aO nW nE R f us P S sc li rc rn ro rd st) s.heap.size = A at hD hXT ⊢
  have hA : ∀ q : Nat, s.heap.size ≤ q → A q := fun q h => by rw [← hAe]; exact Or.inr h
  have hS : va_S A s.heap s.heap [] := va_S.rf
  have hl := lv_entry ([.ref a0, .int a1, .int a2, .int a3, .int a4]) (n := 6) (Nat.le_of_ble_eq_true rfl)
  rw [lg_entry_eq]
  generalize (lg_sl ([.ref a0, .int a1, .int a2, .int a3, .int a4]) ++ List.replicate (6 - (lg_sl ([.ref a0, .int a1, .int a2, .int a3, .int a4])).length) Slot.unset).toArray = ls at hl ⊢
  have hl : lv_has ls 6 [(0, .ref a0), (1, .int a1), (2, .int a2), (3, .int a3), (4, .int a4)] := hl
  have lp_27 : ∀ (y1_27 : Int32) (y2_27 : Int32) (y3_27 : Int32) (y4_27 : Int32) (R_27 : Nat → Int32) (f_27 : Nat → Int32) (us_27 : Int32) (P_27 : Nat → Int32) (S_27 : Nat → Int32) (sc_27 : Int32) (li_27 : Int32) (rc_27 : Nat → Int32) (rn_27 : Int32) (ro_27 : Nat → Int32) (rd_27 : Int32) (st_27 : Int32) (H : Heap) (locs : List Loc) (ls : Array Slot), va_P (dC, dI) vwCl (TSw cA a0 aR aM aW aP aS aC aO nW nE R_27 f_27 us_27 P_27 S_27 sc_27 li_27 rc_27 rn_27 ro_27 rd_27 st_27) H → va_D A (TSw cA a0 aR aM aW aP aS aC aO nW nE R_27 f_27 us_27 P_27 S_27 sc_27 li_27 rc_27 rn_27 ro_27 rd_27 st_27) → va_S A s.heap H locs → lv_has ls 6 [(0, .ref a0), (1, .int y1_27), (2, .int y2_27), (3, .int y3_27), (4, .int y4_27)] → wqT_make_27 nW nE y1_27 y2_27 y3_27 y4_27 R_27 f_27 us_27 P_27 S_27 sc_27 li_27 rc_27 rn_27 ro_27 rd_27 st_27 post px → W p l e (headSpec ws_T_make ({ frames := 7, cells := 4, slots := 24, locals := 140 })).room s m ([.ref a0, .int a1, .int a2, .int a3, .int a4] : List Value).toArray below meth c H locs (3) (18) (vx_MQ below (va_Qi (fun (r : Int32) (u : (Nat → Int32) × (Nat → Int32) × Int32 × (Nat → Int32) × (Nat → Int32) × Int32 × Int32 × (Nat → Int32) × Int32 × (Nat → Int32) × Int32 × Int32) => post r u.1 u.2.1 u.2.2.1 u.2.2.2.1 u.2.2.2.2.1 u.2.2.2.2.2.1 u.2.2.2.2.2.2.1 u.2.2.2.2.2.2.2.1 u.2.2.2.2.2.2.2.2.1 u.2.2.2.2.2.2.2.2.2.1 u.2.2.2.2.2.2.2.2.2.2.1 u.2.2.2.2.2.2.2.2.2.2.2) (rw_B (dC, dI) vwCl [(cA, .int)] A (fun u : (Nat → Int32) × (Nat → Int32) × Int32 × (Nat → Int32) × (Nat → Int32) × Int32 × Int32 × (Nat → Int32) × Int32 × (Nat → Int32) × Int32 × Int32 => TSw cA a0 aR aM aW aP aS aC aO nW nE u.1 u.2.1 u.2.2.1 u.2.2.2.1 u.2.2.2.2.1 u.2.2.2.2.2.1 u.2.2.2.2.2.2.1 u.2.2.2.2.2.2.2.1 u.2.2.2.2.2.2.2.2.1 u.2.2.2.2.2.2.2.2.2.1 u.2.2.2.2.2.2.2.2.2.2.1 u.2.2.2.2.2.2.2.2.2.2.2)) A) (rw_X (dC, dI) vwCl [(cA, .int)] A (fun u : (Nat → Int32) × (Nat → Int32) × Int32 × (Nat → Int32) × (Nat → Int32) × Int32 × Int32 × (Nat → Int32) × Int32 × (Nat → Int32) × Int32 × Int32 => TSw cA a0 aR aM aW aP aS aC aO nW nE u.1 u.2.1 u.2.2.1 u.2.2.2.1 u.2.2.2.2.1 u.2.2.2.2.2.1 u.2.2.2.2.2.2.1 u.2.2.2.2.2.2.2.1 u.2.2.2.2.2.2.2.2.1 u.2.2.2.2.2.2.2.2.2.1 u.2.2.2.2.2.2.2.2.2.2.1 u.2.2.2.2.2.2.2.2.2.2.2) (fun (E : String) (u : (Nat → Int32) × (Nat → Int32) × Int32 × (Nat → Int32) × (Nat → Int32) × Int32 × Int32 × (Nat → Int32) × Int32 × (Nat → Int32) × Int32 × Int32) => px E u.1 u.2.1 u.2.2.1 u.2.2.2.1 u.2.2.2.2.1 u.2.2.2.2.2.1 u.2.2.2.2.2.2.1 u.2.2.2.2.2.2.2.1 u.2.2.2.2.2.2.2.2.1 u.2.2.2.2.2.2.2.2.2.1 u.2.2.2.2.2.2.2.2.2.2.1 u.2.2.2.2.2.2.2.2.2.2.2)) ([.ref a0, .int a1, .int a2, .int a3, .int a4] : List Value).toArray s 4 24 A) (F0 m 27 ls []) := by
    intro y1_27 y2_27 y3_27 y4_27 R_27 f_27 us_27 P_27 S_27 sc_27 li_27 rc_27 rn_27 ro_27 rd_27 st_27 H locs ls hP hD hS hl h
    unfold wqT_make_27 at h
    refine lv_aload_n hx hb d_T_make_27 rfl (lv_at hl 0 rfl) ?_
    refine va_get (D := (dC, dI)) (ci := 0) (v := .ref aM) (C := R_T) (T := T_T) (N := 2) hx hb hw in_T hown hK hP 0 rfl rfl 1 (by decide) (hw _ wd_104) (fun _ h9 => h9) rfl d_T_make_28 ?_
    refine lv_aload_n hx hb d_T_make_31 rfl (lv_at hl 0 rfl) ?_
    refine va_get (D := (dC, dI)) (ci := 0) (v := .ref aR) (C := R_T) (T := T_T) (N := 2) hx hb hw in_T hown hK hP 0 rfl rfl 0 (by decide) (hw _ wd_103) (fun _ h9 => h9) rfl d_T_make_32 ?_
    refine lv_iload_n hx hb d_T_make_35 rfl (lv_at hl 2 rfl) ?_
    refine va_iald hx hb hK hP 1 0 rfl rfl h.1 d_T_make_36 ?_
    have h := h.2
    refine lv_iload_n hx hb d_T_make_37 rfl (lv_at hl 3 rfl) ?_
    refine lv_iload hx hb d_T_make_38 (lv_at hl 4 rfl) ?_
    refine rq_calli (W.runS (As := [.int y3_27, .int y4_27]) (rest := [.int (R_27 y2_27.toNatClampNeg), .ref aM]) ⟨hx, hb, hml, hown, hw⟩ (mM_shape l y3_27 y4_27 _ h) (va_cwS 2 hw g_T_46 rfl rfl rfl (by decide +kernel) ⟨Nat.le_of_ble_eq_true rfl, Nat.le_of_ble_eq_true rfl⟩) preEq rfl rfl hl.1 rfl (lv_room (Nat.le_of_ble_eq_true rfl)) d_T_make_40 ⟨Nat.le_of_ble_eq_true rfl, Nat.le_of_ble_eq_true rfl⟩) (fun r40 h => ?_)
    refine lv_aload_n hx hb d_T_make_43 rfl (lv_at hl 0 rfl) ?_
    refine va_get (D := (dC, dI)) (ci := 0) (v := .ref aR) (C := R_T) (T := T_T) (N := 2) hx hb hw in_T hown hK hP 0 rfl rfl 0 (by decide) (hw _ wd_103) (fun _ h9 => h9) rfl d_T_make_44 ?_
    have hFc := va_free (wc := TSw cA a0 aR aM aW aP aS aC aO nW nE R_27 f_27 us_27 P_27 S_27 sc_27 li_27 rc_27 rn_27 ro_27 rd_27 st_27) hD hS hA [0, 1, 2, 3, 4, 5, 6, 7] rfl
    refine va_calli (va_runV (As := [.int (R_27 y2_27.toNatClampNeg), .int r40, .ref aR]) (rest := []) ⟨hx, hb, hml, hown, hw⟩ (mM_build l dC dI cA a0 aR aM aW aP aS aC aO nW nE H.size R_27 f_27 us_27 P_27 S_27 sc_27 li_27 rc_27 rn_27 ro_27 rd_27 st_27 (R_27 y2_27.toNatClampNeg) r40 _ h) (cwV 3 hw g_T_50 rfl rfl rfl (by decide +kernel) ⟨Nat.le_of_ble_eq_true rfl, Nat.le_of_ble_eq_true rfl⟩) (rw_PV (ci := 1) (q0 := 2) hK hP hD rfl rfl) rfl rfl hl.1 rfl (lv_room (Nat.le_of_ble_eq_true rfl)) d_T_make_47 ⟨Nat.le_of_ble_eq_true rfl, Nat.le_of_ble_eq_true rfl⟩) hS (fun q _ h => hFc q h) hFc (fun r47 u t H locs ht hvm h hB hz1 hk1 hS => ?_)
    obtain ⟨f_47, us_47, P_47, S_47, sc_47, li_47, rc_47, rn_47, ro_47, rd_47, st_47⟩ := u
    obtain ⟨hP, hK1, hD1⟩ := hB
    rw [ht] at hP
    have hD := hD1.weaken (fun _ _ _ q => hFc _ q)
    clear hFc hD1 hK1
    try dsimp only at h
    have hP : va_P (dC, dI) vwCl (TSw cA a0 aR aM aW aP aS aC aO nW nE R_27 f_47 us_47 P_47 S_47 sc_47 li_47 rc_47 rn_47 ro_47 rd_47 st_47) H := hP
    have hD : va_D A (TSw cA a0 aR aM aW aP aS aC aO nW nE R_27 f_47 us_47 P_47 S_47 sc_47 li_47 rc_47 rn_47 ro_47 rd_47 st_47) := hD
    refine lv_istore (lv' := [(5, .int r47), (0, .ref a0), (1, .int y1_27), (2, .int y2_27), (3, .int y3_27), (4, .int y4_27)]) hx hb d_T_make_50 hl (by decide) rfl (fun ls hl => ?_)
    refine lv_iload hx hb d_T_make_52 (lv_at hl 0 rfl) ?_
    refine rx_callv (vx_runS (As := [.int r47]) (rest := []) ⟨hx, hb, hml, hown, hw⟩ (mT_needMade l hlT sa r47 _ _ h) (va_cwS 1 hw g_T_54 rfl rfl rfl (by decide +kernel) ⟨Nat.le_of_ble_eq_true rfl, Nat.le_of_ble_eq_true rfl⟩) (xs_PS (xt_at hXT hS)) rfl rfl hl.1 rfl (lv_room (Nat.le_of_ble_eq_true rfl)) d_T_make_54 ⟨Nat.le_of_ble_eq_true rfl, Nat.le_of_ble_eq_true rfl⟩) (fun E9 ce q9 H1 h hz hk hce hcv hcl => ?_) (fun h => ?_)
    · exact rx_out (R_27, f_47, us_47, P_47, S_47, sc_47, li_47, rc_47, rn_47, ro_47, rd_47, st_47) rfl hEx hlocks hK hP hD hS h hz hk hce hcv hcl (Nat.le_of_ble_eq_true rfl) (Nat.le_of_ble_eq_true rfl)
    · refine lv_aload_n hx hb d_T_make_57 rfl (lv_at hl 1 rfl) ?_
      refine lv_iload_n hx hb d_T_make_58 rfl (lv_at hl 2 rfl) ?_
      refine lv_iload hx hb d_T_make_59 (lv_at hl 0 rfl) ?_
      have hFc := va_free (wc := TSw cA a0 aR aM aW aP aS aC aO nW nE R_27 f_47 us_47 P_47 S_47 sc_47 li_47 rc_47 rn_47 ro_47 rd_47 st_47) hD hS hA [0, 1, 2, 3, 4, 5, 6, 7] rfl
      refine va_callv (va_runV (As := [.int y1_27, .int r47]) (rest := []) ⟨hx, hb, hml, hown, hw⟩ (mT_setRegister l dC dI cA a0 aR aM aW aP aS aC aO nW nE H.size R_27 f_47 us_47 P_47 S_47 sc_47 li_47 rc_47 rn_47 ro_47 rd_47 st_47 y1_27 r47 _ h) (cwV 2 hw g_T_43 rfl rfl rfl (by decide +kernel) ⟨Nat.le_of_ble_eq_true rfl, Nat.le_of_ble_eq_true rfl⟩) (rw_PV (ci := 0) (q0 := 0) hK hP hD rfl rfl) rfl rfl hl.1 rfl (lv_room (Nat.le_of_ble_eq_true rfl)) d_T_make_61 ⟨Nat.le_of_ble_eq_true rfl, Nat.le_of_ble_eq_true rfl⟩) hS (fun q _ h => hFc q h) hFc (fun u t H locs ht hvm h hB hz1 hk1 hS => ?_)
      obtain ⟨R_61, st_61⟩ := u
      obtain ⟨hP, hK1, hD1⟩ := hB
      rw [ht] at hP
      have hD := hD1.weaken (fun _ _ _ q => hFc _ q)
      clear hFc hD1 hK1
      try dsimp only at h
      have hP : va_P (dC, dI) vwCl (TSw cA a0 aR aM aW aP aS aC aO nW nE R_61 f_47 us_47 P_47 S_47 sc_47 li_47 rc_47 rn_47 ro_47 rd_47 st_61) H := hP
      have hD : va_D A (TSw cA a0 aR aM aW aP aS aC aO nW nE R_61 f_47 us_47 P_47 S_47 sc_47 li_47 rc_47 rn_47 ro_47 rd_47 st_61) := hD
      refine lv_aload_n hx hb d_T_make_64 rfl (lv_at hl 1 rfl) ?_
      refine va_get (D := (dC, dI)) (ci := 0) (v := .ref aM) (C := R_T) (T := T_T) (N := 2) hx hb hw in_T hown hK hP 0 rfl rfl 1 (by decide) (hw _ wd_104) (fun _ h9 => h9) rfl d_T_make_65 ?_
      refine lv_iload hx hb d_T_make_68 (lv_at hl 0 rfl) ?_
      refine rq_calli (W.runV (As := [.int r47]) (rest := []) ⟨hx, hb, hml, hown, hw⟩ (mM_identity l dC dI cA a0 aR aM aW aP aS aC aO nW nE R_61 f_47 us_47 P_47 S_47 sc_47 li_47 rc_47 rn_47 ro_47 rd_47 st_61 r47 _ h) (cwV 1 hw g_T_57 rfl rfl rfl (by decide +kernel) ⟨Nat.le_of_ble_eq_true rfl, Nat.le_of_ble_eq_true rfl⟩) (ro_PV (ci := 1) (q0 := 2) hK hP rfl rfl) rfl rfl hl.1 rfl (lv_room (Nat.le_of_ble_eq_true rfl)) d_T_make_70 ⟨Nat.le_of_ble_eq_true rfl, Nat.le_of_ble_eq_true rfl⟩) (fun r70 h => ?_)
      refine W.widen (k := 4) (n := 24) (Nat.le_of_ble_eq_true rfl) (Nat.le_of_ble_eq_true rfl) ?_
      exact vx_ret (W.iret (v := r70) hx hb hr9 (fun t ht hW => ⟨⟨_, (R_61, f_47, us_47, P_47, S_47, sc_47, li_47, rc_47, rn_47, ro_47, rd_47, st_61), rfl, h, by rw [ht]; exact hP, va_K.moved hW.alike hK, hD⟩, hS.F ht⟩) hS.2.2 d_T_make_73)
  unfold wqT_make at h
  refine lv_iload_n hx hb d_T_make_0 rfl (lv_at hl 1 rfl) ?_
  refine rx_callv (vx_runS (As := [.int a1]) (rest := []) ⟨hx, hb, hml, hown, hw⟩ (mT_needRegister l hlT sa a1 _ _ h) (va_cwS 1 hw g_T_27 rfl rfl rfl (by decide +kernel) ⟨Nat.le_of_ble_eq_true rfl, Nat.le_of_ble_eq_true rfl⟩) (xs_PS (xt_at hXT hS)) rfl rfl hl.1 rfl (lv_room (Nat.le_of_ble_eq_true rfl)) d_T_make_1 ⟨Nat.le_of_ble_eq_true rfl, Nat.le_of_ble_eq_true rfl⟩) (fun E9 ce q9 H1 h hz hk hce hcv hcl => ?_) (fun h => ?_)
  · exact rx_out (R, f, us, P, S, sc, li, rc, rn, ro, rd, st) rfl hEx hlocks hK hP hD hS h hz hk hce hcv hcl (Nat.le_of_ble_eq_true rfl) (Nat.le_of_ble_eq_true rfl)
  · refine lv_iload_n hx hb d_T_make_4 rfl (lv_at hl 2 rfl) ?_
    refine rx_callv (vx_runS (As := [.int a2]) (rest := []) ⟨hx, hb, hml, hown, hw⟩ (mT_needRegister l hlT sa a2 _ _ h) (va_cwS 1 hw g_T_27 rfl rfl rfl (by decide +kernel) ⟨Nat.le_of_ble_eq_true rfl, Nat.le_of_ble_eq_true rfl⟩) (xs_PS (xt_at hXT hS)) rfl rfl hl.1 rfl (lv_room (Nat.le_of_ble_eq_true rfl)) d_T_make_5 ⟨Nat.le_of_ble_eq_true rfl, Nat.le_of_ble_eq_true rfl⟩) (fun E9 ce q9 H1 h hz hk hce hcv hcl => ?_) (fun h => ?_)
    · exact rx_out (R, f, us, P, S, sc, li, rc, rn, ro, rd, st) rfl hEx hlocks hK hP hD hS h hz hk hce hcv hcl (Nat.le_of_ble_eq_true rfl) (Nat.le_of_ble_eq_true rfl)
    · refine lv_iload_n hx hb d_T_make_8 rfl (lv_at hl 3 rfl) ?_
      refine lv_iconst (v := (0 : Int32)) hx hb d_T_make_9 (by decide) ?_
      refine lv_iload hx hb d_T_make_10 (lv_at hl 4 rfl) ?_
      refine lv_if_eq (tgt := 21) hx hb d_T_make_12 (by decide) (fun c_12 => ?_) (fun c_12 => ?_)
      · have h := h.1 c_12
        refine lv_sipush (v := (16000 : Int32)) hx hb d_T_make_21 (by decide) ?_
        refine rx_callv (vx_runS (As := [.int a3, .int (0 : Int32), .int (16000 : Int32)]) (rest := []) ⟨hx, hb, hml, hown, hw⟩ (mT_needBetween l hlT sa a3 (0 : Int32) (16000 : Int32) _ _ h) (va_cwS 3 hw g_T_33 rfl rfl rfl (by decide +kernel) ⟨Nat.le_of_ble_eq_true rfl, Nat.le_of_ble_eq_true rfl⟩) (xs_PS (xt_at hXT hS)) rfl rfl hl.1 rfl (lv_room (Nat.le_of_ble_eq_true rfl)) d_T_make_24 ⟨Nat.le_of_ble_eq_true rfl, Nat.le_of_ble_eq_true rfl⟩) (fun E9 ce q9 H1 h hz hk hce hcv hcl => ?_) (fun h => ?_)
        · exact rx_out (R, f, us, P, S, sc, li, rc, rn, ro, rd, st) rfl hEx hlocks hK hP hD hS h hz hk hce hcv hcl (Nat.le_of_ble_eq_true rfl) (Nat.le_of_ble_eq_true rfl)
        · exact lp_27 a1 a2 a3 a4 R f us P S sc li rc rn ro rd st s.heap [] ls hP hD hS (lv_sub hl [0, 1, 2, 3, 4] rfl) h
      · have h := h.2 c_12
        refine lv_sipush (v := (4000 : Int32)) hx hb d_T_make_15 (by decide) ?_
        refine lv_goto (tgt := 24) hx hb d_T_make_18 (by decide) ?_
        refine rx_callv (vx_runS (As := [.int a3, .int (0 : Int32), .int (4000 : Int32)]) (rest := []) ⟨hx, hb, hml, hown, hw⟩ (mT_needBetween l hlT sa a3 (0 : Int32) (4000 : Int32) _ _ h) (va_cwS 3 hw g_T_33 rfl rfl rfl (by decide +kernel) ⟨Nat.le_of_ble_eq_true rfl, Nat.le_of_ble_eq_true rfl⟩) (xs_PS (xt_at hXT hS)) rfl rfl hl.1 rfl (lv_room (Nat.le_of_ble_eq_true rfl)) d_T_make_24 ⟨Nat.le_of_ble_eq_true rfl, Nat.le_of_ble_eq_true rfl⟩) (fun E9 ce q9 H1 h hz hk hce hcv hcl => ?_) (fun h => ?_)
        · exact rx_out (R, f, us, P, S, sc, li, rc, rn, ro, rd, st) rfl hEx hlocks hK hP hD hS h hz hk hce hcv hcl (Nat.le_of_ble_eq_true rfl) (Nat.le_of_ble_eq_true rfl)
        · exact lp_27 a1 a2 a3 a4 R f us P S sc li rc rn ro rd st s.heap [] ls hP hD hS (lv_sub hl [0, 1, 2, 3, 4] rfl) h
def wqT_copy (nW : Nat) (nE : Nat) (R : Nat → Int32) (f : Nat → Int32) (us : Int32) (P : Nat → Int32) (S : Nat → Int32) (sc : Int32) (li : Int32) (rc : Nat → Int32) (rn : Int32) (ro : Nat → Int32) (rd : Int32) (st : Int32) (a1 : Int32) (a2 : Int32) (post : Int32 → (Nat → Int32) → (Nat → Int32) → Int32 → (Nat → Int32) → (Nat → Int32) → Int32 → Int32 → (Nat → Int32) → Int32 → (Nat → Int32) → Int32 → Int32 → Prop) (px : String → (Nat → Int32) → (Nat → Int32) → Int32 → (Nat → Int32) → (Nat → Int32) → Int32 → Int32 → (Nat → Int32) → Int32 → (Nat → Int32) → Int32 → Int32 → Prop) : Prop :=
  wqT_needRegister a1 (wqT_needObject nW nE R a2 (vp_in a2 32 ∧ (wqM_itsClass nW nE f P (R a2.toNatClampNeg) (fun r25 => wqM_shapeOf nW nE f P (R a2.toNatClampNeg) (fun r33 => wqM_build nW nE R f us P S sc li rc rn ro rd st r25 r33 (fun r40 f_40 us_40 P_40 S_40 sc_40 li_40 rc_40 rn_40 ro_40 rd_40 st_40 => wqT_needMade r40 (wqM_fillLike nW nE f_40 P_40 r40 (R a2.toNatClampNeg) (fun f_57 => wqT_setRegister nW nE R st_40 a1 r40 (fun R_64 st_64 => wqM_identity nW nE f_57 P_40 r40 (fun r73 => post r73 R_64 f_57 us_40 P_40 S_40 sc_40 li_40 rc_40 rn_40 ro_40 rd_40 st_64)))) (fun E => px E R f_40 us_40 P_40 S_40 sc_40 li_40 rc_40 rn_40 ro_40 rd_40 st_40)))))) (fun E => px E R f us P S sc li rc rn ro rd st)) (fun E => px E R f us P S sc li rc rn ro rd st)
set_option maxHeartbeats 4000000 in
set_option maxRecDepth 100000 in
theorem mT_copy (l : Launch) (hlT : l.stackTraces = false) (sa : Nat → Nat) (dC : Nat → ClassId) (dI : Nat → Nat → Nat) (cA : ClassId) (a0 : Nat) (aR : Nat) (aM : Nat) (aW : Nat) (aP : Nat) (aS : Nat) (aC : Nat) (aO : Nat) (nW : Nat) (nE : Nat) (sz : Nat) (R : Nat → Int32) (f : Nat → Int32) (us : Int32) (P : Nat → Int32) (S : Nat → Int32) (sc : Int32) (li : Int32) (rc : Nat → Int32) (rn : Int32) (ro : Nat → Int32) (rd : Int32) (st : Int32) (a1 : Int32) (a2 : Int32) (post : Int32 → (Nat → Int32) → (Nat → Int32) → Int32 → (Nat → Int32) → (Nat → Int32) → Int32 → Int32 → (Nat → Int32) → Int32 → (Nat → Int32) → Int32 → Int32 → Prop) (px : String → (Nat → Int32) → (Nat → Int32) → Int32 → (Nat → Int32) → (Nat → Int32) → Int32 → Int32 → (Nat → Int32) → Int32 → (Nat → Int32) → Int32 → Int32 → Prop) (h : wqT_copy nW nE R f us P S sc li rc rn ro rd st a1 a2 post px) : vx_Met l y_T_copy ws_T_copy ({ frames := 8, cells := 4, slots := 24, locals := 141 }) (xw_P (dC, dI) vwCl (TSw cA a0 aR aM aW aP aS aC aO nW nE R f us P S sc li rc rn ro rd st) [(cA, .int)] sz sa [.ref a0, .int a1, .int a2]) (va_Qi (fun (r : Int32) (u : (Nat → Int32) × (Nat → Int32) × Int32 × (Nat → Int32) × (Nat → Int32) × Int32 × Int32 × (Nat → Int32) × Int32 × (Nat → Int32) × Int32 × Int32) => post r u.1 u.2.1 u.2.2.1 u.2.2.2.1 u.2.2.2.2.1 u.2.2.2.2.2.1 u.2.2.2.2.2.2.1 u.2.2.2.2.2.2.2.1 u.2.2.2.2.2.2.2.2.1 u.2.2.2.2.2.2.2.2.2.1 u.2.2.2.2.2.2.2.2.2.2.1 u.2.2.2.2.2.2.2.2.2.2.2) (rw_B (dC, dI) vwCl [(cA, .int)] (va_A (TSw cA a0 aR aM aW aP aS aC aO nW nE R f us P S sc li rc rn ro rd st) sz) (fun u : (Nat → Int32) × (Nat → Int32) × Int32 × (Nat → Int32) × (Nat → Int32) × Int32 × Int32 × (Nat → Int32) × Int32 × (Nat → Int32) × Int32 × Int32 => TSw cA a0 aR aM aW aP aS aC aO nW nE u.1 u.2.1 u.2.2.1 u.2.2.2.1 u.2.2.2.2.1 u.2.2.2.2.2.1 u.2.2.2.2.2.2.1 u.2.2.2.2.2.2.2.1 u.2.2.2.2.2.2.2.2.1 u.2.2.2.2.2.2.2.2.2.1 u.2.2.2.2.2.2.2.2.2.2.1 u.2.2.2.2.2.2.2.2.2.2.2)) (va_A (TSw cA a0 aR aM aW aP aS aC aO nW nE R f us P S sc li rc rn ro rd st) sz)) (rw_X (dC, dI) vwCl [(cA, .int)] (va_A (TSw cA a0 aR aM aW aP aS aC aO nW nE R f us P S sc li rc rn ro rd st) sz) (fun u : (Nat → Int32) × (Nat → Int32) × Int32 × (Nat → Int32) × (Nat → Int32) × Int32 × Int32 × (Nat → Int32) × Int32 × (Nat → Int32) × Int32 × Int32 => TSw cA a0 aR aM aW aP aS aC aO nW nE u.1 u.2.1 u.2.2.1 u.2.2.2.1 u.2.2.2.2.1 u.2.2.2.2.2.1 u.2.2.2.2.2.2.1 u.2.2.2.2.2.2.2.1 u.2.2.2.2.2.2.2.2.1 u.2.2.2.2.2.2.2.2.2.1 u.2.2.2.2.2.2.2.2.2.2.1 u.2.2.2.2.2.2.2.2.2.2.2) (fun (E : String) (u : (Nat → Int32) × (Nat → Int32) × Int32 × (Nat → Int32) × (Nat → Int32) × Int32 × Int32 × (Nat → Int32) × Int32 × (Nat → Int32) × Int32 × Int32) => px E u.1 u.2.1 u.2.2.1 u.2.2.2.1 u.2.2.2.2.1 u.2.2.2.2.2.1 u.2.2.2.2.2.2.1 u.2.2.2.2.2.2.2.1 u.2.2.2.2.2.2.2.2.1 u.2.2.2.2.2.2.2.2.2.1 u.2.2.2.2.2.2.2.2.2.2.1 u.2.2.2.2.2.2.2.2.2.2.2)) 4 24 (va_A (TSw cA a0 aR aM aW aP aS aC aO nW nE R f us P S sc li rc rn ro rd st) sz) := by
  refine vx_ofW (cc := c_T_copy) (maxL := 5) (ret := (some .int)) (by decide) rfl ?_
  intro p e s m args below meth c s₁ B hml hEx hv
  obtain ⟨rfl, hsz, hP, hK, hD0, hXT⟩ := hv
  have hx := B.exec
  have hb := B.bytes
  have hr9 := B.returns
  have hts := atoms_spec (ws := ws_T_copy) B.pre
  have hw : ∀ w ∈ WB_, w.before _ s = true := fun w h => hts w (List.mem_cons_of_mem _ h)
  have hown : s.vm.findClass R_T = some m.cls := findClass_of_methodNamed B.named
  have hlocks := B.notSynchronized
  subst hsz
  have hD := hD0.self (sz := s.heap.size)
  generalize hAe : va_A (TSw cA a0 aR aM aW aP aS aC aO nW nE R f us P S sc li rc rn ro rd st) s.heap.size = A at hD hXT ⊢
  have hA : ∀ q : Nat, s.heap.size ≤ q → A q := fun q h => by rw [← hAe]; exact Or.inr h
  have hS : va_S A s.heap s.heap [] := va_S.rf
  have hl := lv_entry ([.ref a0, .int a1, .int a2]) (n := 5) (Nat.le_of_ble_eq_true rfl)
  rw [lg_entry_eq]
  generalize (lg_sl ([.ref a0, .int a1, .int a2]) ++ List.replicate (5 - (lg_sl ([.ref a0, .int a1, .int a2])).length) Slot.unset).toArray = ls at hl ⊢
  have hl : lv_has ls 5 [(0, .ref a0), (1, .int a1), (2, .int a2)] := hl
  unfold wqT_copy at h
  refine lv_iload_n hx hb d_T_copy_0 rfl (lv_at hl 1 rfl) ?_
  refine rx_callv (vx_runS (As := [.int a1]) (rest := []) ⟨hx, hb, hml, hown, hw⟩ (mT_needRegister l hlT sa a1 _ _ h) (va_cwS 1 hw g_T_27 rfl rfl rfl (by decide +kernel) ⟨Nat.le_of_ble_eq_true rfl, Nat.le_of_ble_eq_true rfl⟩) (xs_PS (xt_at hXT hS)) rfl rfl hl.1 rfl (lv_room (Nat.le_of_ble_eq_true rfl)) d_T_copy_1 ⟨Nat.le_of_ble_eq_true rfl, Nat.le_of_ble_eq_true rfl⟩) (fun E9 ce q9 H1 h hz hk hce hcv hcl => ?_) (fun h => ?_)
  · exact rx_out (R, f, us, P, S, sc, li, rc, rn, ro, rd, st) rfl hEx hlocks hK hP hD hS h hz hk hce hcv hcl (Nat.le_of_ble_eq_true rfl) (Nat.le_of_ble_eq_true rfl)
  · refine lv_aload_n hx hb d_T_copy_4 rfl (lv_at hl 0 rfl) ?_
    refine lv_iload_n hx hb d_T_copy_5 rfl (lv_at hl 2 rfl) ?_
    refine rx_callv (vx_runV (As := [.int a2]) (rest := []) ⟨hx, hb, hml, hown, hw⟩ (mT_needObject l hlT sa dC dI cA a0 aR aM aW aP aS aC aO nW nE R f us P S sc li rc rn ro rd st a2 _ _ h) (cwV 1 hw g_T_60 rfl rfl rfl (by decide +kernel) ⟨Nat.le_of_ble_eq_true rfl, Nat.le_of_ble_eq_true rfl⟩) (xo_PV (ci := 0) (q0 := 0) hK hP (xt_at hXT hS) rfl rfl) rfl rfl hl.1 rfl (lv_room (Nat.le_of_ble_eq_true rfl)) d_T_copy_6 ⟨Nat.le_of_ble_eq_true rfl, Nat.le_of_ble_eq_true rfl⟩) (fun E9 ce q9 H1 h hz hk hce hcv hcl => ?_) (fun h => ?_)
    · exact rx_out (R, f, us, P, S, sc, li, rc, rn, ro, rd, st) rfl hEx hlocks hK hP hD hS h hz hk hce hcv hcl (Nat.le_of_ble_eq_true rfl) (Nat.le_of_ble_eq_true rfl)
    · refine lv_aload_n hx hb d_T_copy_9 rfl (lv_at hl 0 rfl) ?_
      refine va_get (D := (dC, dI)) (ci := 0) (v := .ref aR) (C := R_T) (T := T_T) (N := 2) hx hb hw in_T hown hK hP 0 rfl rfl 0 (by decide) (hw _ wd_103) (fun _ h9 => h9) rfl d_T_copy_10 ?_
      refine lv_iload_n hx hb d_T_copy_13 rfl (lv_at hl 2 rfl) ?_
      refine va_iald hx hb hK hP 1 0 rfl rfl h.1 d_T_copy_14 ?_
      have h := h.2
      refine lv_istore_n (lv' := [(3, .int (R a2.toNatClampNeg)), (0, .ref a0), (1, .int a1), (2, .int a2)]) hx hb d_T_copy_15 rfl hl (by decide) rfl (fun ls hl => ?_)
      refine lv_aload_n hx hb d_T_copy_16 rfl (lv_at hl 1 rfl) ?_
      refine va_get (D := (dC, dI)) (ci := 0) (v := .ref aM) (C := R_T) (T := T_T) (N := 2) hx hb hw in_T hown hK hP 0 rfl rfl 1 (by decide) (hw _ wd_104) (fun _ h9 => h9) rfl d_T_copy_17 ?_
      refine lv_aload_n hx hb d_T_copy_20 rfl (lv_at hl 1 rfl) ?_
      refine va_get (D := (dC, dI)) (ci := 0) (v := .ref aM) (C := R_T) (T := T_T) (N := 2) hx hb hw in_T hown hK hP 0 rfl rfl 1 (by decide) (hw _ wd_104) (fun _ h9 => h9) rfl d_T_copy_21 ?_
      refine lv_iload_n hx hb d_T_copy_24 rfl (lv_at hl 0 rfl) ?_
      refine rq_calli (W.runV (As := [.int (R a2.toNatClampNeg)]) (rest := [.ref aM]) ⟨hx, hb, hml, hown, hw⟩ (mM_itsClass l dC dI cA a0 aR aM aW aP aS aC aO nW nE R f us P S sc li rc rn ro rd st (R a2.toNatClampNeg) _ h) (cwV 1 hw g_T_63 rfl rfl rfl (by decide +kernel) ⟨Nat.le_of_ble_eq_true rfl, Nat.le_of_ble_eq_true rfl⟩) (ro_PV (ci := 1) (q0 := 2) hK hP rfl rfl) rfl rfl hl.1 rfl (lv_room (Nat.le_of_ble_eq_true rfl)) d_T_copy_25 ⟨Nat.le_of_ble_eq_true rfl, Nat.le_of_ble_eq_true rfl⟩) (fun r25 h => ?_)
      refine lv_aload_n hx hb d_T_copy_28 rfl (lv_at hl 1 rfl) ?_
      refine va_get (D := (dC, dI)) (ci := 0) (v := .ref aM) (C := R_T) (T := T_T) (N := 2) hx hb hw in_T hown hK hP 0 rfl rfl 1 (by decide) (hw _ wd_104) (fun _ h9 => h9) rfl d_T_copy_29 ?_
      refine lv_iload_n hx hb d_T_copy_32 rfl (lv_at hl 0 rfl) ?_
      refine rq_calli (W.runV (As := [.int (R a2.toNatClampNeg)]) (rest := [.int r25, .ref aM]) ⟨hx, hb, hml, hown, hw⟩ (mM_shapeOf l dC dI cA a0 aR aM aW aP aS aC aO nW nE R f us P S sc li rc rn ro rd st (R a2.toNatClampNeg) _ h) (cwV 1 hw g_T_66 rfl rfl rfl (by decide +kernel) ⟨Nat.le_of_ble_eq_true rfl, Nat.le_of_ble_eq_true rfl⟩) (ro_PV (ci := 1) (q0 := 2) hK hP rfl rfl) rfl rfl hl.1 rfl (lv_room (Nat.le_of_ble_eq_true rfl)) d_T_copy_33 ⟨Nat.le_of_ble_eq_true rfl, Nat.le_of_ble_eq_true rfl⟩) (fun r33 h => ?_)
      refine lv_aload_n hx hb d_T_copy_36 rfl (lv_at hl 1 rfl) ?_
      refine va_get (D := (dC, dI)) (ci := 0) (v := .ref aR) (C := R_T) (T := T_T) (N := 2) hx hb hw in_T hown hK hP 0 rfl rfl 0 (by decide) (hw _ wd_103) (fun _ h9 => h9) rfl d_T_copy_37 ?_
      have hFc := va_free (wc := TSw cA a0 aR aM aW aP aS aC aO nW nE R f us P S sc li rc rn ro rd st) hD hS hA [0, 1, 2, 3, 4, 5, 6, 7] rfl
      refine va_calli (va_runV (As := [.int r25, .int r33, .ref aR]) (rest := []) ⟨hx, hb, hml, hown, hw⟩ (mM_build l dC dI cA a0 aR aM aW aP aS aC aO nW nE s.heap.size R f us P S sc li rc rn ro rd st r25 r33 _ h) (cwV 3 hw g_T_50 rfl rfl rfl (by decide +kernel) ⟨Nat.le_of_ble_eq_true rfl, Nat.le_of_ble_eq_true rfl⟩) (rw_PV (ci := 1) (q0 := 2) hK hP hD rfl rfl) rfl rfl hl.1 rfl (lv_room (Nat.le_of_ble_eq_true rfl)) d_T_copy_40 ⟨Nat.le_of_ble_eq_true rfl, Nat.le_of_ble_eq_true rfl⟩) hS (fun q _ h => hFc q h) hFc (fun r40 u t H locs ht hvm h hB hz1 hk1 hS => ?_)
      obtain ⟨f_40, us_40, P_40, S_40, sc_40, li_40, rc_40, rn_40, ro_40, rd_40, st_40⟩ := u
      obtain ⟨hP, hK1, hD1⟩ := hB
      rw [ht] at hP
      have hD := hD1.weaken (fun _ _ _ q => hFc _ q)
      clear hFc hD1 hK1
      try dsimp only at h
      have hP : va_P (dC, dI) vwCl (TSw cA a0 aR aM aW aP aS aC aO nW nE R f_40 us_40 P_40 S_40 sc_40 li_40 rc_40 rn_40 ro_40 rd_40 st_40) H := hP
      have hD : va_D A (TSw cA a0 aR aM aW aP aS aC aO nW nE R f_40 us_40 P_40 S_40 sc_40 li_40 rc_40 rn_40 ro_40 rd_40 st_40) := hD
      refine lv_istore (lv' := [(4, .int r40), (3, .int (R a2.toNatClampNeg)), (0, .ref a0), (1, .int a1), (2, .int a2)]) hx hb d_T_copy_43 hl (by decide) rfl (fun ls hl => ?_)
      refine lv_iload hx hb d_T_copy_45 (lv_at hl 0 rfl) ?_
      refine rx_callv (vx_runS (As := [.int r40]) (rest := []) ⟨hx, hb, hml, hown, hw⟩ (mT_needMade l hlT sa r40 _ _ h) (va_cwS 1 hw g_T_54 rfl rfl rfl (by decide +kernel) ⟨Nat.le_of_ble_eq_true rfl, Nat.le_of_ble_eq_true rfl⟩) (xs_PS (xt_at hXT hS)) rfl rfl hl.1 rfl (lv_room (Nat.le_of_ble_eq_true rfl)) d_T_copy_47 ⟨Nat.le_of_ble_eq_true rfl, Nat.le_of_ble_eq_true rfl⟩) (fun E9 ce q9 H1 h hz hk hce hcv hcl => ?_) (fun h => ?_)
      · exact rx_out (R, f_40, us_40, P_40, S_40, sc_40, li_40, rc_40, rn_40, ro_40, rd_40, st_40) rfl hEx hlocks hK hP hD hS h hz hk hce hcv hcl (Nat.le_of_ble_eq_true rfl) (Nat.le_of_ble_eq_true rfl)
      · refine lv_aload_n hx hb d_T_copy_50 rfl (lv_at hl 2 rfl) ?_
        refine va_get (D := (dC, dI)) (ci := 0) (v := .ref aM) (C := R_T) (T := T_T) (N := 2) hx hb hw in_T hown hK hP 0 rfl rfl 1 (by decide) (hw _ wd_104) (fun _ h9 => h9) rfl d_T_copy_51 ?_
        refine lv_iload hx hb d_T_copy_54 (lv_at hl 0 rfl) ?_
        refine lv_iload_n hx hb d_T_copy_56 rfl (lv_at hl 1 rfl) ?_
        have hFc := va_free (wc := TSw cA a0 aR aM aW aP aS aC aO nW nE R f_40 us_40 P_40 S_40 sc_40 li_40 rc_40 rn_40 ro_40 rd_40 st_40) hD hS hA [0, 1, 2, 3, 4, 5, 6, 7] rfl
        refine va_callv (va_runV (As := [.int r40, .int (R a2.toNatClampNeg)]) (rest := []) ⟨hx, hb, hml, hown, hw⟩ (mM_fillLike l dC dI cA a0 aR aM aW aP aS aC aO nW nE H.size R f_40 us_40 P_40 S_40 sc_40 li_40 rc_40 rn_40 ro_40 rd_40 st_40 r40 (R a2.toNatClampNeg) _ h) (cwV 2 hw g_T_69 rfl rfl rfl (by decide +kernel) ⟨Nat.le_of_ble_eq_true rfl, Nat.le_of_ble_eq_true rfl⟩) (rw_PV (ci := 1) (q0 := 2) hK hP hD rfl rfl) rfl rfl hl.1 rfl (lv_room (Nat.le_of_ble_eq_true rfl)) d_T_copy_57 ⟨Nat.le_of_ble_eq_true rfl, Nat.le_of_ble_eq_true rfl⟩) hS (fun q _ h => hFc q h) hFc (fun u t H locs ht hvm h hB hz1 hk1 hS => ?_)
        obtain ⟨f_57, rfl⟩ : ∃ z, z = u := ⟨_, rfl⟩
        obtain ⟨hP, hK1, hD1⟩ := hB
        rw [ht] at hP
        have hD := hD1.weaken (fun _ _ _ q => hFc _ q)
        clear hFc hD1 hK1
        try dsimp only at h
        have hP : va_P (dC, dI) vwCl (TSw cA a0 aR aM aW aP aS aC aO nW nE R f_57 us_40 P_40 S_40 sc_40 li_40 rc_40 rn_40 ro_40 rd_40 st_40) H := hP
        have hD : va_D A (TSw cA a0 aR aM aW aP aS aC aO nW nE R f_57 us_40 P_40 S_40 sc_40 li_40 rc_40 rn_40 ro_40 rd_40 st_40) := hD
        refine lv_aload_n hx hb d_T_copy_60 rfl (lv_at hl 2 rfl) ?_
        refine lv_iload_n hx hb d_T_copy_61 rfl (lv_at hl 3 rfl) ?_
        refine lv_iload hx hb d_T_copy_62 (lv_at hl 0 rfl) ?_
        have hFc := va_free (wc := TSw cA a0 aR aM aW aP aS aC aO nW nE R f_57 us_40 P_40 S_40 sc_40 li_40 rc_40 rn_40 ro_40 rd_40 st_40) hD hS hA [0, 1, 2, 3, 4, 5, 6, 7] rfl
        refine va_callv (va_runV (As := [.int a1, .int r40]) (rest := []) ⟨hx, hb, hml, hown, hw⟩ (mT_setRegister l dC dI cA a0 aR aM aW aP aS aC aO nW nE H.size R f_57 us_40 P_40 S_40 sc_40 li_40 rc_40 rn_40 ro_40 rd_40 st_40 a1 r40 _ h) (cwV 2 hw g_T_43 rfl rfl rfl (by decide +kernel) ⟨Nat.le_of_ble_eq_true rfl, Nat.le_of_ble_eq_true rfl⟩) (rw_PV (ci := 0) (q0 := 0) hK hP hD rfl rfl) rfl rfl hl.1 rfl (lv_room (Nat.le_of_ble_eq_true rfl)) d_T_copy_64 ⟨Nat.le_of_ble_eq_true rfl, Nat.le_of_ble_eq_true rfl⟩) hS (fun q _ h => hFc q h) hFc (fun u t H locs ht hvm h hB hz1 hk1 hS => ?_)
        obtain ⟨R_64, st_64⟩ := u
        obtain ⟨hP, hK1, hD1⟩ := hB
        rw [ht] at hP
        have hD := hD1.weaken (fun _ _ _ q => hFc _ q)
        clear hFc hD1 hK1
        try dsimp only at h
        have hP : va_P (dC, dI) vwCl (TSw cA a0 aR aM aW aP aS aC aO nW nE R_64 f_57 us_40 P_40 S_40 sc_40 li_40 rc_40 rn_40 ro_40 rd_40 st_64) H := hP
        have hD : va_D A (TSw cA a0 aR aM aW aP aS aC aO nW nE R_64 f_57 us_40 P_40 S_40 sc_40 li_40 rc_40 rn_40 ro_40 rd_40 st_64) := hD
        refine lv_aload_n hx hb d_T_copy_67 rfl (lv_at hl 2 rfl) ?_
        refine va_get (D := (dC, dI)) (ci := 0) (v := .ref aM) (C := R_T) (T := T_T) (N := 2) hx hb hw in_T hown hK hP 0 rfl rfl 1 (by decide) (hw _ wd_104) (fun _ h9 => h9) rfl d_T_copy_68 ?_
        refine lv_iload hx hb d_T_copy_71 (lv_at hl 0 rfl) ?_
        refine rq_calli (W.runV (As := [.int r40]) (rest := []) ⟨hx, hb, hml, hown, hw⟩ (mM_identity l dC dI cA a0 aR aM aW aP aS aC aO nW nE R_64 f_57 us_40 P_40 S_40 sc_40 li_40 rc_40 rn_40 ro_40 rd_40 st_64 r40 _ h) (cwV 1 hw g_T_57 rfl rfl rfl (by decide +kernel) ⟨Nat.le_of_ble_eq_true rfl, Nat.le_of_ble_eq_true rfl⟩) (ro_PV (ci := 1) (q0 := 2) hK hP rfl rfl) rfl rfl hl.1 rfl (lv_room (Nat.le_of_ble_eq_true rfl)) d_T_copy_73 ⟨Nat.le_of_ble_eq_true rfl, Nat.le_of_ble_eq_true rfl⟩) (fun r73 h => ?_)
        refine W.widen (k := 4) (n := 24) (Nat.le_of_ble_eq_true rfl) (Nat.le_of_ble_eq_true rfl) ?_
        exact vx_ret (W.iret (v := r73) hx hb hr9 (fun t ht hW => ⟨⟨_, (R_64, f_57, us_40, P_40, S_40, sc_40, li_40, rc_40, rn_40, ro_40, rd_40, st_64), rfl, h, by rw [ht]; exact hP, va_K.moved hW.alike hK, hD⟩, hS.F ht⟩) hS.2.2 d_T_copy_76)
def wqT_chain_34 (nW : Nat) (nE : Nat) (y1_34 : Int32) (y2_34 : Int32) (y3_34 : Int32) (y4_34 : Int32) (y5_34 : Int32) (post : Int32 → (Nat → Int32) → (Nat → Int32) → Int32 → (Nat → Int32) → (Nat → Int32) → Int32 → Int32 → (Nat → Int32) → Int32 → (Nat → Int32) → Int32 → Int32 → Prop) (px : String → (Nat → Int32) → (Nat → Int32) → Int32 → (Nat → Int32) → (Nat → Int32) → Int32 → Int32 → (Nat → Int32) → Int32 → (Nat → Int32) → Int32 → Int32 → Prop) (kx : Int32 → (Nat → Int32) → (Nat → Int32) → Int32 → (Nat → Int32) → (Nat → Int32) → Int32 → Int32 → (Nat → Int32) → Int32 → (Nat → Int32) → Int32 → Int32 → Prop) : Nat → Int32 → (Nat → Int32) → (Nat → Int32) → Int32 → (Nat → Int32) → (Nat → Int32) → Int32 → Int32 → (Nat → Int32) → Int32 → (Nat → Int32) → Int32 → Int32 → Prop
  | 0, _, _, _, _, _, _, _, _, _, _, _, _, _ => False
  | n + 1, x6_34, R_34, f_34, us_34, P_34, S_34, sc_34, li_34, rc_34, rn_34, ro_34, rd_34, st_34 =>
    (y4_34 ≤ x6_34 → (kx x6_34 R_34 f_34 us_34 P_34 S_34 sc_34 li_34 rc_34 rn_34 ro_34 rd_34 st_34)) ∧ (¬ (y4_34 ≤ x6_34) → (vp_in y2_34 32 ∧ (wqM_build nW nE R_34 f_34 us_34 P_34 S_34 sc_34 li_34 rc_34 rn_34 ro_34 rd_34 st_34 (R_34 y2_34.toNatClampNeg) y5_34 (fun r57 f_57 us_57 P_57 S_57 sc_57 li_57 rc_57 rn_57 ro_57 rd_57 st_57 => (r57 = 0 → (post x6_34 R_34 f_57 us_57 P_57 S_57 sc_57 li_57 rc_57 rn_57 ro_57 rd_57 st_57)) ∧ (¬ (r57 = 0) → (vp_in y1_34 32 ∧ (wqM_setSlot nW nE f_57 P_57 st_57 r57 (0 : Int32) (R_34 y1_34.toNatClampNeg) (fun f_83 st_83 => vp_in y1_34 32 ∧ (wqT_chain_34 nW nE y1_34 y2_34 y3_34 y4_34 y5_34 post px kx n (x6_34 + (1 : Int32)) (upd R_34 y1_34.toNatClampNeg r57) f_83 us_57 P_57 S_57 sc_57 li_57 rc_57 rn_57 ro_57 rd_57 st_83)))))))))
def wqT_chain (nW : Nat) (nE : Nat) (R : Nat → Int32) (f : Nat → Int32) (us : Int32) (P : Nat → Int32) (S : Nat → Int32) (sc : Int32) (li : Int32) (rc : Nat → Int32) (rn : Int32) (ro : Nat → Int32) (rd : Int32) (st : Int32) (a1 : Int32) (a2 : Int32) (a3 : Int32) (a4 : Int32) (post : Int32 → (Nat → Int32) → (Nat → Int32) → Int32 → (Nat → Int32) → (Nat → Int32) → Int32 → Int32 → (Nat → Int32) → Int32 → (Nat → Int32) → Int32 → Int32 → Prop) (px : String → (Nat → Int32) → (Nat → Int32) → Int32 → (Nat → Int32) → (Nat → Int32) → Int32 → Int32 → (Nat → Int32) → Int32 → (Nat → Int32) → Int32 → Int32 → Prop) : Prop :=
  wqT_needRegister a1 (wqT_needRegister a2 (wqT_needBetween a3 (1 : Int32) (100 : Int32) (wqT_needBetween a4 (1 : Int32) (4000 : Int32) (wqM_shape a3 (1 : Int32) (fun r26 => ∃ k_34, wqT_chain_34 nW nE a1 a2 a3 a4 r26 post px (fun z6_34 Re_34 fe_34 use_34 Pe_34 Se_34 sce_34 lie_34 rce_34 rne_34 roe_34 rde_34 ste_34 => post a4 Re_34 fe_34 use_34 Pe_34 Se_34 sce_34 lie_34 rce_34 rne_34 roe_34 rde_34 ste_34) k_34 (0 : Int32) R f us P S sc li rc rn ro rd st)) (fun E => px E R f us P S sc li rc rn ro rd st)) (fun E => px E R f us P S sc li rc rn ro rd st)) (fun E => px E R f us P S sc li rc rn ro rd st)) (fun E => px E R f us P S sc li rc rn ro rd st)
set_option maxHeartbeats 4000000 in
set_option maxRecDepth 100000 in
theorem mT_chain (l : Launch) (hlT : l.stackTraces = false) (sa : Nat → Nat) (dC : Nat → ClassId) (dI : Nat → Nat → Nat) (cA : ClassId) (a0 : Nat) (aR : Nat) (aM : Nat) (aW : Nat) (aP : Nat) (aS : Nat) (aC : Nat) (aO : Nat) (nW : Nat) (nE : Nat) (sz : Nat) (R : Nat → Int32) (f : Nat → Int32) (us : Int32) (P : Nat → Int32) (S : Nat → Int32) (sc : Int32) (li : Int32) (rc : Nat → Int32) (rn : Int32) (ro : Nat → Int32) (rd : Int32) (st : Int32) (a1 : Int32) (a2 : Int32) (a3 : Int32) (a4 : Int32) (post : Int32 → (Nat → Int32) → (Nat → Int32) → Int32 → (Nat → Int32) → (Nat → Int32) → Int32 → Int32 → (Nat → Int32) → Int32 → (Nat → Int32) → Int32 → Int32 → Prop) (px : String → (Nat → Int32) → (Nat → Int32) → Int32 → (Nat → Int32) → (Nat → Int32) → Int32 → Int32 → (Nat → Int32) → Int32 → (Nat → Int32) → Int32 → Int32 → Prop) (h : wqT_chain nW nE R f us P S sc li rc rn ro rd st a1 a2 a3 a4 post px) : vx_Met l y_T_chain ws_T_chain ({ frames := 7, cells := 4, slots := 24, locals := 140 }) (xw_P (dC, dI) vwCl (TSw cA a0 aR aM aW aP aS aC aO nW nE R f us P S sc li rc rn ro rd st) [(cA, .int)] sz sa [.ref a0, .int a1, .int a2, .int a3, .int a4]) (va_Qi (fun (r : Int32) (u : (Nat → Int32) × (Nat → Int32) × Int32 × (Nat → Int32) × (Nat → Int32) × Int32 × Int32 × (Nat → Int32) × Int32 × (Nat → Int32) × Int32 × Int32) => post r u.1 u.2.1 u.2.2.1 u.2.2.2.1 u.2.2.2.2.1 u.2.2.2.2.2.1 u.2.2.2.2.2.2.1 u.2.2.2.2.2.2.2.1 u.2.2.2.2.2.2.2.2.1 u.2.2.2.2.2.2.2.2.2.1 u.2.2.2.2.2.2.2.2.2.2.1 u.2.2.2.2.2.2.2.2.2.2.2) (rw_B (dC, dI) vwCl [(cA, .int)] (va_A (TSw cA a0 aR aM aW aP aS aC aO nW nE R f us P S sc li rc rn ro rd st) sz) (fun u : (Nat → Int32) × (Nat → Int32) × Int32 × (Nat → Int32) × (Nat → Int32) × Int32 × Int32 × (Nat → Int32) × Int32 × (Nat → Int32) × Int32 × Int32 => TSw cA a0 aR aM aW aP aS aC aO nW nE u.1 u.2.1 u.2.2.1 u.2.2.2.1 u.2.2.2.2.1 u.2.2.2.2.2.1 u.2.2.2.2.2.2.1 u.2.2.2.2.2.2.2.1 u.2.2.2.2.2.2.2.2.1 u.2.2.2.2.2.2.2.2.2.1 u.2.2.2.2.2.2.2.2.2.2.1 u.2.2.2.2.2.2.2.2.2.2.2)) (va_A (TSw cA a0 aR aM aW aP aS aC aO nW nE R f us P S sc li rc rn ro rd st) sz)) (rw_X (dC, dI) vwCl [(cA, .int)] (va_A (TSw cA a0 aR aM aW aP aS aC aO nW nE R f us P S sc li rc rn ro rd st) sz) (fun u : (Nat → Int32) × (Nat → Int32) × Int32 × (Nat → Int32) × (Nat → Int32) × Int32 × Int32 × (Nat → Int32) × Int32 × (Nat → Int32) × Int32 × Int32 => TSw cA a0 aR aM aW aP aS aC aO nW nE u.1 u.2.1 u.2.2.1 u.2.2.2.1 u.2.2.2.2.1 u.2.2.2.2.2.1 u.2.2.2.2.2.2.1 u.2.2.2.2.2.2.2.1 u.2.2.2.2.2.2.2.2.1 u.2.2.2.2.2.2.2.2.2.1 u.2.2.2.2.2.2.2.2.2.2.1 u.2.2.2.2.2.2.2.2.2.2.2) (fun (E : String) (u : (Nat → Int32) × (Nat → Int32) × Int32 × (Nat → Int32) × (Nat → Int32) × Int32 × Int32 × (Nat → Int32) × Int32 × (Nat → Int32) × Int32 × Int32) => px E u.1 u.2.1 u.2.2.1 u.2.2.2.1 u.2.2.2.2.1 u.2.2.2.2.2.1 u.2.2.2.2.2.2.1 u.2.2.2.2.2.2.2.1 u.2.2.2.2.2.2.2.2.1 u.2.2.2.2.2.2.2.2.2.1 u.2.2.2.2.2.2.2.2.2.2.1 u.2.2.2.2.2.2.2.2.2.2.2)) 4 24 (va_A (TSw cA a0 aR aM aW aP aS aC aO nW nE R f us P S sc li rc rn ro rd st) sz) := by
  refine vx_ofW (cc := c_T_chain) (maxL := 8) (ret := (some .int)) (by decide) rfl ?_
  intro p e s m args below meth c s₁ B hml hEx hv
  obtain ⟨rfl, hsz, hP, hK, hD0, hXT⟩ := hv
  have hx := B.exec
  have hb := B.bytes
  have hr9 := B.returns
  have hts := atoms_spec (ws := ws_T_chain) B.pre
  have hw : ∀ w ∈ WB_, w.before _ s = true := fun w h => hts w (List.mem_cons_of_mem _ h)
  have hown : s.vm.findClass R_T = some m.cls := findClass_of_methodNamed B.named
  have hlocks := B.notSynchronized
  subst hsz
  have hD := hD0.self (sz := s.heap.size)
  generalize hAe : va_A (TSw cA a0 aR aM aW aP aS aC aO nW nE R f us P S sc li rc rn ro rd st) s.heap.size = A at hD hXT ⊢
  have hA : ∀ q : Nat, s.heap.size ≤ q → A q := fun q h => by rw [← hAe]; exact Or.inr h
  have hS : va_S A s.heap s.heap [] := va_S.rf
  have hl := lv_entry ([.ref a0, .int a1, .int a2, .int a3, .int a4]) (n := 8) (Nat.le_of_ble_eq_true rfl)
  rw [lg_entry_eq]
  generalize (lg_sl ([.ref a0, .int a1, .int a2, .int a3, .int a4]) ++ List.replicate (8 - (lg_sl ([.ref a0, .int a1, .int a2, .int a3, .int a4])).length) Slot.unset).toArray = ls at hl ⊢
  have hl : lv_has ls 8 [(0, .ref a0), (1, .int a1), (2, .int a2), (3, .int a3), (4, .int a4)] := hl
  have lp_34 : ∀ (y1_34 : Int32) (y2_34 : Int32) (y3_34 : Int32) (y4_34 : Int32) (y5_34 : Int32) (kx : Int32 → (Nat → Int32) → (Nat → Int32) → Int32 → (Nat → Int32) → (Nat → Int32) → Int32 → Int32 → (Nat → Int32) → Int32 → (Nat → Int32) → Int32 → Int32 → Prop), (∀ (z6_34 : Int32) (Re_34 : Nat → Int32) (fe_34 : Nat → Int32) (use_34 : Int32) (Pe_34 : Nat → Int32) (Se_34 : Nat → Int32) (sce_34 : Int32) (lie_34 : Int32) (rce_34 : Nat → Int32) (rne_34 : Int32) (roe_34 : Nat → Int32) (rde_34 : Int32) (ste_34 : Int32) (H : Heap) (locs : List Loc) (ls : Array Slot), va_P (dC, dI) vwCl (TSw cA a0 aR aM aW aP aS aC aO nW nE Re_34 fe_34 use_34 Pe_34 Se_34 sce_34 lie_34 rce_34 rne_34 roe_34 rde_34 ste_34) H → va_D A (TSw cA a0 aR aM aW aP aS aC aO nW nE Re_34 fe_34 use_34 Pe_34 Se_34 sce_34 lie_34 rce_34 rne_34 roe_34 rde_34 ste_34) → va_S A s.heap H locs → lv_has ls 8 [(0, .ref a0), (1, .int y1_34), (2, .int y2_34), (3, .int y3_34), (4, .int y4_34), (5, .int y5_34), (6, .int z6_34)] → kx z6_34 Re_34 fe_34 use_34 Pe_34 Se_34 sce_34 lie_34 rce_34 rne_34 roe_34 rde_34 ste_34 → W p l e (headSpec ws_T_chain ({ frames := 7, cells := 4, slots := 24, locals := 140 })).room s m ([.ref a0, .int a1, .int a2, .int a3, .int a4] : List Value).toArray below meth c H locs (4) (24) (vx_MQ below (va_Qi (fun (r : Int32) (u : (Nat → Int32) × (Nat → Int32) × Int32 × (Nat → Int32) × (Nat → Int32) × Int32 × Int32 × (Nat → Int32) × Int32 × (Nat → Int32) × Int32 × Int32) => post r u.1 u.2.1 u.2.2.1 u.2.2.2.1 u.2.2.2.2.1 u.2.2.2.2.2.1 u.2.2.2.2.2.2.1 u.2.2.2.2.2.2.2.1 u.2.2.2.2.2.2.2.2.1 u.2.2.2.2.2.2.2.2.2.1 u.2.2.2.2.2.2.2.2.2.2.1 u.2.2.2.2.2.2.2.2.2.2.2) (rw_B (dC, dI) vwCl [(cA, .int)] A (fun u : (Nat → Int32) × (Nat → Int32) × Int32 × (Nat → Int32) × (Nat → Int32) × Int32 × Int32 × (Nat → Int32) × Int32 × (Nat → Int32) × Int32 × Int32 => TSw cA a0 aR aM aW aP aS aC aO nW nE u.1 u.2.1 u.2.2.1 u.2.2.2.1 u.2.2.2.2.1 u.2.2.2.2.2.1 u.2.2.2.2.2.2.1 u.2.2.2.2.2.2.2.1 u.2.2.2.2.2.2.2.2.1 u.2.2.2.2.2.2.2.2.2.1 u.2.2.2.2.2.2.2.2.2.2.1 u.2.2.2.2.2.2.2.2.2.2.2)) A) (rw_X (dC, dI) vwCl [(cA, .int)] A (fun u : (Nat → Int32) × (Nat → Int32) × Int32 × (Nat → Int32) × (Nat → Int32) × Int32 × Int32 × (Nat → Int32) × Int32 × (Nat → Int32) × Int32 × Int32 => TSw cA a0 aR aM aW aP aS aC aO nW nE u.1 u.2.1 u.2.2.1 u.2.2.2.1 u.2.2.2.2.1 u.2.2.2.2.2.1 u.2.2.2.2.2.2.1 u.2.2.2.2.2.2.2.1 u.2.2.2.2.2.2.2.2.1 u.2.2.2.2.2.2.2.2.2.1 u.2.2.2.2.2.2.2.2.2.2.1 u.2.2.2.2.2.2.2.2.2.2.2) (fun (E : String) (u : (Nat → Int32) × (Nat → Int32) × Int32 × (Nat → Int32) × (Nat → Int32) × Int32 × Int32 × (Nat → Int32) × Int32 × (Nat → Int32) × Int32 × Int32) => px E u.1 u.2.1 u.2.2.1 u.2.2.2.1 u.2.2.2.2.1 u.2.2.2.2.2.1 u.2.2.2.2.2.2.1 u.2.2.2.2.2.2.2.1 u.2.2.2.2.2.2.2.2.1 u.2.2.2.2.2.2.2.2.2.1 u.2.2.2.2.2.2.2.2.2.2.1 u.2.2.2.2.2.2.2.2.2.2.2)) ([.ref a0, .int a1, .int a2, .int a3, .int a4] : List Value).toArray s 4 24 A) (F0 m 100 ls [])) → ∀ (n : Nat) (x6_34 : Int32) (R_34 : Nat → Int32) (f_34 : Nat → Int32) (us_34 : Int32) (P_34 : Nat → Int32) (S_34 : Nat → Int32) (sc_34 : Int32) (li_34 : Int32) (rc_34 : Nat → Int32) (rn_34 : Int32) (ro_34 : Nat → Int32) (rd_34 : Int32) (st_34 : Int32) (H : Heap) (locs : List Loc) (ls : Array Slot), va_P (dC, dI) vwCl (TSw cA a0 aR aM aW aP aS aC aO nW nE R_34 f_34 us_34 P_34 S_34 sc_34 li_34 rc_34 rn_34 ro_34 rd_34 st_34) H → va_D A (TSw cA a0 aR aM aW aP aS aC aO nW nE R_34 f_34 us_34 P_34 S_34 sc_34 li_34 rc_34 rn_34 ro_34 rd_34 st_34) → va_S A s.heap H locs → lv_has ls 8 [(0, .ref a0), (1, .int y1_34), (2, .int y2_34), (3, .int y3_34), (4, .int y4_34), (5, .int y5_34), (6, .int x6_34)] → wqT_chain_34 nW nE y1_34 y2_34 y3_34 y4_34 y5_34 post px kx n x6_34 R_34 f_34 us_34 P_34 S_34 sc_34 li_34 rc_34 rn_34 ro_34 rd_34 st_34 → W p l e (headSpec ws_T_chain ({ frames := 7, cells := 4, slots := 24, locals := 140 })).room s m ([.ref a0, .int a1, .int a2, .int a3, .int a4] : List Value).toArray below meth c H locs (4) (24) (vx_MQ below (va_Qi (fun (r : Int32) (u : (Nat → Int32) × (Nat → Int32) × Int32 × (Nat → Int32) × (Nat → Int32) × Int32 × Int32 × (Nat → Int32) × Int32 × (Nat → Int32) × Int32 × Int32) => post r u.1 u.2.1 u.2.2.1 u.2.2.2.1 u.2.2.2.2.1 u.2.2.2.2.2.1 u.2.2.2.2.2.2.1 u.2.2.2.2.2.2.2.1 u.2.2.2.2.2.2.2.2.1 u.2.2.2.2.2.2.2.2.2.1 u.2.2.2.2.2.2.2.2.2.2.1 u.2.2.2.2.2.2.2.2.2.2.2) (rw_B (dC, dI) vwCl [(cA, .int)] A (fun u : (Nat → Int32) × (Nat → Int32) × Int32 × (Nat → Int32) × (Nat → Int32) × Int32 × Int32 × (Nat → Int32) × Int32 × (Nat → Int32) × Int32 × Int32 => TSw cA a0 aR aM aW aP aS aC aO nW nE u.1 u.2.1 u.2.2.1 u.2.2.2.1 u.2.2.2.2.1 u.2.2.2.2.2.1 u.2.2.2.2.2.2.1 u.2.2.2.2.2.2.2.1 u.2.2.2.2.2.2.2.2.1 u.2.2.2.2.2.2.2.2.2.1 u.2.2.2.2.2.2.2.2.2.2.1 u.2.2.2.2.2.2.2.2.2.2.2)) A) (rw_X (dC, dI) vwCl [(cA, .int)] A (fun u : (Nat → Int32) × (Nat → Int32) × Int32 × (Nat → Int32) × (Nat → Int32) × Int32 × Int32 × (Nat → Int32) × Int32 × (Nat → Int32) × Int32 × Int32 => TSw cA a0 aR aM aW aP aS aC aO nW nE u.1 u.2.1 u.2.2.1 u.2.2.2.1 u.2.2.2.2.1 u.2.2.2.2.2.1 u.2.2.2.2.2.2.1 u.2.2.2.2.2.2.2.1 u.2.2.2.2.2.2.2.2.1 u.2.2.2.2.2.2.2.2.2.1 u.2.2.2.2.2.2.2.2.2.2.1 u.2.2.2.2.2.2.2.2.2.2.2) (fun (E : String) (u : (Nat → Int32) × (Nat → Int32) × Int32 × (Nat → Int32) × (Nat → Int32) × Int32 × Int32 × (Nat → Int32) × Int32 × (Nat → Int32) × Int32 × Int32) => px E u.1 u.2.1 u.2.2.1 u.2.2.2.1 u.2.2.2.2.1 u.2.2.2.2.2.1 u.2.2.2.2.2.2.1 u.2.2.2.2.2.2.2.1 u.2.2.2.2.2.2.2.2.1 u.2.2.2.2.2.2.2.2.2.1 u.2.2.2.2.2.2.2.2.2.2.1 u.2.2.2.2.2.2.2.2.2.2.2)) ([.ref a0, .int a1, .int a2, .int a3, .int a4] : List Value).toArray s 4 24 A) (F0 m 34 ls []) := by
    intro y1_34 y2_34 y3_34 y4_34 y5_34 kx K n
    induction n with
    | zero => intro x6_34 R_34 f_34 us_34 P_34 S_34 sc_34 li_34 rc_34 rn_34 ro_34 rd_34 st_34 H locs ls hP hD hS hl h; exact h.elim
    | succ n ih =>
      intro x6_34 R_34 f_34 us_34 P_34 S_34 sc_34 li_34 rc_34 rn_34 ro_34 rd_34 st_34 H locs ls hP hD hS hl h
      refine lv_iload hx hb d_T_chain_34 (lv_at hl 6 rfl) ?_
      refine lv_iload hx hb d_T_chain_36 (lv_at hl 4 rfl) ?_
      refine lv_icmp_ge (tgt := 100) hx hb d_T_chain_38 (by decide) (fun c_38 => ?_) (fun c_38 => ?_)
      · have h := h.1 c_38
        exact K x6_34 R_34 f_34 us_34 P_34 S_34 sc_34 li_34 rc_34 rn_34 ro_34 rd_34 st_34 H locs ls hP hD hS (lv_sub hl [0, 1, 2, 3, 4, 5, 6] rfl) h
      · have h := h.2 c_38
        refine lv_aload_n hx hb d_T_chain_41 rfl (lv_at hl 0 rfl) ?_
        refine va_get (D := (dC, dI)) (ci := 0) (v := .ref aM) (C := R_T) (T := T_T) (N := 2) hx hb hw in_T hown hK hP 0 rfl rfl 1 (by decide) (hw _ wd_104) (fun _ h9 => h9) rfl d_T_chain_42 ?_
        refine lv_aload_n hx hb d_T_chain_45 rfl (lv_at hl 0 rfl) ?_
        refine va_get (D := (dC, dI)) (ci := 0) (v := .ref aR) (C := R_T) (T := T_T) (N := 2) hx hb hw in_T hown hK hP 0 rfl rfl 0 (by decide) (hw _ wd_103) (fun _ h9 => h9) rfl d_T_chain_46 ?_
        refine lv_iload_n hx hb d_T_chain_49 rfl (lv_at hl 2 rfl) ?_
        refine va_iald hx hb hK hP 1 0 rfl rfl h.1 d_T_chain_50 ?_
        have h := h.2
        refine lv_iload hx hb d_T_chain_51 (lv_at hl 5 rfl) ?_
        refine lv_aload_n hx hb d_T_chain_53 rfl (lv_at hl 0 rfl) ?_
        refine va_get (D := (dC, dI)) (ci := 0) (v := .ref aR) (C := R_T) (T := T_T) (N := 2) hx hb hw in_T hown hK hP 0 rfl rfl 0 (by decide) (hw _ wd_103) (fun _ h9 => h9) rfl d_T_chain_54 ?_
        have hFc := va_free (wc := TSw cA a0 aR aM aW aP aS aC aO nW nE R_34 f_34 us_34 P_34 S_34 sc_34 li_34 rc_34 rn_34 ro_34 rd_34 st_34) hD hS hA [0, 1, 2, 3, 4, 5, 6, 7] rfl
        refine va_calli (va_runV (As := [.int (R_34 y2_34.toNatClampNeg), .int y5_34, .ref aR]) (rest := []) ⟨hx, hb, hml, hown, hw⟩ (mM_build l dC dI cA a0 aR aM aW aP aS aC aO nW nE H.size R_34 f_34 us_34 P_34 S_34 sc_34 li_34 rc_34 rn_34 ro_34 rd_34 st_34 (R_34 y2_34.toNatClampNeg) y5_34 _ h) (cwV 3 hw g_T_50 rfl rfl rfl (by decide +kernel) ⟨Nat.le_of_ble_eq_true rfl, Nat.le_of_ble_eq_true rfl⟩) (rw_PV (ci := 1) (q0 := 2) hK hP hD rfl rfl) rfl rfl hl.1 rfl (lv_room (Nat.le_of_ble_eq_true rfl)) d_T_chain_57 ⟨Nat.le_of_ble_eq_true rfl, Nat.le_of_ble_eq_true rfl⟩) hS (fun q _ h => hFc q h) hFc (fun r57 u t H locs ht hvm h hB hz1 hk1 hS => ?_)
        obtain ⟨f_57, us_57, P_57, S_57, sc_57, li_57, rc_57, rn_57, ro_57, rd_57, st_57⟩ := u
        obtain ⟨hP, hK1, hD1⟩ := hB
        rw [ht] at hP
        have hD := hD1.weaken (fun _ _ _ q => hFc _ q)
        clear hFc hD1 hK1
        try dsimp only at h
        have hP : va_P (dC, dI) vwCl (TSw cA a0 aR aM aW aP aS aC aO nW nE R_34 f_57 us_57 P_57 S_57 sc_57 li_57 rc_57 rn_57 ro_57 rd_57 st_57) H := hP
        have hD : va_D A (TSw cA a0 aR aM aW aP aS aC aO nW nE R_34 f_57 us_57 P_57 S_57 sc_57 li_57 rc_57 rn_57 ro_57 rd_57 st_57) := hD
        refine lv_istore (lv' := [(7, .int r57), (0, .ref a0), (1, .int y1_34), (2, .int y2_34), (3, .int y3_34), (4, .int y4_34), (5, .int y5_34), (6, .int x6_34)]) hx hb d_T_chain_60 hl (by decide) rfl (fun ls hl => ?_)
        refine lv_iload hx hb d_T_chain_62 (lv_at hl 0 rfl) ?_
        refine lv_if_ne (tgt := 70) hx hb d_T_chain_64 (by decide) (fun c_64 => ?_) (fun c_64 => ?_)
        · have h := h.2 c_64
          refine lv_aload_n hx hb d_T_chain_70 rfl (lv_at hl 1 rfl) ?_
          refine va_get (D := (dC, dI)) (ci := 0) (v := .ref aM) (C := R_T) (T := T_T) (N := 2) hx hb hw in_T hown hK hP 0 rfl rfl 1 (by decide) (hw _ wd_104) (fun _ h9 => h9) rfl d_T_chain_71 ?_
          refine lv_iload hx hb d_T_chain_74 (lv_at hl 0 rfl) ?_
          refine lv_iconst (v := (0 : Int32)) hx hb d_T_chain_76 (by decide) ?_
          refine lv_aload_n hx hb d_T_chain_77 rfl (lv_at hl 1 rfl) ?_
          refine va_get (D := (dC, dI)) (ci := 0) (v := .ref aR) (C := R_T) (T := T_T) (N := 2) hx hb hw in_T hown hK hP 0 rfl rfl 0 (by decide) (hw _ wd_103) (fun _ h9 => h9) rfl d_T_chain_78 ?_
          refine lv_iload_n hx hb d_T_chain_81 rfl (lv_at hl 2 rfl) ?_
          refine va_iald hx hb hK hP 1 0 rfl rfl h.1 d_T_chain_82 ?_
          have h := h.2
          have hFc := va_free (wc := TSw cA a0 aR aM aW aP aS aC aO nW nE R_34 f_57 us_57 P_57 S_57 sc_57 li_57 rc_57 rn_57 ro_57 rd_57 st_57) hD hS hA [0, 1, 2, 3, 4, 5, 6, 7] rfl
          refine va_callv (va_runV (As := [.int r57, .int (0 : Int32), .int (R_34 y1_34.toNatClampNeg)]) (rest := []) ⟨hx, hb, hml, hown, hw⟩ (mM_setSlot l dC dI cA a0 aR aM aW aP aS aC aO nW nE H.size R_34 f_57 us_57 P_57 S_57 sc_57 li_57 rc_57 rn_57 ro_57 rd_57 st_57 r57 (0 : Int32) (R_34 y1_34.toNatClampNeg) _ h) (cwV 3 hw g_T_72 rfl rfl rfl (by decide +kernel) ⟨Nat.le_of_ble_eq_true rfl, Nat.le_of_ble_eq_true rfl⟩) (rw_PV (ci := 1) (q0 := 2) hK hP hD rfl rfl) rfl rfl hl.1 rfl (lv_room (Nat.le_of_ble_eq_true rfl)) d_T_chain_83 ⟨Nat.le_of_ble_eq_true rfl, Nat.le_of_ble_eq_true rfl⟩) hS (fun q _ h => hFc q h) hFc (fun u t H locs ht hvm h hB hz1 hk1 hS => ?_)
          obtain ⟨f_83, st_83⟩ := u
          obtain ⟨hP, hK1, hD1⟩ := hB
          rw [ht] at hP
          have hD := hD1.weaken (fun _ _ _ q => hFc _ q)
          clear hFc hD1 hK1
          try dsimp only at h
          have hP : va_P (dC, dI) vwCl (TSw cA a0 aR aM aW aP aS aC aO nW nE R_34 f_83 us_57 P_57 S_57 sc_57 li_57 rc_57 rn_57 ro_57 rd_57 st_83) H := hP
          have hD : va_D A (TSw cA a0 aR aM aW aP aS aC aO nW nE R_34 f_83 us_57 P_57 S_57 sc_57 li_57 rc_57 rn_57 ro_57 rd_57 st_83) := hD
          refine lv_aload_n hx hb d_T_chain_86 rfl (lv_at hl 1 rfl) ?_
          refine va_get (D := (dC, dI)) (ci := 0) (v := .ref aR) (C := R_T) (T := T_T) (N := 2) hx hb hw in_T hown hK hP 0 rfl rfl 0 (by decide) (hw _ wd_103) (fun _ h9 => h9) rfl d_T_chain_87 ?_
          refine lv_iload_n hx hb d_T_chain_90 rfl (lv_at hl 2 rfl) ?_
          refine lv_iload hx hb d_T_chain_91 (lv_at hl 0 rfl) ?_
          refine va_iast hx hb hK hP hD hS 1 0 rfl rfl h.1 d_T_chain_93 (fun H locs hP hD hS => ?_)
          have hP : va_P (dC, dI) vwCl (TSw cA a0 aR aM aW aP aS aC aO nW nE (upd R_34 y1_34.toNatClampNeg r57) f_83 us_57 P_57 S_57 sc_57 li_57 rc_57 rn_57 ro_57 rd_57 st_83) H := hP
          have hD : va_D A (TSw cA a0 aR aM aW aP aS aC aO nW nE (upd R_34 y1_34.toNatClampNeg r57) f_83 us_57 P_57 S_57 sc_57 li_57 rc_57 rn_57 ro_57 rd_57 st_83) := hD
          have h := h.2
          refine lv_iinc (v := x6_34 + (1 : Int32)) (lv' := [(6, .int (x6_34 + (1 : Int32))), (7, .int r57), (0, .ref a0), (1, .int y1_34), (2, .int y2_34), (3, .int y3_34), (4, .int y4_34), (5, .int y5_34)]) hx hb d_T_chain_94 hl (k := 7) rfl rfl (by decide) rfl (fun ls hl => ?_)
          refine lv_goto (tgt := 34) hx hb d_T_chain_97 (by decide) ?_
          exact ih (x6_34 + (1 : Int32)) (upd R_34 y1_34.toNatClampNeg r57) f_83 us_57 P_57 S_57 sc_57 li_57 rc_57 rn_57 ro_57 rd_57 st_83 H locs ls hP hD hS (lv_sub hl [2, 3, 4, 5, 6, 7, 0] rfl) h
        · have h := h.1 c_64
          refine lv_iload hx hb d_T_chain_67 (lv_at hl 7 rfl) ?_
          refine W.widen (k := 4) (n := 24) (Nat.le_of_ble_eq_true rfl) (Nat.le_of_ble_eq_true rfl) ?_
          exact vx_ret (W.iret (v := x6_34) hx hb hr9 (fun t ht hW => ⟨⟨_, (R_34, f_57, us_57, P_57, S_57, sc_57, li_57, rc_57, rn_57, ro_57, rd_57, st_57), rfl, h, by rw [ht]; exact hP, va_K.moved hW.alike hK, hD⟩, hS.F ht⟩) hS.2.2 d_T_chain_69)
  unfold wqT_chain at h
  refine lv_iload_n hx hb d_T_chain_0 rfl (lv_at hl 1 rfl) ?_
  refine rx_callv (vx_runS (As := [.int a1]) (rest := []) ⟨hx, hb, hml, hown, hw⟩ (mT_needRegister l hlT sa a1 _ _ h) (va_cwS 1 hw g_T_27 rfl rfl rfl (by decide +kernel) ⟨Nat.le_of_ble_eq_true rfl, Nat.le_of_ble_eq_true rfl⟩) (xs_PS (xt_at hXT hS)) rfl rfl hl.1 rfl (lv_room (Nat.le_of_ble_eq_true rfl)) d_T_chain_1 ⟨Nat.le_of_ble_eq_true rfl, Nat.le_of_ble_eq_true rfl⟩) (fun E9 ce q9 H1 h hz hk hce hcv hcl => ?_) (fun h => ?_)
  · exact rx_out (R, f, us, P, S, sc, li, rc, rn, ro, rd, st) rfl hEx hlocks hK hP hD hS h hz hk hce hcv hcl (Nat.le_of_ble_eq_true rfl) (Nat.le_of_ble_eq_true rfl)
  · refine lv_iload_n hx hb d_T_chain_4 rfl (lv_at hl 2 rfl) ?_
    refine rx_callv (vx_runS (As := [.int a2]) (rest := []) ⟨hx, hb, hml, hown, hw⟩ (mT_needRegister l hlT sa a2 _ _ h) (va_cwS 1 hw g_T_27 rfl rfl rfl (by decide +kernel) ⟨Nat.le_of_ble_eq_true rfl, Nat.le_of_ble_eq_true rfl⟩) (xs_PS (xt_at hXT hS)) rfl rfl hl.1 rfl (lv_room (Nat.le_of_ble_eq_true rfl)) d_T_chain_5 ⟨Nat.le_of_ble_eq_true rfl, Nat.le_of_ble_eq_true rfl⟩) (fun E9 ce q9 H1 h hz hk hce hcv hcl => ?_) (fun h => ?_)
    · exact rx_out (R, f, us, P, S, sc, li, rc, rn, ro, rd, st) rfl hEx hlocks hK hP hD hS h hz hk hce hcv hcl (Nat.le_of_ble_eq_true rfl) (Nat.le_of_ble_eq_true rfl)
    · refine lv_iload_n hx hb d_T_chain_8 rfl (lv_at hl 3 rfl) ?_
      refine lv_iconst (v := (1 : Int32)) hx hb d_T_chain_9 (by decide) ?_
      refine lv_bipush (v := (100 : Int32)) hx hb d_T_chain_10 (by decide) ?_
      refine rx_callv (vx_runS (As := [.int a3, .int (1 : Int32), .int (100 : Int32)]) (rest := []) ⟨hx, hb, hml, hown, hw⟩ (mT_needBetween l hlT sa a3 (1 : Int32) (100 : Int32) _ _ h) (va_cwS 3 hw g_T_33 rfl rfl rfl (by decide +kernel) ⟨Nat.le_of_ble_eq_true rfl, Nat.le_of_ble_eq_true rfl⟩) (xs_PS (xt_at hXT hS)) rfl rfl hl.1 rfl (lv_room (Nat.le_of_ble_eq_true rfl)) d_T_chain_12 ⟨Nat.le_of_ble_eq_true rfl, Nat.le_of_ble_eq_true rfl⟩) (fun E9 ce q9 H1 h hz hk hce hcv hcl => ?_) (fun h => ?_)
      · exact rx_out (R, f, us, P, S, sc, li, rc, rn, ro, rd, st) rfl hEx hlocks hK hP hD hS h hz hk hce hcv hcl (Nat.le_of_ble_eq_true rfl) (Nat.le_of_ble_eq_true rfl)
      · refine lv_iload hx hb d_T_chain_15 (lv_at hl 4 rfl) ?_
        refine lv_iconst (v := (1 : Int32)) hx hb d_T_chain_17 (by decide) ?_
        refine lv_sipush (v := (4000 : Int32)) hx hb d_T_chain_18 (by decide) ?_
        refine rx_callv (vx_runS (As := [.int a4, .int (1 : Int32), .int (4000 : Int32)]) (rest := []) ⟨hx, hb, hml, hown, hw⟩ (mT_needBetween l hlT sa a4 (1 : Int32) (4000 : Int32) _ _ h) (va_cwS 3 hw g_T_33 rfl rfl rfl (by decide +kernel) ⟨Nat.le_of_ble_eq_true rfl, Nat.le_of_ble_eq_true rfl⟩) (xs_PS (xt_at hXT hS)) rfl rfl hl.1 rfl (lv_room (Nat.le_of_ble_eq_true rfl)) d_T_chain_21 ⟨Nat.le_of_ble_eq_true rfl, Nat.le_of_ble_eq_true rfl⟩) (fun E9 ce q9 H1 h hz hk hce hcv hcl => ?_) (fun h => ?_)
        · exact rx_out (R, f, us, P, S, sc, li, rc, rn, ro, rd, st) rfl hEx hlocks hK hP hD hS h hz hk hce hcv hcl (Nat.le_of_ble_eq_true rfl) (Nat.le_of_ble_eq_true rfl)
        · refine lv_iload_n hx hb d_T_chain_24 rfl (lv_at hl 3 rfl) ?_
          refine lv_iconst (v := (1 : Int32)) hx hb d_T_chain_25 (by decide) ?_
          refine rq_calli (W.runS (As := [.int a3, .int (1 : Int32)]) (rest := []) ⟨hx, hb, hml, hown, hw⟩ (mM_shape l a3 (1 : Int32) _ h) (va_cwS 2 hw g_T_46 rfl rfl rfl (by decide +kernel) ⟨Nat.le_of_ble_eq_true rfl, Nat.le_of_ble_eq_true rfl⟩) preEq rfl rfl hl.1 rfl (lv_room (Nat.le_of_ble_eq_true rfl)) d_T_chain_26 ⟨Nat.le_of_ble_eq_true rfl, Nat.le_of_ble_eq_true rfl⟩) (fun r26 h => ?_)
          refine lv_istore (lv' := [(5, .int r26), (0, .ref a0), (1, .int a1), (2, .int a2), (3, .int a3), (4, .int a4)]) hx hb d_T_chain_29 hl (by decide) rfl (fun ls hl => ?_)
          refine lv_iconst (v := (0 : Int32)) hx hb d_T_chain_31 (by decide) ?_
          refine lv_istore (lv' := [(6, .int (0 : Int32)), (5, .int r26), (0, .ref a0), (1, .int a1), (2, .int a2), (3, .int a3), (4, .int a4)]) hx hb d_T_chain_32 hl (by decide) rfl (fun ls hl => ?_)
          obtain ⟨n_34, h⟩ := h
          refine lp_34 a1 a2 a3 a4 r26 _ (fun z6_34 Re_34 fe_34 use_34 Pe_34 Se_34 sce_34 lie_34 rce_34 rne_34 roe_34 rde_34 ste_34 H locs ls hP hD hS hl h => ?_) n_34 (0 : Int32) R f us P S sc li rc rn ro rd st s.heap [] ls hP hD hS (lv_sub hl [2, 3, 4, 5, 6, 1, 0] rfl) h
          refine lv_iload hx hb d_T_chain_100 (lv_at hl 4 rfl) ?_
          refine W.widen (k := 4) (n := 24) (Nat.le_of_ble_eq_true rfl) (Nat.le_of_ble_eq_true rfl) ?_
          exact vx_ret (W.iret (v := a4) hx hb hr9 (fun t ht hW => ⟨⟨_, (Re_34, fe_34, use_34, Pe_34, Se_34, sce_34, lie_34, rce_34, rne_34, roe_34, rde_34, ste_34), rfl, h, by rw [ht]; exact hP, va_K.moved hW.alike hK, hD⟩, hS.F ht⟩) hS.2.2 d_T_chain_102)
def wqT_get (nW : Nat) (nE : Nat) (R : Nat → Int32) (f : Nat → Int32) (P : Nat → Int32) (st : Int32) (a1 : Int32) (a2 : Int32) (a3 : Int32) (post : (Nat → Int32) → Int32 → Prop) (px : String → (Nat → Int32) → Int32 → Prop) : Prop :=
  wqT_needRegister a1 (wqT_needSlots nW nE R f P a2 (wqT_needIndex nW nE R f P a2 a3 (vp_in a2 32 ∧ (wqM_slot nW nE f P (R a2.toNatClampNeg) a3 (fun r28 => wqT_setRegister nW nE R st a1 r28 (fun R_31 st_31 => post R_31 st_31)))) (fun E => px E R st)) (fun E => px E R st)) (fun E => px E R st)
set_option maxHeartbeats 4000000 in
set_option maxRecDepth 100000 in
theorem mT_get (l : Launch) (hlT : l.stackTraces = false) (sa : Nat → Nat) (dC : Nat → ClassId) (dI : Nat → Nat → Nat) (cA : ClassId) (a0 : Nat) (aR : Nat) (aM : Nat) (aW : Nat) (aP : Nat) (aS : Nat) (aC : Nat) (aO : Nat) (nW : Nat) (nE : Nat) (sz : Nat) (R : Nat → Int32) (f : Nat → Int32) (us : Int32) (P : Nat → Int32) (S : Nat → Int32) (sc : Int32) (li : Int32) (rc : Nat → Int32) (rn : Int32) (ro : Nat → Int32) (rd : Int32) (st : Int32) (a1 : Int32) (a2 : Int32) (a3 : Int32) (post : (Nat → Int32) → Int32 → Prop) (px : String → (Nat → Int32) → Int32 → Prop) (h : wqT_get nW nE R f P st a1 a2 a3 post px) : vx_Met l y_T_get ws_T_get ({ frames := 8, cells := 4, slots := 24, locals := 141 }) (xw_P (dC, dI) vwCl (TSw cA a0 aR aM aW aP aS aC aO nW nE R f us P S sc li rc rn ro rd st) [(cA, .int)] sz sa [.ref a0, .int a1, .int a2, .int a3]) (va_Qv (fun u : (Nat → Int32) × Int32 => post u.1 u.2) (rw_B (dC, dI) vwCl [(cA, .int)] (va_A (TSw cA a0 aR aM aW aP aS aC aO nW nE R f us P S sc li rc rn ro rd st) sz) (fun u : (Nat → Int32) × Int32 => TSw cA a0 aR aM aW aP aS aC aO nW nE u.1 f us P S sc li rc rn ro rd u.2)) (va_A (TSw cA a0 aR aM aW aP aS aC aO nW nE R f us P S sc li rc rn ro rd st) sz)) (rw_X (dC, dI) vwCl [(cA, .int)] (va_A (TSw cA a0 aR aM aW aP aS aC aO nW nE R f us P S sc li rc rn ro rd st) sz) (fun u : (Nat → Int32) × Int32 => TSw cA a0 aR aM aW aP aS aC aO nW nE u.1 f us P S sc li rc rn ro rd u.2) (fun (E : String) (u : (Nat → Int32) × Int32) => px E u.1 u.2)) 4 24 (va_A (TSw cA a0 aR aM aW aP aS aC aO nW nE R f us P S sc li rc rn ro rd st) sz) := by
  refine vx_ofW (cc := c_T_get) (maxL := 4) (ret := none) (by decide) rfl ?_
  intro p e s m args below meth c s₁ B hml hEx hv
  obtain ⟨rfl, hsz, hP, hK, hD0, hXT⟩ := hv
  have hx := B.exec
  have hb := B.bytes
  have hr9 := B.returns
  have hts := atoms_spec (ws := ws_T_get) B.pre
  have hw : ∀ w ∈ WB_, w.before _ s = true := fun w h => hts w (List.mem_cons_of_mem _ h)
  have hown : s.vm.findClass R_T = some m.cls := findClass_of_methodNamed B.named
  have hlocks := B.notSynchronized
  subst hsz
  have hD := hD0.self (sz := s.heap.size)
  generalize hAe : va_A (TSw cA a0 aR aM aW aP aS aC aO nW nE R f us P S sc li rc rn ro rd st) s.heap.size = A at hD hXT ⊢
  have hA : ∀ q : Nat, s.heap.size ≤ q → A q := fun q h => by rw [← hAe]; exact Or.inr h
  have hS : va_S A s.heap s.heap [] := va_S.rf
  have hl := lv_entry ([.ref a0, .int a1, .int a2, .int a3]) (n := 4) (Nat.le_of_ble_eq_true rfl)
  rw [lg_entry_eq]
  generalize (lg_sl ([.ref a0, .int a1, .int a2, .int a3]) ++ List.replicate (4 - (lg_sl ([.ref a0, .int a1, .int a2, .int a3])).length) Slot.unset).toArray = ls at hl ⊢
  have hl : lv_has ls 4 [(0, .ref a0), (1, .int a1), (2, .int a2), (3, .int a3)] := hl
  unfold wqT_get at h
  refine lv_iload_n hx hb d_T_get_0 rfl (lv_at hl 1 rfl) ?_
  refine rx_callv (vx_runS (As := [.int a1]) (rest := []) ⟨hx, hb, hml, hown, hw⟩ (mT_needRegister l hlT sa a1 _ _ h) (va_cwS 1 hw g_T_27 rfl rfl rfl (by decide +kernel) ⟨Nat.le_of_ble_eq_true rfl, Nat.le_of_ble_eq_true rfl⟩) (xs_PS (xt_at hXT hS)) rfl rfl hl.1 rfl (lv_room (Nat.le_of_ble_eq_true rfl)) d_T_get_1 ⟨Nat.le_of_ble_eq_true rfl, Nat.le_of_ble_eq_true rfl⟩) (fun E9 ce q9 H1 h hz hk hce hcv hcl => ?_) (fun h => ?_)
  · exact rx_out (R, st) rfl hEx hlocks hK hP hD hS h hz hk hce hcv hcl (Nat.le_of_ble_eq_true rfl) (Nat.le_of_ble_eq_true rfl)
  · refine lv_aload_n hx hb d_T_get_4 rfl (lv_at hl 0 rfl) ?_
    refine lv_iload_n hx hb d_T_get_5 rfl (lv_at hl 2 rfl) ?_
    refine rx_callv (vx_runV (As := [.int a2]) (rest := []) ⟨hx, hb, hml, hown, hw⟩ (mT_needSlots l hlT sa dC dI cA a0 aR aM aW aP aS aC aO nW nE R f us P S sc li rc rn ro rd st a2 _ _ h) (cwV 1 hw g_T_75 rfl rfl rfl (by decide +kernel) ⟨Nat.le_of_ble_eq_true rfl, Nat.le_of_ble_eq_true rfl⟩) (xo_PV (ci := 0) (q0 := 0) hK hP (xt_at hXT hS) rfl rfl) rfl rfl hl.1 rfl (lv_room (Nat.le_of_ble_eq_true rfl)) d_T_get_6 ⟨Nat.le_of_ble_eq_true rfl, Nat.le_of_ble_eq_true rfl⟩) (fun E9 ce q9 H1 h hz hk hce hcv hcl => ?_) (fun h => ?_)
    · exact rx_out (R, st) rfl hEx hlocks hK hP hD hS h hz hk hce hcv hcl (Nat.le_of_ble_eq_true rfl) (Nat.le_of_ble_eq_true rfl)
    · refine lv_aload_n hx hb d_T_get_9 rfl (lv_at hl 0 rfl) ?_
      refine lv_iload_n hx hb d_T_get_10 rfl (lv_at hl 2 rfl) ?_
      refine lv_iload_n hx hb d_T_get_11 rfl (lv_at hl 3 rfl) ?_
      refine rx_callv (vx_runV (As := [.int a2, .int a3]) (rest := []) ⟨hx, hb, hml, hown, hw⟩ (mT_needIndex l hlT sa dC dI cA a0 aR aM aW aP aS aC aO nW nE R f us P S sc li rc rn ro rd st a2 a3 _ _ h) (cwV 2 hw g_T_78 rfl rfl rfl (by decide +kernel) ⟨Nat.le_of_ble_eq_true rfl, Nat.le_of_ble_eq_true rfl⟩) (xo_PV (ci := 0) (q0 := 0) hK hP (xt_at hXT hS) rfl rfl) rfl rfl hl.1 rfl (lv_room (Nat.le_of_ble_eq_true rfl)) d_T_get_12 ⟨Nat.le_of_ble_eq_true rfl, Nat.le_of_ble_eq_true rfl⟩) (fun E9 ce q9 H1 h hz hk hce hcv hcl => ?_) (fun h => ?_)
      · exact rx_out (R, st) rfl hEx hlocks hK hP hD hS h hz hk hce hcv hcl (Nat.le_of_ble_eq_true rfl) (Nat.le_of_ble_eq_true rfl)
      · refine lv_aload_n hx hb d_T_get_15 rfl (lv_at hl 0 rfl) ?_
        refine lv_iload_n hx hb d_T_get_16 rfl (lv_at hl 1 rfl) ?_
        refine lv_aload_n hx hb d_T_get_17 rfl (lv_at hl 0 rfl) ?_
        refine va_get (D := (dC, dI)) (ci := 0) (v := .ref aM) (C := R_T) (T := T_T) (N := 2) hx hb hw in_T hown hK hP 0 rfl rfl 1 (by decide) (hw _ wd_104) (fun _ h9 => h9) rfl d_T_get_18 ?_
        refine lv_aload_n hx hb d_T_get_21 rfl (lv_at hl 0 rfl) ?_
        refine va_get (D := (dC, dI)) (ci := 0) (v := .ref aR) (C := R_T) (T := T_T) (N := 2) hx hb hw in_T hown hK hP 0 rfl rfl 0 (by decide) (hw _ wd_103) (fun _ h9 => h9) rfl d_T_get_22 ?_
        refine lv_iload_n hx hb d_T_get_25 rfl (lv_at hl 2 rfl) ?_
        refine va_iald hx hb hK hP 1 0 rfl rfl h.1 d_T_get_26 ?_
        have h := h.2
        refine lv_iload_n hx hb d_T_get_27 rfl (lv_at hl 3 rfl) ?_
        refine rq_calli (W.runV (As := [.int (R a2.toNatClampNeg), .int a3]) (rest := [.int a1, .ref a0]) ⟨hx, hb, hml, hown, hw⟩ (mM_slot l dC dI cA a0 aR aM aW aP aS aC aO nW nE R f us P S sc li rc rn ro rd st (R a2.toNatClampNeg) a3 _ h) (cwV 2 hw g_T_81 rfl rfl rfl (by decide +kernel) ⟨Nat.le_of_ble_eq_true rfl, Nat.le_of_ble_eq_true rfl⟩) (ro_PV (ci := 1) (q0 := 2) hK hP rfl rfl) rfl rfl hl.1 rfl (lv_room (Nat.le_of_ble_eq_true rfl)) d_T_get_28 ⟨Nat.le_of_ble_eq_true rfl, Nat.le_of_ble_eq_true rfl⟩) (fun r28 h => ?_)
        have hFc := va_free (wc := TSw cA a0 aR aM aW aP aS aC aO nW nE R f us P S sc li rc rn ro rd st) hD hS hA [0, 1, 2, 3, 4, 5, 6, 7] rfl
        refine va_callv (va_runV (As := [.int a1, .int r28]) (rest := []) ⟨hx, hb, hml, hown, hw⟩ (mT_setRegister l dC dI cA a0 aR aM aW aP aS aC aO nW nE s.heap.size R f us P S sc li rc rn ro rd st a1 r28 _ h) (cwV 2 hw g_T_43 rfl rfl rfl (by decide +kernel) ⟨Nat.le_of_ble_eq_true rfl, Nat.le_of_ble_eq_true rfl⟩) (rw_PV (ci := 0) (q0 := 0) hK hP hD rfl rfl) rfl rfl hl.1 rfl (lv_room (Nat.le_of_ble_eq_true rfl)) d_T_get_31 ⟨Nat.le_of_ble_eq_true rfl, Nat.le_of_ble_eq_true rfl⟩) hS (fun q _ h => hFc q h) hFc (fun u t H locs ht hvm h hB hz1 hk1 hS => ?_)
        obtain ⟨R_31, st_31⟩ := u
        obtain ⟨hP, hK1, hD1⟩ := hB
        rw [ht] at hP
        have hD := hD1.weaken (fun _ _ _ q => hFc _ q)
        clear hFc hD1 hK1
        try dsimp only at h
        have hP : va_P (dC, dI) vwCl (TSw cA a0 aR aM aW aP aS aC aO nW nE R_31 f us P S sc li rc rn ro rd st_31) H := hP
        have hD : va_D A (TSw cA a0 aR aM aW aP aS aC aO nW nE R_31 f us P S sc li rc rn ro rd st_31) := hD
        refine W.widen (k := 4) (n := 24) (Nat.le_of_ble_eq_true rfl) (Nat.le_of_ble_eq_true rfl) ?_
        exact vx_ret (W.vret hx hb hr9 (fun t ht hW => ⟨⟨(R_31, st_31), rfl, h, by rw [ht]; exact hP, va_K.moved hW.alike hK, hD⟩, hS.F ht⟩) hS.2.2 d_T_get_34)
def wqT_put (nW : Nat) (nE : Nat) (R : Nat → Int32) (f : Nat → Int32) (P : Nat → Int32) (st : Int32) (a1 : Int32) (a2 : Int32) (a3 : Int32) (post : (Nat → Int32) → Int32 → Prop) (px : String → (Nat → Int32) → Int32 → Prop) : Prop :=
  wqT_needRegister a3 (wqT_needSlots nW nE R f P a1 (wqT_needIndex nW nE R f P a1 a2 (vp_in a1 32 ∧ (vp_in a3 32 ∧ (wqM_setSlot nW nE f P st (R a1.toNatClampNeg) a2 (R a3.toNatClampNeg) (fun f_32 st_32 => post f_32 st_32)))) (fun E => px E f st)) (fun E => px E f st)) (fun E => px E f st)
set_option maxHeartbeats 4000000 in
set_option maxRecDepth 100000 in
theorem mT_put (l : Launch) (hlT : l.stackTraces = false) (sa : Nat → Nat) (dC : Nat → ClassId) (dI : Nat → Nat → Nat) (cA : ClassId) (a0 : Nat) (aR : Nat) (aM : Nat) (aW : Nat) (aP : Nat) (aS : Nat) (aC : Nat) (aO : Nat) (nW : Nat) (nE : Nat) (sz : Nat) (R : Nat → Int32) (f : Nat → Int32) (us : Int32) (P : Nat → Int32) (S : Nat → Int32) (sc : Int32) (li : Int32) (rc : Nat → Int32) (rn : Int32) (ro : Nat → Int32) (rd : Int32) (st : Int32) (a1 : Int32) (a2 : Int32) (a3 : Int32) (post : (Nat → Int32) → Int32 → Prop) (px : String → (Nat → Int32) → Int32 → Prop) (h : wqT_put nW nE R f P st a1 a2 a3 post px) : vx_Met l y_T_put ws_T_put ({ frames := 8, cells := 4, slots := 24, locals := 141 }) (xw_P (dC, dI) vwCl (TSw cA a0 aR aM aW aP aS aC aO nW nE R f us P S sc li rc rn ro rd st) [(cA, .int)] sz sa [.ref a0, .int a1, .int a2, .int a3]) (va_Qv (fun u : (Nat → Int32) × Int32 => post u.1 u.2) (rw_B (dC, dI) vwCl [(cA, .int)] (va_A (TSw cA a0 aR aM aW aP aS aC aO nW nE R f us P S sc li rc rn ro rd st) sz) (fun u : (Nat → Int32) × Int32 => TSw cA a0 aR aM aW aP aS aC aO nW nE R u.1 us P S sc li rc rn ro rd u.2)) (va_A (TSw cA a0 aR aM aW aP aS aC aO nW nE R f us P S sc li rc rn ro rd st) sz)) (rw_X (dC, dI) vwCl [(cA, .int)] (va_A (TSw cA a0 aR aM aW aP aS aC aO nW nE R f us P S sc li rc rn ro rd st) sz) (fun u : (Nat → Int32) × Int32 => TSw cA a0 aR aM aW aP aS aC aO nW nE R u.1 us P S sc li rc rn ro rd u.2) (fun (E : String) (u : (Nat → Int32) × Int32) => px E u.1 u.2)) 4 24 (va_A (TSw cA a0 aR aM aW aP aS aC aO nW nE R f us P S sc li rc rn ro rd st) sz) := by
  refine vx_ofW (cc := c_T_put) (maxL := 4) (ret := none) (by decide) rfl ?_
  intro p e s m args below meth c s₁ B hml hEx hv
  obtain ⟨rfl, hsz, hP, hK, hD0, hXT⟩ := hv
  have hx := B.exec
  have hb := B.bytes
  have hr9 := B.returns
  have hts := atoms_spec (ws := ws_T_put) B.pre
  have hw : ∀ w ∈ WB_, w.before _ s = true := fun w h => hts w (List.mem_cons_of_mem _ h)
  have hown : s.vm.findClass R_T = some m.cls := findClass_of_methodNamed B.named
  have hlocks := B.notSynchronized
  subst hsz
  have hD := hD0.self (sz := s.heap.size)
  generalize hAe : va_A (TSw cA a0 aR aM aW aP aS aC aO nW nE R f us P S sc li rc rn ro rd st) s.heap.size = A at hD hXT ⊢
  have hA : ∀ q : Nat, s.heap.size ≤ q → A q := fun q h => by rw [← hAe]; exact Or.inr h
  have hS : va_S A s.heap s.heap [] := va_S.rf
  have hl := lv_entry ([.ref a0, .int a1, .int a2, .int a3]) (n := 4) (Nat.le_of_ble_eq_true rfl)
  rw [lg_entry_eq]
  generalize (lg_sl ([.ref a0, .int a1, .int a2, .int a3]) ++ List.replicate (4 - (lg_sl ([.ref a0, .int a1, .int a2, .int a3])).length) Slot.unset).toArray = ls at hl ⊢
  have hl : lv_has ls 4 [(0, .ref a0), (1, .int a1), (2, .int a2), (3, .int a3)] := hl
  unfold wqT_put at h
  refine lv_iload_n hx hb d_T_put_0 rfl (lv_at hl 3 rfl) ?_
  refine rx_callv (vx_runS (As := [.int a3]) (rest := []) ⟨hx, hb, hml, hown, hw⟩ (mT_needRegister l hlT sa a3 _ _ h) (va_cwS 1 hw g_T_27 rfl rfl rfl (by decide +kernel) ⟨Nat.le_of_ble_eq_true rfl, Nat.le_of_ble_eq_true rfl⟩) (xs_PS (xt_at hXT hS)) rfl rfl hl.1 rfl (lv_room (Nat.le_of_ble_eq_true rfl)) d_T_put_1 ⟨Nat.le_of_ble_eq_true rfl, Nat.le_of_ble_eq_true rfl⟩) (fun E9 ce q9 H1 h hz hk hce hcv hcl => ?_) (fun h => ?_)
  · exact rx_out (f, st) rfl hEx hlocks hK hP hD hS h hz hk hce hcv hcl (Nat.le_of_ble_eq_true rfl) (Nat.le_of_ble_eq_true rfl)
  · refine lv_aload_n hx hb d_T_put_4 rfl (lv_at hl 0 rfl) ?_
    refine lv_iload_n hx hb d_T_put_5 rfl (lv_at hl 1 rfl) ?_
    refine rx_callv (vx_runV (As := [.int a1]) (rest := []) ⟨hx, hb, hml, hown, hw⟩ (mT_needSlots l hlT sa dC dI cA a0 aR aM aW aP aS aC aO nW nE R f us P S sc li rc rn ro rd st a1 _ _ h) (cwV 1 hw g_T_75 rfl rfl rfl (by decide +kernel) ⟨Nat.le_of_ble_eq_true rfl, Nat.le_of_ble_eq_true rfl⟩) (xo_PV (ci := 0) (q0 := 0) hK hP (xt_at hXT hS) rfl rfl) rfl rfl hl.1 rfl (lv_room (Nat.le_of_ble_eq_true rfl)) d_T_put_6 ⟨Nat.le_of_ble_eq_true rfl, Nat.le_of_ble_eq_true rfl⟩) (fun E9 ce q9 H1 h hz hk hce hcv hcl => ?_) (fun h => ?_)
    · exact rx_out (f, st) rfl hEx hlocks hK hP hD hS h hz hk hce hcv hcl (Nat.le_of_ble_eq_true rfl) (Nat.le_of_ble_eq_true rfl)
    · refine lv_aload_n hx hb d_T_put_9 rfl (lv_at hl 0 rfl) ?_
      refine lv_iload_n hx hb d_T_put_10 rfl (lv_at hl 1 rfl) ?_
      refine lv_iload_n hx hb d_T_put_11 rfl (lv_at hl 2 rfl) ?_
      refine rx_callv (vx_runV (As := [.int a1, .int a2]) (rest := []) ⟨hx, hb, hml, hown, hw⟩ (mT_needIndex l hlT sa dC dI cA a0 aR aM aW aP aS aC aO nW nE R f us P S sc li rc rn ro rd st a1 a2 _ _ h) (cwV 2 hw g_T_78 rfl rfl rfl (by decide +kernel) ⟨Nat.le_of_ble_eq_true rfl, Nat.le_of_ble_eq_true rfl⟩) (xo_PV (ci := 0) (q0 := 0) hK hP (xt_at hXT hS) rfl rfl) rfl rfl hl.1 rfl (lv_room (Nat.le_of_ble_eq_true rfl)) d_T_put_12 ⟨Nat.le_of_ble_eq_true rfl, Nat.le_of_ble_eq_true rfl⟩) (fun E9 ce q9 H1 h hz hk hce hcv hcl => ?_) (fun h => ?_)
      · exact rx_out (f, st) rfl hEx hlocks hK hP hD hS h hz hk hce hcv hcl (Nat.le_of_ble_eq_true rfl) (Nat.le_of_ble_eq_true rfl)
      · refine lv_aload_n hx hb d_T_put_15 rfl (lv_at hl 0 rfl) ?_
        refine va_get (D := (dC, dI)) (ci := 0) (v := .ref aM) (C := R_T) (T := T_T) (N := 2) hx hb hw in_T hown hK hP 0 rfl rfl 1 (by decide) (hw _ wd_104) (fun _ h9 => h9) rfl d_T_put_16 ?_
        refine lv_aload_n hx hb d_T_put_19 rfl (lv_at hl 0 rfl) ?_
        refine va_get (D := (dC, dI)) (ci := 0) (v := .ref aR) (C := R_T) (T := T_T) (N := 2) hx hb hw in_T hown hK hP 0 rfl rfl 0 (by decide) (hw _ wd_103) (fun _ h9 => h9) rfl d_T_put_20 ?_
        refine lv_iload_n hx hb d_T_put_23 rfl (lv_at hl 1 rfl) ?_
        refine va_iald hx hb hK hP 1 0 rfl rfl h.1 d_T_put_24 ?_
        have h := h.2
        refine lv_iload_n hx hb d_T_put_25 rfl (lv_at hl 2 rfl) ?_
        refine lv_aload_n hx hb d_T_put_26 rfl (lv_at hl 0 rfl) ?_
        refine va_get (D := (dC, dI)) (ci := 0) (v := .ref aR) (C := R_T) (T := T_T) (N := 2) hx hb hw in_T hown hK hP 0 rfl rfl 0 (by decide) (hw _ wd_103) (fun _ h9 => h9) rfl d_T_put_27 ?_
        refine lv_iload_n hx hb d_T_put_30 rfl (lv_at hl 3 rfl) ?_
        refine va_iald hx hb hK hP 1 0 rfl rfl h.1 d_T_put_31 ?_
        have h := h.2
        have hFc := va_free (wc := TSw cA a0 aR aM aW aP aS aC aO nW nE R f us P S sc li rc rn ro rd st) hD hS hA [0, 1, 2, 3, 4, 5, 6, 7] rfl
        refine va_callv (va_runV (As := [.int (R a1.toNatClampNeg), .int a2, .int (R a3.toNatClampNeg)]) (rest := []) ⟨hx, hb, hml, hown, hw⟩ (mM_setSlot l dC dI cA a0 aR aM aW aP aS aC aO nW nE s.heap.size R f us P S sc li rc rn ro rd st (R a1.toNatClampNeg) a2 (R a3.toNatClampNeg) _ h) (cwV 3 hw g_T_72 rfl rfl rfl (by decide +kernel) ⟨Nat.le_of_ble_eq_true rfl, Nat.le_of_ble_eq_true rfl⟩) (rw_PV (ci := 1) (q0 := 2) hK hP hD rfl rfl) rfl rfl hl.1 rfl (lv_room (Nat.le_of_ble_eq_true rfl)) d_T_put_32 ⟨Nat.le_of_ble_eq_true rfl, Nat.le_of_ble_eq_true rfl⟩) hS (fun q _ h => hFc q h) hFc (fun u t H locs ht hvm h hB hz1 hk1 hS => ?_)
        obtain ⟨f_32, st_32⟩ := u
        obtain ⟨hP, hK1, hD1⟩ := hB
        rw [ht] at hP
        have hD := hD1.weaken (fun _ _ _ q => hFc _ q)
        clear hFc hD1 hK1
        try dsimp only at h
        have hP : va_P (dC, dI) vwCl (TSw cA a0 aR aM aW aP aS aC aO nW nE R f_32 us P S sc li rc rn ro rd st_32) H := hP
        have hD : va_D A (TSw cA a0 aR aM aW aP aS aC aO nW nE R f_32 us P S sc li rc rn ro rd st_32) := hD
        refine W.widen (k := 4) (n := 24) (Nat.le_of_ble_eq_true rfl) (Nat.le_of_ble_eq_true rfl) ?_
        exact vx_ret (W.vret hx hb hr9 (fun t ht hW => ⟨⟨(f_32, st_32), rfl, h, by rw [ht]; exact hP, va_K.moved hW.alike hK, hD⟩, hS.F ht⟩) hS.2.2 d_T_put_35)
def wqT_walk_23 (nW : Nat) (nE : Nat) (f : Nat → Int32) (P : Nat → Int32) (y1_23 : Int32) (y2_23 : Int32) (y3_23 : Int32) (Rf_23 : Nat → Int32) (stf_23 : Int32) (post : Int32 → (Nat → Int32) → Int32 → Prop) (px : String → (Nat → Int32) → Int32 → Prop) (kx : Int32 → Int32 → Prop) : Nat → Int32 → Int32 → Prop
  | 0, _, _ => False
  | n + 1, x4_23, x5_23 =>
    (y3_23 ≤ x5_23 → (kx x4_23 x5_23)) ∧ (¬ (y3_23 ≤ x5_23) → (wqM_holdsSlot nW nE f P x4_23 y2_23 (fun r36 => (r36 = 0 → (kx x4_23 x5_23)) ∧ (¬ (r36 = 0) → (wqM_slot nW nE f P x4_23 y2_23 (fun r49 => wqT_walk_23 nW nE f P y1_23 y2_23 y3_23 Rf_23 stf_23 post px kx n r49 (x5_23 + (1 : Int32))))))))
def wqT_walk (nW : Nat) (nE : Nat) (R : Nat → Int32) (f : Nat → Int32) (P : Nat → Int32) (st : Int32) (a1 : Int32) (a2 : Int32) (a3 : Int32) (post : Int32 → (Nat → Int32) → Int32 → Prop) (px : String → (Nat → Int32) → Int32 → Prop) : Prop :=
  wqT_needRegister a1 (wqT_needBetween a3 (0 : Int32) (10000 : Int32) (vp_in a1 32 ∧ (∃ k_23, wqT_walk_23 nW nE f P a1 a2 a3 R st post px (fun z4_23 z5_23 => wqT_setRegister nW nE R st a1 z4_23 (fun R_64 st_64 => post z5_23 R_64 st_64)) k_23 (R a1.toNatClampNeg) (0 : Int32))) (fun E => px E R st)) (fun E => px E R st)
set_option maxHeartbeats 4000000 in
set_option maxRecDepth 100000 in
theorem mT_walk (l : Launch) (hlT : l.stackTraces = false) (sa : Nat → Nat) (dC : Nat → ClassId) (dI : Nat → Nat → Nat) (cA : ClassId) (a0 : Nat) (aR : Nat) (aM : Nat) (aW : Nat) (aP : Nat) (aS : Nat) (aC : Nat) (aO : Nat) (nW : Nat) (nE : Nat) (sz : Nat) (R : Nat → Int32) (f : Nat → Int32) (us : Int32) (P : Nat → Int32) (S : Nat → Int32) (sc : Int32) (li : Int32) (rc : Nat → Int32) (rn : Int32) (ro : Nat → Int32) (rd : Int32) (st : Int32) (a1 : Int32) (a2 : Int32) (a3 : Int32) (post : Int32 → (Nat → Int32) → Int32 → Prop) (px : String → (Nat → Int32) → Int32 → Prop) (h : wqT_walk nW nE R f P st a1 a2 a3 post px) : vx_Met l y_T_walk ws_T_walk ({ frames := 7, cells := 2, slots := 12, locals := 122 }) (xw_P (dC, dI) vwCl (TSw cA a0 aR aM aW aP aS aC aO nW nE R f us P S sc li rc rn ro rd st) [(cA, .int)] sz sa [.ref a0, .int a1, .int a2, .int a3]) (va_Qi (fun (r : Int32) (u : (Nat → Int32) × Int32) => post r u.1 u.2) (rw_B (dC, dI) vwCl [(cA, .int)] (va_A (TSw cA a0 aR aM aW aP aS aC aO nW nE R f us P S sc li rc rn ro rd st) sz) (fun u : (Nat → Int32) × Int32 => TSw cA a0 aR aM aW aP aS aC aO nW nE u.1 f us P S sc li rc rn ro rd u.2)) (va_A (TSw cA a0 aR aM aW aP aS aC aO nW nE R f us P S sc li rc rn ro rd st) sz)) (rw_X (dC, dI) vwCl [(cA, .int)] (va_A (TSw cA a0 aR aM aW aP aS aC aO nW nE R f us P S sc li rc rn ro rd st) sz) (fun u : (Nat → Int32) × Int32 => TSw cA a0 aR aM aW aP aS aC aO nW nE u.1 f us P S sc li rc rn ro rd u.2) (fun (E : String) (u : (Nat → Int32) × Int32) => px E u.1 u.2)) 2 12 (va_A (TSw cA a0 aR aM aW aP aS aC aO nW nE R f us P S sc li rc rn ro rd st) sz) := by
  refine vx_ofW (cc := c_T_walk) (maxL := 6) (ret := (some .int)) (by decide) rfl ?_
  intro p e s m args below meth c s₁ B hml hEx hv
  obtain ⟨rfl, hsz, hP, hK, hD0, hXT⟩ := hv
  have hx := B.exec
  have hb := B.bytes
  have hr9 := B.returns
  have hts := atoms_spec (ws := ws_T_walk) B.pre
  have hw : ∀ w ∈ WB_, w.before _ s = true := fun w h => hts w (List.mem_cons_of_mem _ h)
  have hown : s.vm.findClass R_T = some m.cls := findClass_of_methodNamed B.named
  have hlocks := B.notSynchronized
  subst hsz
  have hD := hD0.self (sz := s.heap.size)
  generalize hAe : va_A (TSw cA a0 aR aM aW aP aS aC aO nW nE R f us P S sc li rc rn ro rd st) s.heap.size = A at hD hXT ⊢
  have hA : ∀ q : Nat, s.heap.size ≤ q → A q := fun q h => by rw [← hAe]; exact Or.inr h
  have hS : va_S A s.heap s.heap [] := va_S.rf
  have hl := lv_entry ([.ref a0, .int a1, .int a2, .int a3]) (n := 6) (Nat.le_of_ble_eq_true rfl)
  rw [lg_entry_eq]
  generalize (lg_sl ([.ref a0, .int a1, .int a2, .int a3]) ++ List.replicate (6 - (lg_sl ([.ref a0, .int a1, .int a2, .int a3])).length) Slot.unset).toArray = ls at hl ⊢
  have hl : lv_has ls 6 [(0, .ref a0), (1, .int a1), (2, .int a2), (3, .int a3)] := hl
  have lp_23 : ∀ (y1_23 : Int32) (y2_23 : Int32) (y3_23 : Int32) (Rf_23 : Nat → Int32) (stf_23 : Int32) (kx : Int32 → Int32 → Prop), (∀ (z4_23 : Int32) (z5_23 : Int32) (H : Heap) (locs : List Loc) (ls : Array Slot), va_P (dC, dI) vwCl (TSw cA a0 aR aM aW aP aS aC aO nW nE Rf_23 f us P S sc li rc rn ro rd stf_23) H → va_D A (TSw cA a0 aR aM aW aP aS aC aO nW nE Rf_23 f us P S sc li rc rn ro rd stf_23) → va_S A s.heap H locs → lv_has ls 6 [(0, .ref a0), (1, .int y1_23), (2, .int y2_23), (3, .int y3_23), (4, .int z4_23), (5, .int z5_23)] → kx z4_23 z5_23 → W p l e (headSpec ws_T_walk ({ frames := 7, cells := 2, slots := 12, locals := 122 })).room s m ([.ref a0, .int a1, .int a2, .int a3] : List Value).toArray below meth c H locs (2) (12) (vx_MQ below (va_Qi (fun (r : Int32) (u : (Nat → Int32) × Int32) => post r u.1 u.2) (rw_B (dC, dI) vwCl [(cA, .int)] A (fun u : (Nat → Int32) × Int32 => TSw cA a0 aR aM aW aP aS aC aO nW nE u.1 f us P S sc li rc rn ro rd u.2)) A) (rw_X (dC, dI) vwCl [(cA, .int)] A (fun u : (Nat → Int32) × Int32 => TSw cA a0 aR aM aW aP aS aC aO nW nE u.1 f us P S sc li rc rn ro rd u.2) (fun (E : String) (u : (Nat → Int32) × Int32) => px E u.1 u.2)) ([.ref a0, .int a1, .int a2, .int a3] : List Value).toArray s 2 12 A) (F0 m 60 ls [])) → ∀ (n : Nat) (x4_23 : Int32) (x5_23 : Int32) (H : Heap) (locs : List Loc) (ls : Array Slot), va_P (dC, dI) vwCl (TSw cA a0 aR aM aW aP aS aC aO nW nE Rf_23 f us P S sc li rc rn ro rd stf_23) H → va_D A (TSw cA a0 aR aM aW aP aS aC aO nW nE Rf_23 f us P S sc li rc rn ro rd stf_23) → va_S A s.heap H locs → lv_has ls 6 [(0, .ref a0), (1, .int y1_23), (2, .int y2_23), (3, .int y3_23), (4, .int x4_23), (5, .int x5_23)] → wqT_walk_23 nW nE f P y1_23 y2_23 y3_23 Rf_23 stf_23 post px kx n x4_23 x5_23 → W p l e (headSpec ws_T_walk ({ frames := 7, cells := 2, slots := 12, locals := 122 })).room s m ([.ref a0, .int a1, .int a2, .int a3] : List Value).toArray below meth c H locs (2) (12) (vx_MQ below (va_Qi (fun (r : Int32) (u : (Nat → Int32) × Int32) => post r u.1 u.2) (rw_B (dC, dI) vwCl [(cA, .int)] A (fun u : (Nat → Int32) × Int32 => TSw cA a0 aR aM aW aP aS aC aO nW nE u.1 f us P S sc li rc rn ro rd u.2)) A) (rw_X (dC, dI) vwCl [(cA, .int)] A (fun u : (Nat → Int32) × Int32 => TSw cA a0 aR aM aW aP aS aC aO nW nE u.1 f us P S sc li rc rn ro rd u.2) (fun (E : String) (u : (Nat → Int32) × Int32) => px E u.1 u.2)) ([.ref a0, .int a1, .int a2, .int a3] : List Value).toArray s 2 12 A) (F0 m 23 ls []) := by
    intro y1_23 y2_23 y3_23 Rf_23 stf_23 kx K n
    induction n with
    | zero => intro x4_23 x5_23 H locs ls hP hD hS hl h; exact h.elim
    | succ n ih =>
      intro x4_23 x5_23 H locs ls hP hD hS hl h
      refine lv_iload hx hb d_T_walk_23 (lv_at hl 5 rfl) ?_
      refine lv_iload_n hx hb d_T_walk_25 rfl (lv_at hl 3 rfl) ?_
      refine lv_icmp_ge (tgt := 60) hx hb d_T_walk_26 (by decide) (fun c_26 => ?_) (fun c_26 => ?_)
      · have h := h.1 c_26
        exact K x4_23 x5_23 H locs ls hP hD hS (lv_sub hl [0, 1, 2, 3, 4, 5] rfl) h
      · have h := h.2 c_26
        refine lv_aload_n hx hb d_T_walk_29 rfl (lv_at hl 0 rfl) ?_
        refine va_get (D := (dC, dI)) (ci := 0) (v := .ref aM) (C := R_T) (T := T_T) (N := 2) hx hb hw in_T hown hK hP 0 rfl rfl 1 (by decide) (hw _ wd_104) (fun _ h9 => h9) rfl d_T_walk_30 ?_
        refine lv_iload hx hb d_T_walk_33 (lv_at hl 4 rfl) ?_
        refine lv_iload_n hx hb d_T_walk_35 rfl (lv_at hl 2 rfl) ?_
        refine rq_calli (W.runV (As := [.int x4_23, .int y2_23]) (rest := []) ⟨hx, hb, hml, hown, hw⟩ (mM_holdsSlot l dC dI cA a0 aR aM aW aP aS aC aO nW nE Rf_23 f us P S sc li rc rn ro rd stf_23 x4_23 y2_23 _ h) (cwV 2 hw g_T_85 rfl rfl rfl (by decide +kernel) ⟨Nat.le_of_ble_eq_true rfl, Nat.le_of_ble_eq_true rfl⟩) (ro_PV (ci := 1) (q0 := 2) hK hP rfl rfl) rfl rfl hl.1 rfl (lv_room (Nat.le_of_ble_eq_true rfl)) d_T_walk_36 ⟨Nat.le_of_ble_eq_true rfl, Nat.le_of_ble_eq_true rfl⟩) (fun r36 h => ?_)
        refine lv_if_eq (tgt := 60) hx hb d_T_walk_39 (by decide) (fun c_39 => ?_) (fun c_39 => ?_)
        · have h := h.1 c_39
          exact K x4_23 x5_23 H locs ls hP hD hS (lv_sub hl [0, 1, 2, 3, 4, 5] rfl) h
        · have h := h.2 c_39
          refine lv_aload_n hx hb d_T_walk_42 rfl (lv_at hl 0 rfl) ?_
          refine va_get (D := (dC, dI)) (ci := 0) (v := .ref aM) (C := R_T) (T := T_T) (N := 2) hx hb hw in_T hown hK hP 0 rfl rfl 1 (by decide) (hw _ wd_104) (fun _ h9 => h9) rfl d_T_walk_43 ?_
          refine lv_iload hx hb d_T_walk_46 (lv_at hl 4 rfl) ?_
          refine lv_iload_n hx hb d_T_walk_48 rfl (lv_at hl 2 rfl) ?_
          refine rq_calli (W.runV (As := [.int x4_23, .int y2_23]) (rest := []) ⟨hx, hb, hml, hown, hw⟩ (mM_slot l dC dI cA a0 aR aM aW aP aS aC aO nW nE Rf_23 f us P S sc li rc rn ro rd stf_23 x4_23 y2_23 _ h) (cwV 2 hw g_T_81 rfl rfl rfl (by decide +kernel) ⟨Nat.le_of_ble_eq_true rfl, Nat.le_of_ble_eq_true rfl⟩) (ro_PV (ci := 1) (q0 := 2) hK hP rfl rfl) rfl rfl hl.1 rfl (lv_room (Nat.le_of_ble_eq_true rfl)) d_T_walk_49 ⟨Nat.le_of_ble_eq_true rfl, Nat.le_of_ble_eq_true rfl⟩) (fun r49 h => ?_)
          refine lv_istore (lv' := [(4, .int r49), (0, .ref a0), (1, .int y1_23), (2, .int y2_23), (3, .int y3_23), (5, .int x5_23)]) hx hb d_T_walk_52 hl (by decide) rfl (fun ls hl => ?_)
          refine lv_iinc (v := x5_23 + (1 : Int32)) (lv' := [(5, .int (x5_23 + (1 : Int32))), (4, .int r49), (0, .ref a0), (1, .int y1_23), (2, .int y2_23), (3, .int y3_23)]) hx hb d_T_walk_54 hl (k := 5) rfl rfl (by decide) rfl (fun ls hl => ?_)
          refine lv_goto (tgt := 23) hx hb d_T_walk_57 (by decide) ?_
          exact ih r49 (x5_23 + (1 : Int32)) H locs ls hP hD hS (lv_sub hl [2, 3, 4, 5, 1, 0] rfl) h
  unfold wqT_walk at h
  refine lv_iload_n hx hb d_T_walk_0 rfl (lv_at hl 1 rfl) ?_
  refine rx_callv (vx_runS (As := [.int a1]) (rest := []) ⟨hx, hb, hml, hown, hw⟩ (mT_needRegister l hlT sa a1 _ _ h) (va_cwS 1 hw g_T_27 rfl rfl rfl (by decide +kernel) ⟨Nat.le_of_ble_eq_true rfl, Nat.le_of_ble_eq_true rfl⟩) (xs_PS (xt_at hXT hS)) rfl rfl hl.1 rfl (lv_room (Nat.le_of_ble_eq_true rfl)) d_T_walk_1 ⟨Nat.le_of_ble_eq_true rfl, Nat.le_of_ble_eq_true rfl⟩) (fun E9 ce q9 H1 h hz hk hce hcv hcl => ?_) (fun h => ?_)
  · exact rx_out (R, st) rfl hEx hlocks hK hP hD hS h hz hk hce hcv hcl (Nat.le_of_ble_eq_true rfl) (Nat.le_of_ble_eq_true rfl)
  · refine lv_iload_n hx hb d_T_walk_4 rfl (lv_at hl 3 rfl) ?_
    refine lv_iconst (v := (0 : Int32)) hx hb d_T_walk_5 (by decide) ?_
    refine lv_sipush (v := (10000 : Int32)) hx hb d_T_walk_6 (by decide) ?_
    refine rx_callv (vx_runS (As := [.int a3, .int (0 : Int32), .int (10000 : Int32)]) (rest := []) ⟨hx, hb, hml, hown, hw⟩ (mT_needBetween l hlT sa a3 (0 : Int32) (10000 : Int32) _ _ h) (va_cwS 3 hw g_T_33 rfl rfl rfl (by decide +kernel) ⟨Nat.le_of_ble_eq_true rfl, Nat.le_of_ble_eq_true rfl⟩) (xs_PS (xt_at hXT hS)) rfl rfl hl.1 rfl (lv_room (Nat.le_of_ble_eq_true rfl)) d_T_walk_9 ⟨Nat.le_of_ble_eq_true rfl, Nat.le_of_ble_eq_true rfl⟩) (fun E9 ce q9 H1 h hz hk hce hcv hcl => ?_) (fun h => ?_)
    · exact rx_out (R, st) rfl hEx hlocks hK hP hD hS h hz hk hce hcv hcl (Nat.le_of_ble_eq_true rfl) (Nat.le_of_ble_eq_true rfl)
    · refine lv_aload_n hx hb d_T_walk_12 rfl (lv_at hl 0 rfl) ?_
      refine va_get (D := (dC, dI)) (ci := 0) (v := .ref aR) (C := R_T) (T := T_T) (N := 2) hx hb hw in_T hown hK hP 0 rfl rfl 0 (by decide) (hw _ wd_103) (fun _ h9 => h9) rfl d_T_walk_13 ?_
      refine lv_iload_n hx hb d_T_walk_16 rfl (lv_at hl 1 rfl) ?_
      refine va_iald hx hb hK hP 1 0 rfl rfl h.1 d_T_walk_17 ?_
      have h := h.2
      refine lv_istore (lv' := [(4, .int (R a1.toNatClampNeg)), (0, .ref a0), (1, .int a1), (2, .int a2), (3, .int a3)]) hx hb d_T_walk_18 hl (by decide) rfl (fun ls hl => ?_)
      refine lv_iconst (v := (0 : Int32)) hx hb d_T_walk_20 (by decide) ?_
      refine lv_istore (lv' := [(5, .int (0 : Int32)), (4, .int (R a1.toNatClampNeg)), (0, .ref a0), (1, .int a1), (2, .int a2), (3, .int a3)]) hx hb d_T_walk_21 hl (by decide) rfl (fun ls hl => ?_)
      obtain ⟨n_23, h⟩ := h
      refine lp_23 a1 a2 a3 R st _ (fun z4_23 z5_23 H locs ls hP hD hS hl h => ?_) n_23 (R a1.toNatClampNeg) (0 : Int32) s.heap [] ls hP hD hS (lv_sub hl [2, 3, 4, 5, 1, 0] rfl) h
      refine lv_aload_n hx hb d_T_walk_60 rfl (lv_at hl 0 rfl) ?_
      refine lv_iload_n hx hb d_T_walk_61 rfl (lv_at hl 1 rfl) ?_
      refine lv_iload hx hb d_T_walk_62 (lv_at hl 4 rfl) ?_
      have hFc := va_free (wc := TSw cA a0 aR aM aW aP aS aC aO nW nE R f us P S sc li rc rn ro rd st) hD hS hA [0, 1, 2, 3, 4, 5, 6, 7] rfl
      refine va_callv (va_runV (As := [.int a1, .int z4_23]) (rest := []) ⟨hx, hb, hml, hown, hw⟩ (mT_setRegister l dC dI cA a0 aR aM aW aP aS aC aO nW nE H.size R f us P S sc li rc rn ro rd st a1 z4_23 _ h) (cwV 2 hw g_T_43 rfl rfl rfl (by decide +kernel) ⟨Nat.le_of_ble_eq_true rfl, Nat.le_of_ble_eq_true rfl⟩) (rw_PV (ci := 0) (q0 := 0) hK hP hD rfl rfl) rfl rfl hl.1 rfl (lv_room (Nat.le_of_ble_eq_true rfl)) d_T_walk_64 ⟨Nat.le_of_ble_eq_true rfl, Nat.le_of_ble_eq_true rfl⟩) hS (fun q _ h => hFc q h) hFc (fun u t H locs ht hvm h hB hz1 hk1 hS => ?_)
      obtain ⟨R_64, st_64⟩ := u
      obtain ⟨hP, hK1, hD1⟩ := hB
      rw [ht] at hP
      have hD := hD1.weaken (fun _ _ _ q => hFc _ q)
      clear hFc hD1 hK1
      try dsimp only at h
      have hP : va_P (dC, dI) vwCl (TSw cA a0 aR aM aW aP aS aC aO nW nE R_64 f us P S sc li rc rn ro rd st_64) H := hP
      have hD : va_D A (TSw cA a0 aR aM aW aP aS aC aO nW nE R_64 f us P S sc li rc rn ro rd st_64) := hD
      refine lv_iload hx hb d_T_walk_67 (lv_at hl 5 rfl) ?_
      refine W.widen (k := 2) (n := 12) (Nat.le_of_ble_eq_true rfl) (Nat.le_of_ble_eq_true rfl) ?_
      exact vx_ret (W.iret (v := z5_23) hx hb hr9 (fun t ht hW => ⟨⟨_, (R_64, st_64), rfl, h, by rw [ht]; exact hP, va_K.moved hW.alike hK, hD⟩, hS.F ht⟩) hS.2.2 d_T_walk_69)
def wqT_classOf (nW : Nat) (nE : Nat) (R : Nat → Int32) (f : Nat → Int32) (P : Nat → Int32) (st : Int32) (a1 : Int32) (a2 : Int32) (post : (Nat → Int32) → Int32 → Prop) (px : String → (Nat → Int32) → Int32 → Prop) : Prop :=
  wqT_needRegister a1 (wqT_needObject nW nE R a2 (vp_in a2 32 ∧ (wqM_itsClass nW nE f P (R a2.toNatClampNeg) (fun r21 => wqT_setRegister nW nE R st a1 r21 (fun R_24 st_24 => post R_24 st_24)))) (fun E => px E R st)) (fun E => px E R st)
set_option maxHeartbeats 4000000 in
set_option maxRecDepth 100000 in
theorem mT_classOf (l : Launch) (hlT : l.stackTraces = false) (sa : Nat → Nat) (dC : Nat → ClassId) (dI : Nat → Nat → Nat) (cA : ClassId) (a0 : Nat) (aR : Nat) (aM : Nat) (aW : Nat) (aP : Nat) (aS : Nat) (aC : Nat) (aO : Nat) (nW : Nat) (nE : Nat) (sz : Nat) (R : Nat → Int32) (f : Nat → Int32) (us : Int32) (P : Nat → Int32) (S : Nat → Int32) (sc : Int32) (li : Int32) (rc : Nat → Int32) (rn : Int32) (ro : Nat → Int32) (rd : Int32) (st : Int32) (a1 : Int32) (a2 : Int32) (post : (Nat → Int32) → Int32 → Prop) (px : String → (Nat → Int32) → Int32 → Prop) (h : wqT_classOf nW nE R f P st a1 a2 post px) : vx_Met l y_T_classOf ws_T_classOf ({ frames := 8, cells := 3, slots := 18, locals := 141 }) (xw_P (dC, dI) vwCl (TSw cA a0 aR aM aW aP aS aC aO nW nE R f us P S sc li rc rn ro rd st) [(cA, .int)] sz sa [.ref a0, .int a1, .int a2]) (va_Qv (fun u : (Nat → Int32) × Int32 => post u.1 u.2) (rw_B (dC, dI) vwCl [(cA, .int)] (va_A (TSw cA a0 aR aM aW aP aS aC aO nW nE R f us P S sc li rc rn ro rd st) sz) (fun u : (Nat → Int32) × Int32 => TSw cA a0 aR aM aW aP aS aC aO nW nE u.1 f us P S sc li rc rn ro rd u.2)) (va_A (TSw cA a0 aR aM aW aP aS aC aO nW nE R f us P S sc li rc rn ro rd st) sz)) (rw_X (dC, dI) vwCl [(cA, .int)] (va_A (TSw cA a0 aR aM aW aP aS aC aO nW nE R f us P S sc li rc rn ro rd st) sz) (fun u : (Nat → Int32) × Int32 => TSw cA a0 aR aM aW aP aS aC aO nW nE u.1 f us P S sc li rc rn ro rd u.2) (fun (E : String) (u : (Nat → Int32) × Int32) => px E u.1 u.2)) 3 18 (va_A (TSw cA a0 aR aM aW aP aS aC aO nW nE R f us P S sc li rc rn ro rd st) sz) := by
  refine vx_ofW (cc := c_T_classOf) (maxL := 3) (ret := none) (by decide) rfl ?_
  intro p e s m args below meth c s₁ B hml hEx hv
  obtain ⟨rfl, hsz, hP, hK, hD0, hXT⟩ := hv
  have hx := B.exec
  have hb := B.bytes
  have hr9 := B.returns
  have hts := atoms_spec (ws := ws_T_classOf) B.pre
  have hw : ∀ w ∈ WB_, w.before _ s = true := fun w h => hts w (List.mem_cons_of_mem _ h)
  have hown : s.vm.findClass R_T = some m.cls := findClass_of_methodNamed B.named
  have hlocks := B.notSynchronized
  subst hsz
  have hD := hD0.self (sz := s.heap.size)
  generalize hAe : va_A (TSw cA a0 aR aM aW aP aS aC aO nW nE R f us P S sc li rc rn ro rd st) s.heap.size = A at hD hXT ⊢
  have hA : ∀ q : Nat, s.heap.size ≤ q → A q := fun q h => by rw [← hAe]; exact Or.inr h
  have hS : va_S A s.heap s.heap [] := va_S.rf
  have hl := lv_entry ([.ref a0, .int a1, .int a2]) (n := 3) (Nat.le_of_ble_eq_true rfl)
  rw [lg_entry_eq]
  generalize (lg_sl ([.ref a0, .int a1, .int a2]) ++ List.replicate (3 - (lg_sl ([.ref a0, .int a1, .int a2])).length) Slot.unset).toArray = ls at hl ⊢
  have hl : lv_has ls 3 [(0, .ref a0), (1, .int a1), (2, .int a2)] := hl
  unfold wqT_classOf at h
  refine lv_iload_n hx hb d_T_classOf_0 rfl (lv_at hl 1 rfl) ?_
  refine rx_callv (vx_runS (As := [.int a1]) (rest := []) ⟨hx, hb, hml, hown, hw⟩ (mT_needRegister l hlT sa a1 _ _ h) (va_cwS 1 hw g_T_27 rfl rfl rfl (by decide +kernel) ⟨Nat.le_of_ble_eq_true rfl, Nat.le_of_ble_eq_true rfl⟩) (xs_PS (xt_at hXT hS)) rfl rfl hl.1 rfl (lv_room (Nat.le_of_ble_eq_true rfl)) d_T_classOf_1 ⟨Nat.le_of_ble_eq_true rfl, Nat.le_of_ble_eq_true rfl⟩) (fun E9 ce q9 H1 h hz hk hce hcv hcl => ?_) (fun h => ?_)
  · exact rx_out (R, st) rfl hEx hlocks hK hP hD hS h hz hk hce hcv hcl (Nat.le_of_ble_eq_true rfl) (Nat.le_of_ble_eq_true rfl)
  · refine lv_aload_n hx hb d_T_classOf_4 rfl (lv_at hl 0 rfl) ?_
    refine lv_iload_n hx hb d_T_classOf_5 rfl (lv_at hl 2 rfl) ?_
    refine rx_callv (vx_runV (As := [.int a2]) (rest := []) ⟨hx, hb, hml, hown, hw⟩ (mT_needObject l hlT sa dC dI cA a0 aR aM aW aP aS aC aO nW nE R f us P S sc li rc rn ro rd st a2 _ _ h) (cwV 1 hw g_T_60 rfl rfl rfl (by decide +kernel) ⟨Nat.le_of_ble_eq_true rfl, Nat.le_of_ble_eq_true rfl⟩) (xo_PV (ci := 0) (q0 := 0) hK hP (xt_at hXT hS) rfl rfl) rfl rfl hl.1 rfl (lv_room (Nat.le_of_ble_eq_true rfl)) d_T_classOf_6 ⟨Nat.le_of_ble_eq_true rfl, Nat.le_of_ble_eq_true rfl⟩) (fun E9 ce q9 H1 h hz hk hce hcv hcl => ?_) (fun h => ?_)
    · exact rx_out (R, st) rfl hEx hlocks hK hP hD hS h hz hk hce hcv hcl (Nat.le_of_ble_eq_true rfl) (Nat.le_of_ble_eq_true rfl)
    · refine lv_aload_n hx hb d_T_classOf_9 rfl (lv_at hl 0 rfl) ?_
      refine lv_iload_n hx hb d_T_classOf_10 rfl (lv_at hl 1 rfl) ?_
      refine lv_aload_n hx hb d_T_classOf_11 rfl (lv_at hl 0 rfl) ?_
      refine va_get (D := (dC, dI)) (ci := 0) (v := .ref aM) (C := R_T) (T := T_T) (N := 2) hx hb hw in_T hown hK hP 0 rfl rfl 1 (by decide) (hw _ wd_104) (fun _ h9 => h9) rfl d_T_classOf_12 ?_
      refine lv_aload_n hx hb d_T_classOf_15 rfl (lv_at hl 0 rfl) ?_
      refine va_get (D := (dC, dI)) (ci := 0) (v := .ref aR) (C := R_T) (T := T_T) (N := 2) hx hb hw in_T hown hK hP 0 rfl rfl 0 (by decide) (hw _ wd_103) (fun _ h9 => h9) rfl d_T_classOf_16 ?_
      refine lv_iload_n hx hb d_T_classOf_19 rfl (lv_at hl 2 rfl) ?_
      refine va_iald hx hb hK hP 1 0 rfl rfl h.1 d_T_classOf_20 ?_
      have h := h.2
      refine rq_calli (W.runV (As := [.int (R a2.toNatClampNeg)]) (rest := [.int a1, .ref a0]) ⟨hx, hb, hml, hown, hw⟩ (mM_itsClass l dC dI cA a0 aR aM aW aP aS aC aO nW nE R f us P S sc li rc rn ro rd st (R a2.toNatClampNeg) _ h) (cwV 1 hw g_T_63 rfl rfl rfl (by decide +kernel) ⟨Nat.le_of_ble_eq_true rfl, Nat.le_of_ble_eq_true rfl⟩) (ro_PV (ci := 1) (q0 := 2) hK hP rfl rfl) rfl rfl hl.1 rfl (lv_room (Nat.le_of_ble_eq_true rfl)) d_T_classOf_21 ⟨Nat.le_of_ble_eq_true rfl, Nat.le_of_ble_eq_true rfl⟩) (fun r21 h => ?_)
      have hFc := va_free (wc := TSw cA a0 aR aM aW aP aS aC aO nW nE R f us P S sc li rc rn ro rd st) hD hS hA [0, 1, 2, 3, 4, 5, 6, 7] rfl
      refine va_callv (va_runV (As := [.int a1, .int r21]) (rest := []) ⟨hx, hb, hml, hown, hw⟩ (mT_setRegister l dC dI cA a0 aR aM aW aP aS aC aO nW nE s.heap.size R f us P S sc li rc rn ro rd st a1 r21 _ h) (cwV 2 hw g_T_43 rfl rfl rfl (by decide +kernel) ⟨Nat.le_of_ble_eq_true rfl, Nat.le_of_ble_eq_true rfl⟩) (rw_PV (ci := 0) (q0 := 0) hK hP hD rfl rfl) rfl rfl hl.1 rfl (lv_room (Nat.le_of_ble_eq_true rfl)) d_T_classOf_24 ⟨Nat.le_of_ble_eq_true rfl, Nat.le_of_ble_eq_true rfl⟩) hS (fun q _ h => hFc q h) hFc (fun u t H locs ht hvm h hB hz1 hk1 hS => ?_)
      obtain ⟨R_24, st_24⟩ := u
      obtain ⟨hP, hK1, hD1⟩ := hB
      rw [ht] at hP
      have hD := hD1.weaken (fun _ _ _ q => hFc _ q)
      clear hFc hD1 hK1
      try dsimp only at h
      have hP : va_P (dC, dI) vwCl (TSw cA a0 aR aM aW aP aS aC aO nW nE R_24 f us P S sc li rc rn ro rd st_24) H := hP
      have hD : va_D A (TSw cA a0 aR aM aW aP aS aC aO nW nE R_24 f us P S sc li rc rn ro rd st_24) := hD
      refine W.widen (k := 3) (n := 18) (Nat.le_of_ble_eq_true rfl) (Nat.le_of_ble_eq_true rfl) ?_
      exact vx_ret (W.vret hx hb hr9 (fun t ht hW => ⟨⟨(R_24, st_24), rfl, h, by rw [ht]; exact hP, va_K.moved hW.alike hK, hD⟩, hS.F ht⟩) hS.2.2 d_T_classOf_27)
def wqT_setClass (nW : Nat) (nE : Nat) (R : Nat → Int32) (f : Nat → Int32) (P : Nat → Int32) (st : Int32) (a1 : Int32) (a2 : Int32) (post : (Nat → Int32) → Int32 → Prop) (px : String → (Nat → Int32) → Int32 → Prop) : Prop :=
  wqT_needObject nW nE R a1 (wqT_needRegister a2 (vp_in a1 32 ∧ (vp_in a2 32 ∧ (wqM_setItsClass nW nE f P st (R a1.toNatClampNeg) (R a2.toNatClampNeg) (fun f_25 st_25 => post f_25 st_25)))) (fun E => px E f st)) (fun E => px E f st)
set_option maxHeartbeats 4000000 in
set_option maxRecDepth 100000 in
theorem mT_setClass (l : Launch) (hlT : l.stackTraces = false) (sa : Nat → Nat) (dC : Nat → ClassId) (dI : Nat → Nat → Nat) (cA : ClassId) (a0 : Nat) (aR : Nat) (aM : Nat) (aW : Nat) (aP : Nat) (aS : Nat) (aC : Nat) (aO : Nat) (nW : Nat) (nE : Nat) (sz : Nat) (R : Nat → Int32) (f : Nat → Int32) (us : Int32) (P : Nat → Int32) (S : Nat → Int32) (sc : Int32) (li : Int32) (rc : Nat → Int32) (rn : Int32) (ro : Nat → Int32) (rd : Int32) (st : Int32) (a1 : Int32) (a2 : Int32) (post : (Nat → Int32) → Int32 → Prop) (px : String → (Nat → Int32) → Int32 → Prop) (h : wqT_setClass nW nE R f P st a1 a2 post px) : vx_Met l y_T_setClass ws_T_setClass ({ frames := 8, cells := 3, slots := 18, locals := 141 }) (xw_P (dC, dI) vwCl (TSw cA a0 aR aM aW aP aS aC aO nW nE R f us P S sc li rc rn ro rd st) [(cA, .int)] sz sa [.ref a0, .int a1, .int a2]) (va_Qv (fun u : (Nat → Int32) × Int32 => post u.1 u.2) (rw_B (dC, dI) vwCl [(cA, .int)] (va_A (TSw cA a0 aR aM aW aP aS aC aO nW nE R f us P S sc li rc rn ro rd st) sz) (fun u : (Nat → Int32) × Int32 => TSw cA a0 aR aM aW aP aS aC aO nW nE R u.1 us P S sc li rc rn ro rd u.2)) (va_A (TSw cA a0 aR aM aW aP aS aC aO nW nE R f us P S sc li rc rn ro rd st) sz)) (rw_X (dC, dI) vwCl [(cA, .int)] (va_A (TSw cA a0 aR aM aW aP aS aC aO nW nE R f us P S sc li rc rn ro rd st) sz) (fun u : (Nat → Int32) × Int32 => TSw cA a0 aR aM aW aP aS aC aO nW nE R u.1 us P S sc li rc rn ro rd u.2) (fun (E : String) (u : (Nat → Int32) × Int32) => px E u.1 u.2)) 3 18 (va_A (TSw cA a0 aR aM aW aP aS aC aO nW nE R f us P S sc li rc rn ro rd st) sz) := by
  refine vx_ofW (cc := c_T_setClass) (maxL := 3) (ret := none) (by decide) rfl ?_
  intro p e s m args below meth c s₁ B hml hEx hv
  obtain ⟨rfl, hsz, hP, hK, hD0, hXT⟩ := hv
  have hx := B.exec
  have hb := B.bytes
  have hr9 := B.returns
  have hts := atoms_spec (ws := ws_T_setClass) B.pre
  have hw : ∀ w ∈ WB_, w.before _ s = true := fun w h => hts w (List.mem_cons_of_mem _ h)
  have hown : s.vm.findClass R_T = some m.cls := findClass_of_methodNamed B.named
  have hlocks := B.notSynchronized
  subst hsz
  have hD := hD0.self (sz := s.heap.size)
  generalize hAe : va_A (TSw cA a0 aR aM aW aP aS aC aO nW nE R f us P S sc li rc rn ro rd st) s.heap.size = A at hD hXT ⊢
  have hA : ∀ q : Nat, s.heap.size ≤ q → A q := fun q h => by rw [← hAe]; exact Or.inr h
  have hS : va_S A s.heap s.heap [] := va_S.rf
  have hl := lv_entry ([.ref a0, .int a1, .int a2]) (n := 3) (Nat.le_of_ble_eq_true rfl)
  rw [lg_entry_eq]
  generalize (lg_sl ([.ref a0, .int a1, .int a2]) ++ List.replicate (3 - (lg_sl ([.ref a0, .int a1, .int a2])).length) Slot.unset).toArray = ls at hl ⊢
  have hl : lv_has ls 3 [(0, .ref a0), (1, .int a1), (2, .int a2)] := hl
  unfold wqT_setClass at h
  refine lv_aload_n hx hb d_T_setClass_0 rfl (lv_at hl 0 rfl) ?_
  refine lv_iload_n hx hb d_T_setClass_1 rfl (lv_at hl 1 rfl) ?_
  refine rx_callv (vx_runV (As := [.int a1]) (rest := []) ⟨hx, hb, hml, hown, hw⟩ (mT_needObject l hlT sa dC dI cA a0 aR aM aW aP aS aC aO nW nE R f us P S sc li rc rn ro rd st a1 _ _ h) (cwV 1 hw g_T_60 rfl rfl rfl (by decide +kernel) ⟨Nat.le_of_ble_eq_true rfl, Nat.le_of_ble_eq_true rfl⟩) (xo_PV (ci := 0) (q0 := 0) hK hP (xt_at hXT hS) rfl rfl) rfl rfl hl.1 rfl (lv_room (Nat.le_of_ble_eq_true rfl)) d_T_setClass_2 ⟨Nat.le_of_ble_eq_true rfl, Nat.le_of_ble_eq_true rfl⟩) (fun E9 ce q9 H1 h hz hk hce hcv hcl => ?_) (fun h => ?_)
  · exact rx_out (f, st) rfl hEx hlocks hK hP hD hS h hz hk hce hcv hcl (Nat.le_of_ble_eq_true rfl) (Nat.le_of_ble_eq_true rfl)
  · refine lv_iload_n hx hb d_T_setClass_5 rfl (lv_at hl 2 rfl) ?_
    refine rx_callv (vx_runS (As := [.int a2]) (rest := []) ⟨hx, hb, hml, hown, hw⟩ (mT_needRegister l hlT sa a2 _ _ h) (va_cwS 1 hw g_T_27 rfl rfl rfl (by decide +kernel) ⟨Nat.le_of_ble_eq_true rfl, Nat.le_of_ble_eq_true rfl⟩) (xs_PS (xt_at hXT hS)) rfl rfl hl.1 rfl (lv_room (Nat.le_of_ble_eq_true rfl)) d_T_setClass_6 ⟨Nat.le_of_ble_eq_true rfl, Nat.le_of_ble_eq_true rfl⟩) (fun E9 ce q9 H1 h hz hk hce hcv hcl => ?_) (fun h => ?_)
    · exact rx_out (f, st) rfl hEx hlocks hK hP hD hS h hz hk hce hcv hcl (Nat.le_of_ble_eq_true rfl) (Nat.le_of_ble_eq_true rfl)
    · refine lv_aload_n hx hb d_T_setClass_9 rfl (lv_at hl 0 rfl) ?_
      refine va_get (D := (dC, dI)) (ci := 0) (v := .ref aM) (C := R_T) (T := T_T) (N := 2) hx hb hw in_T hown hK hP 0 rfl rfl 1 (by decide) (hw _ wd_104) (fun _ h9 => h9) rfl d_T_setClass_10 ?_
      refine lv_aload_n hx hb d_T_setClass_13 rfl (lv_at hl 0 rfl) ?_
      refine va_get (D := (dC, dI)) (ci := 0) (v := .ref aR) (C := R_T) (T := T_T) (N := 2) hx hb hw in_T hown hK hP 0 rfl rfl 0 (by decide) (hw _ wd_103) (fun _ h9 => h9) rfl d_T_setClass_14 ?_
      refine lv_iload_n hx hb d_T_setClass_17 rfl (lv_at hl 1 rfl) ?_
      refine va_iald hx hb hK hP 1 0 rfl rfl h.1 d_T_setClass_18 ?_
      have h := h.2
      refine lv_aload_n hx hb d_T_setClass_19 rfl (lv_at hl 0 rfl) ?_
      refine va_get (D := (dC, dI)) (ci := 0) (v := .ref aR) (C := R_T) (T := T_T) (N := 2) hx hb hw in_T hown hK hP 0 rfl rfl 0 (by decide) (hw _ wd_103) (fun _ h9 => h9) rfl d_T_setClass_20 ?_
      refine lv_iload_n hx hb d_T_setClass_23 rfl (lv_at hl 2 rfl) ?_
      refine va_iald hx hb hK hP 1 0 rfl rfl h.1 d_T_setClass_24 ?_
      have h := h.2
      have hFc := va_free (wc := TSw cA a0 aR aM aW aP aS aC aO nW nE R f us P S sc li rc rn ro rd st) hD hS hA [0, 1, 2, 3, 4, 5, 6, 7] rfl
      refine va_callv (va_runV (As := [.int (R a1.toNatClampNeg), .int (R a2.toNatClampNeg)]) (rest := []) ⟨hx, hb, hml, hown, hw⟩ (mM_setItsClass l dC dI cA a0 aR aM aW aP aS aC aO nW nE s.heap.size R f us P S sc li rc rn ro rd st (R a1.toNatClampNeg) (R a2.toNatClampNeg) _ h) (cwV 2 hw g_T_89 rfl rfl rfl (by decide +kernel) ⟨Nat.le_of_ble_eq_true rfl, Nat.le_of_ble_eq_true rfl⟩) (rw_PV (ci := 1) (q0 := 2) hK hP hD rfl rfl) rfl rfl hl.1 rfl (lv_room (Nat.le_of_ble_eq_true rfl)) d_T_setClass_25 ⟨Nat.le_of_ble_eq_true rfl, Nat.le_of_ble_eq_true rfl⟩) hS (fun q _ h => hFc q h) hFc (fun u t H locs ht hvm h hB hz1 hk1 hS => ?_)
      obtain ⟨f_25, st_25⟩ := u
      obtain ⟨hP, hK1, hD1⟩ := hB
      rw [ht] at hP
      have hD := hD1.weaken (fun _ _ _ q => hFc _ q)
      clear hFc hD1 hK1
      try dsimp only at h
      have hP : va_P (dC, dI) vwCl (TSw cA a0 aR aM aW aP aS aC aO nW nE R f_25 us P S sc li rc rn ro rd st_25) H := hP
      have hD : va_D A (TSw cA a0 aR aM aW aP aS aC aO nW nE R f_25 us P S sc li rc rn ro rd st_25) := hD
      refine W.widen (k := 3) (n := 18) (Nat.le_of_ble_eq_true rfl) (Nat.le_of_ble_eq_true rfl) ?_
      exact vx_ret (W.vret hx hb hr9 (fun t ht hW => ⟨⟨(f_25, st_25), rfl, h, by rw [ht]; exact hP, va_K.moved hW.alike hK, hD⟩, hS.F ht⟩) hS.2.2 d_T_setClass_28)
def wqT_byteAt (nW : Nat) (nE : Nat) (R : Nat → Int32) (f : Nat → Int32) (P : Nat → Int32) (a1 : Int32) (a2 : Int32) (post : Int32 → Prop) (px : String → Prop) : Prop :=
  wqT_needBytes nW nE R f P a1 (wqT_needIndex nW nE R f P a1 a2 (vp_in a1 32 ∧ (wqM_oneByte nW nE f P (R a1.toNatClampNeg) a2 (fun r22 => post r22))) (fun E => px E)) (fun E => px E)
set_option maxHeartbeats 4000000 in
set_option maxRecDepth 100000 in
theorem mT_byteAt (l : Launch) (hlT : l.stackTraces = false) (sa : Nat → Nat) (dC : Nat → ClassId) (dI : Nat → Nat → Nat) (cA : ClassId) (a0 : Nat) (aR : Nat) (aM : Nat) (aW : Nat) (aP : Nat) (aS : Nat) (aC : Nat) (aO : Nat) (nW : Nat) (nE : Nat) (sz : Nat) (R : Nat → Int32) (f : Nat → Int32) (us : Int32) (P : Nat → Int32) (S : Nat → Int32) (sc : Int32) (li : Int32) (rc : Nat → Int32) (rn : Int32) (ro : Nat → Int32) (rd : Int32) (st : Int32) (a1 : Int32) (a2 : Int32) (post : Int32 → Prop) (px : String → Prop) (h : wqT_byteAt nW nE R f P a1 a2 post px) : vx_Met l y_T_byteAt ws_T_byteAt ({ frames := 8, cells := 3, slots := 18, locals := 141 }) (xw_P (dC, dI) vwCl (TSw cA a0 aR aM aW aP aS aC aO nW nE R f us P S sc li rc rn ro rd st) [(cA, .int)] sz sa [.ref a0, .int a1, .int a2]) (va_Qi (fun (r : Int32) (u : Unit) => post r) (rw_B (dC, dI) vwCl [(cA, .int)] (va_A (TSw cA a0 aR aM aW aP aS aC aO nW nE R f us P S sc li rc rn ro rd st) sz) (fun u : Unit => TSw cA a0 aR aM aW aP aS aC aO nW nE R f us P S sc li rc rn ro rd st)) (va_A (TSw cA a0 aR aM aW aP aS aC aO nW nE R f us P S sc li rc rn ro rd st) sz)) (rw_X (dC, dI) vwCl [(cA, .int)] (va_A (TSw cA a0 aR aM aW aP aS aC aO nW nE R f us P S sc li rc rn ro rd st) sz) (fun u : Unit => TSw cA a0 aR aM aW aP aS aC aO nW nE R f us P S sc li rc rn ro rd st) (fun (E : String) (u : Unit) => px E)) 3 18 (va_A (TSw cA a0 aR aM aW aP aS aC aO nW nE R f us P S sc li rc rn ro rd st) sz) := by
  refine vx_ofW (cc := c_T_byteAt) (maxL := 3) (ret := (some .int)) (by decide) rfl ?_
  intro p e s m args below meth c s₁ B hml hEx hv
  obtain ⟨rfl, hsz, hP, hK, hD0, hXT⟩ := hv
  have hx := B.exec
  have hb := B.bytes
  have hr9 := B.returns
  have hts := atoms_spec (ws := ws_T_byteAt) B.pre
  have hw : ∀ w ∈ WB_, w.before _ s = true := fun w h => hts w (List.mem_cons_of_mem _ h)
  have hown : s.vm.findClass R_T = some m.cls := findClass_of_methodNamed B.named
  have hlocks := B.notSynchronized
  subst hsz
  have hD := hD0.self (sz := s.heap.size)
  generalize hAe : va_A (TSw cA a0 aR aM aW aP aS aC aO nW nE R f us P S sc li rc rn ro rd st) s.heap.size = A at hD hXT ⊢
  have hA : ∀ q : Nat, s.heap.size ≤ q → A q := fun q h => by rw [← hAe]; exact Or.inr h
  have hS : va_S A s.heap s.heap [] := va_S.rf
  have hl := lv_entry ([.ref a0, .int a1, .int a2]) (n := 3) (Nat.le_of_ble_eq_true rfl)
  rw [lg_entry_eq]
  generalize (lg_sl ([.ref a0, .int a1, .int a2]) ++ List.replicate (3 - (lg_sl ([.ref a0, .int a1, .int a2])).length) Slot.unset).toArray = ls at hl ⊢
  have hl : lv_has ls 3 [(0, .ref a0), (1, .int a1), (2, .int a2)] := hl
  unfold wqT_byteAt at h
  refine lv_aload_n hx hb d_T_byteAt_0 rfl (lv_at hl 0 rfl) ?_
  refine lv_iload_n hx hb d_T_byteAt_1 rfl (lv_at hl 1 rfl) ?_
  refine rx_callv (vx_runV (As := [.int a1]) (rest := []) ⟨hx, hb, hml, hown, hw⟩ (mT_needBytes l hlT sa dC dI cA a0 aR aM aW aP aS aC aO nW nE R f us P S sc li rc rn ro rd st a1 _ _ h) (cwV 1 hw g_T_92 rfl rfl rfl (by decide +kernel) ⟨Nat.le_of_ble_eq_true rfl, Nat.le_of_ble_eq_true rfl⟩) (xo_PV (ci := 0) (q0 := 0) hK hP (xt_at hXT hS) rfl rfl) rfl rfl hl.1 rfl (lv_room (Nat.le_of_ble_eq_true rfl)) d_T_byteAt_2 ⟨Nat.le_of_ble_eq_true rfl, Nat.le_of_ble_eq_true rfl⟩) (fun E9 ce q9 H1 h hz hk hce hcv hcl => ?_) (fun h => ?_)
  · exact rx_out () rfl hEx hlocks hK hP hD hS h hz hk hce hcv hcl (Nat.le_of_ble_eq_true rfl) (Nat.le_of_ble_eq_true rfl)
  · refine lv_aload_n hx hb d_T_byteAt_5 rfl (lv_at hl 0 rfl) ?_
    refine lv_iload_n hx hb d_T_byteAt_6 rfl (lv_at hl 1 rfl) ?_
    refine lv_iload_n hx hb d_T_byteAt_7 rfl (lv_at hl 2 rfl) ?_
    refine rx_callv (vx_runV (As := [.int a1, .int a2]) (rest := []) ⟨hx, hb, hml, hown, hw⟩ (mT_needIndex l hlT sa dC dI cA a0 aR aM aW aP aS aC aO nW nE R f us P S sc li rc rn ro rd st a1 a2 _ _ h) (cwV 2 hw g_T_78 rfl rfl rfl (by decide +kernel) ⟨Nat.le_of_ble_eq_true rfl, Nat.le_of_ble_eq_true rfl⟩) (xo_PV (ci := 0) (q0 := 0) hK hP (xt_at hXT hS) rfl rfl) rfl rfl hl.1 rfl (lv_room (Nat.le_of_ble_eq_true rfl)) d_T_byteAt_8 ⟨Nat.le_of_ble_eq_true rfl, Nat.le_of_ble_eq_true rfl⟩) (fun E9 ce q9 H1 h hz hk hce hcv hcl => ?_) (fun h => ?_)
    · exact rx_out () rfl hEx hlocks hK hP hD hS h hz hk hce hcv hcl (Nat.le_of_ble_eq_true rfl) (Nat.le_of_ble_eq_true rfl)
    · refine lv_aload_n hx hb d_T_byteAt_11 rfl (lv_at hl 0 rfl) ?_
      refine va_get (D := (dC, dI)) (ci := 0) (v := .ref aM) (C := R_T) (T := T_T) (N := 2) hx hb hw in_T hown hK hP 0 rfl rfl 1 (by decide) (hw _ wd_104) (fun _ h9 => h9) rfl d_T_byteAt_12 ?_
      refine lv_aload_n hx hb d_T_byteAt_15 rfl (lv_at hl 0 rfl) ?_
      refine va_get (D := (dC, dI)) (ci := 0) (v := .ref aR) (C := R_T) (T := T_T) (N := 2) hx hb hw in_T hown hK hP 0 rfl rfl 0 (by decide) (hw _ wd_103) (fun _ h9 => h9) rfl d_T_byteAt_16 ?_
      refine lv_iload_n hx hb d_T_byteAt_19 rfl (lv_at hl 1 rfl) ?_
      refine va_iald hx hb hK hP 1 0 rfl rfl h.1 d_T_byteAt_20 ?_
      have h := h.2
      refine lv_iload_n hx hb d_T_byteAt_21 rfl (lv_at hl 2 rfl) ?_
      refine rq_calli (W.runV (As := [.int (R a1.toNatClampNeg), .int a2]) (rest := []) ⟨hx, hb, hml, hown, hw⟩ (mM_oneByte l dC dI cA a0 aR aM aW aP aS aC aO nW nE R f us P S sc li rc rn ro rd st (R a1.toNatClampNeg) a2 _ h) (cwV 2 hw g_T_95 rfl rfl rfl (by decide +kernel) ⟨Nat.le_of_ble_eq_true rfl, Nat.le_of_ble_eq_true rfl⟩) (ro_PV (ci := 1) (q0 := 2) hK hP rfl rfl) rfl rfl hl.1 rfl (lv_room (Nat.le_of_ble_eq_true rfl)) d_T_byteAt_22 ⟨Nat.le_of_ble_eq_true rfl, Nat.le_of_ble_eq_true rfl⟩) (fun r22 h => ?_)
      refine W.widen (k := 3) (n := 18) (Nat.le_of_ble_eq_true rfl) (Nat.le_of_ble_eq_true rfl) ?_
      exact vx_ret (W.iret (v := r22) hx hb hr9 (fun t ht hW => ⟨⟨_, (), rfl, h, by rw [ht]; exact hP, va_K.moved hW.alike hK, hD⟩, hS.F ht⟩) hS.2.2 d_T_byteAt_25)
def wqT_bytePut_40 (nW : Nat) (nE : Nat) (R : Nat → Int32) (P : Nat → Int32) (y1_40 : Int32) (y2_40 : Int32) (y3_40 : Int64) (y5_40 : Int32) (y6_40 : Int32) (post : (Nat → Int32) → Prop) (px : String → (Nat → Int32) → Prop) (kx : Int32 → (Nat → Int32) → Prop) : Nat → Int32 → (Nat → Int32) → Prop
  | 0, _, _ => False
  | n + 1, x7_40, f_40 =>
    (y6_40 ≤ x7_40 → (kx x7_40 f_40)) ∧ (¬ (y6_40 ≤ x7_40) → (wqM_setOneByte nW nE f_40 P y5_40 (y2_40 + x7_40) ((((y3_40.toUInt64 >>> (((8 : Int32) * ((7 : Int32) - x7_40)).toInt64.toUInt64 &&& Int64.toUInt64 63)).toInt64).toInt32) &&& (255 : Int32)) (fun f_76 => wqT_bytePut_40 nW nE R P y1_40 y2_40 y3_40 y5_40 y6_40 post px kx n (x7_40 + (1 : Int32)) f_76)))
def wqT_bytePut (nW : Nat) (nE : Nat) (R : Nat → Int32) (f : Nat → Int32) (P : Nat → Int32) (a1 : Int32) (a2 : Int32) (a3 : Int64) (post : (Nat → Int32) → Prop) (px : String → (Nat → Int32) → Prop) : Prop :=
  wqT_needBytes nW nE R f P a1 (wqT_needIndex nW nE R f P a1 a2 (vp_in a1 32 ∧ (wqM_count nW nE f P (R a1.toNatClampNeg) (fun r27 => ∃ k_40, wqT_bytePut_40 nW nE R P a1 a2 a3 (R a1.toNatClampNeg) (if (r27 - a2) < (8 : Int32) then (r27 - a2) else (8 : Int32)) post px (fun z7_40 fe_40 => post fe_40) k_40 (0 : Int32) f))) (fun E => px E f)) (fun E => px E f)
set_option maxHeartbeats 4000000 in
set_option maxRecDepth 100000 in
theorem mT_bytePut (l : Launch) (hlT : l.stackTraces = false) (sa : Nat → Nat) (dC : Nat → ClassId) (dI : Nat → Nat → Nat) (cA : ClassId) (a0 : Nat) (aR : Nat) (aM : Nat) (aW : Nat) (aP : Nat) (aS : Nat) (aC : Nat) (aO : Nat) (nW : Nat) (nE : Nat) (sz : Nat) (R : Nat → Int32) (f : Nat → Int32) (us : Int32) (P : Nat → Int32) (S : Nat → Int32) (sc : Int32) (li : Int32) (rc : Nat → Int32) (rn : Int32) (ro : Nat → Int32) (rd : Int32) (st : Int32) (a1 : Int32) (a2 : Int32) (a3 : Int64) (post : (Nat → Int32) → Prop) (px : String → (Nat → Int32) → Prop) (h : wqT_bytePut nW nE R f P a1 a2 a3 post px) : vx_Met l y_T_bytePut ws_T_bytePut ({ frames := 8, cells := 3, slots := 18, locals := 141 }) (xw_P (dC, dI) vwCl (TSw cA a0 aR aM aW aP aS aC aO nW nE R f us P S sc li rc rn ro rd st) [(cA, .int)] sz sa [.ref a0, .int a1, .int a2, .long a3]) (va_Qv (fun u : (Nat → Int32) => post u) (rw_B (dC, dI) vwCl [(cA, .int)] (va_A (TSw cA a0 aR aM aW aP aS aC aO nW nE R f us P S sc li rc rn ro rd st) sz) (fun u : (Nat → Int32) => TSw cA a0 aR aM aW aP aS aC aO nW nE R u us P S sc li rc rn ro rd st)) (va_A (TSw cA a0 aR aM aW aP aS aC aO nW nE R f us P S sc li rc rn ro rd st) sz)) (rw_X (dC, dI) vwCl [(cA, .int)] (va_A (TSw cA a0 aR aM aW aP aS aC aO nW nE R f us P S sc li rc rn ro rd st) sz) (fun u : (Nat → Int32) => TSw cA a0 aR aM aW aP aS aC aO nW nE R u us P S sc li rc rn ro rd st) (fun (E : String) (u : (Nat → Int32)) => px E u)) 3 18 (va_A (TSw cA a0 aR aM aW aP aS aC aO nW nE R f us P S sc li rc rn ro rd st) sz) := by
  refine vx_ofW (cc := c_T_bytePut) (maxL := 9) (ret := none) (by decide) rfl ?_
  intro p e s m args below meth c s₁ B hml hEx hv
  obtain ⟨rfl, hsz, hP, hK, hD0, hXT⟩ := hv
  have hx := B.exec
  have hb := B.bytes
  have hr9 := B.returns
  have hts := atoms_spec (ws := ws_T_bytePut) B.pre
  have hw : ∀ w ∈ WB_, w.before _ s = true := fun w h => hts w (List.mem_cons_of_mem _ h)
  have hown : s.vm.findClass R_T = some m.cls := findClass_of_methodNamed B.named
  have hlocks := B.notSynchronized
  subst hsz
  have hD := hD0.self (sz := s.heap.size)
  generalize hAe : va_A (TSw cA a0 aR aM aW aP aS aC aO nW nE R f us P S sc li rc rn ro rd st) s.heap.size = A at hD hXT ⊢
  have hA : ∀ q : Nat, s.heap.size ≤ q → A q := fun q h => by rw [← hAe]; exact Or.inr h
  have hS : va_S A s.heap s.heap [] := va_S.rf
  have hl := lv_entry ([.ref a0, .int a1, .int a2, .long a3]) (n := 9) (Nat.le_of_ble_eq_true rfl)
  rw [lg_entry_eq]
  generalize (lg_sl ([.ref a0, .int a1, .int a2, .long a3]) ++ List.replicate (9 - (lg_sl ([.ref a0, .int a1, .int a2, .long a3])).length) Slot.unset).toArray = ls at hl ⊢
  have hl : lv_has ls 9 [(0, .ref a0), (1, .int a1), (2, .int a2), (3, .long a3)] := hl
  have lp_40 : ∀ (y1_40 : Int32) (y2_40 : Int32) (y3_40 : Int64) (y5_40 : Int32) (y6_40 : Int32) (kx : Int32 → (Nat → Int32) → Prop), (∀ (z7_40 : Int32) (fe_40 : Nat → Int32) (H : Heap) (locs : List Loc) (ls : Array Slot), va_P (dC, dI) vwCl (TSw cA a0 aR aM aW aP aS aC aO nW nE R fe_40 us P S sc li rc rn ro rd st) H → va_D A (TSw cA a0 aR aM aW aP aS aC aO nW nE R fe_40 us P S sc li rc rn ro rd st) → va_S A s.heap H locs → lv_has ls 9 [(0, .ref a0), (1, .int y1_40), (2, .int y2_40), (3, .long y3_40), (5, .int y5_40), (6, .int y6_40), (7, .int z7_40)] → kx z7_40 fe_40 → W p l e (headSpec ws_T_bytePut ({ frames := 8, cells := 3, slots := 18, locals := 141 })).room s m ([.ref a0, .int a1, .int a2, .long a3] : List Value).toArray below meth c H locs (3) (18) (vx_MQ below (va_Qv (fun u : (Nat → Int32) => post u) (rw_B (dC, dI) vwCl [(cA, .int)] A (fun u : (Nat → Int32) => TSw cA a0 aR aM aW aP aS aC aO nW nE R u us P S sc li rc rn ro rd st)) A) (rw_X (dC, dI) vwCl [(cA, .int)] A (fun u : (Nat → Int32) => TSw cA a0 aR aM aW aP aS aC aO nW nE R u us P S sc li rc rn ro rd st) (fun (E : String) (u : (Nat → Int32)) => px E u)) ([.ref a0, .int a1, .int a2, .long a3] : List Value).toArray s 3 18 A) (F0 m 85 ls [])) → ∀ (n : Nat) (x7_40 : Int32) (f_40 : Nat → Int32) (H : Heap) (locs : List Loc) (ls : Array Slot), va_P (dC, dI) vwCl (TSw cA a0 aR aM aW aP aS aC aO nW nE R f_40 us P S sc li rc rn ro rd st) H → va_D A (TSw cA a0 aR aM aW aP aS aC aO nW nE R f_40 us P S sc li rc rn ro rd st) → va_S A s.heap H locs → lv_has ls 9 [(0, .ref a0), (1, .int y1_40), (2, .int y2_40), (3, .long y3_40), (5, .int y5_40), (6, .int y6_40), (7, .int x7_40)] → wqT_bytePut_40 nW nE R P y1_40 y2_40 y3_40 y5_40 y6_40 post px kx n x7_40 f_40 → W p l e (headSpec ws_T_bytePut ({ frames := 8, cells := 3, slots := 18, locals := 141 })).room s m ([.ref a0, .int a1, .int a2, .long a3] : List Value).toArray below meth c H locs (3) (18) (vx_MQ below (va_Qv (fun u : (Nat → Int32) => post u) (rw_B (dC, dI) vwCl [(cA, .int)] A (fun u : (Nat → Int32) => TSw cA a0 aR aM aW aP aS aC aO nW nE R u us P S sc li rc rn ro rd st)) A) (rw_X (dC, dI) vwCl [(cA, .int)] A (fun u : (Nat → Int32) => TSw cA a0 aR aM aW aP aS aC aO nW nE R u us P S sc li rc rn ro rd st) (fun (E : String) (u : (Nat → Int32)) => px E u)) ([.ref a0, .int a1, .int a2, .long a3] : List Value).toArray s 3 18 A) (F0 m 40 ls []) := by
    intro y1_40 y2_40 y3_40 y5_40 y6_40 kx K n
    induction n with
    | zero => intro x7_40 f_40 H locs ls hP hD hS hl h; exact h.elim
    | succ n ih =>
      intro x7_40 f_40 H locs ls hP hD hS hl h
      refine lv_iload hx hb d_T_bytePut_40 (lv_at hl 6 rfl) ?_
      refine lv_iload hx hb d_T_bytePut_42 (lv_at hl 5 rfl) ?_
      refine lv_icmp_ge (tgt := 85) hx hb d_T_bytePut_44 (by decide) (fun c_44 => ?_) (fun c_44 => ?_)
      · have h := h.1 c_44
        exact K x7_40 f_40 H locs ls hP hD hS (lv_sub hl [0, 1, 2, 3, 4, 5, 6] rfl) h
      · have h := h.2 c_44
        refine lv_bipush (v := (8 : Int32)) hx hb d_T_bytePut_47 (by decide) ?_
        refine lv_bipush (v := (7 : Int32)) hx hb d_T_bytePut_49 (by decide) ?_
        refine lv_iload hx hb d_T_bytePut_51 (lv_at hl 6 rfl) ?_
        refine lv_isub hx hb d_T_bytePut_53 ?_
        refine lv_imul hx hb d_T_bytePut_54 ?_
        refine lv_istore (lv' := [(8, .int ((8 : Int32) * ((7 : Int32) - x7_40))), (0, .ref a0), (1, .int y1_40), (2, .int y2_40), (3, .long y3_40), (5, .int y5_40), (6, .int y6_40), (7, .int x7_40)]) hx hb d_T_bytePut_55 hl (by decide) rfl (fun ls hl => ?_)
        refine lv_aload_n hx hb d_T_bytePut_57 rfl (lv_at hl 1 rfl) ?_
        refine va_get (D := (dC, dI)) (ci := 0) (v := .ref aM) (C := R_T) (T := T_T) (N := 2) hx hb hw in_T hown hK hP 0 rfl rfl 1 (by decide) (hw _ wd_104) (fun _ h9 => h9) rfl d_T_bytePut_58 ?_
        refine lv_iload hx hb d_T_bytePut_61 (lv_at hl 5 rfl) ?_
        refine lv_iload_n hx hb d_T_bytePut_63 rfl (lv_at hl 3 rfl) ?_
        refine lv_iload hx hb d_T_bytePut_64 (lv_at hl 7 rfl) ?_
        refine lv_iadd hx hb d_T_bytePut_66 ?_
        refine lv_lload_n hx hb d_T_bytePut_67 rfl (lv_at hl 4 rfl) ?_
        refine lv_iload hx hb d_T_bytePut_68 (lv_at hl 0 rfl) ?_
        refine lv_lushr (v := (y3_40.toUInt64 >>> (((8 : Int32) * ((7 : Int32) - x7_40)).toInt64.toUInt64 &&& Int64.toUInt64 63)).toInt64) hx hb d_T_bytePut_70 rfl ?_
        refine lv_l2i (v := ((y3_40.toUInt64 >>> (((8 : Int32) * ((7 : Int32) - x7_40)).toInt64.toUInt64 &&& Int64.toUInt64 63)).toInt64).toInt32) hx hb d_T_bytePut_71 rfl ?_
        refine lv_sipush (v := (255 : Int32)) hx hb d_T_bytePut_72 (by decide) ?_
        refine lv_iand hx hb d_T_bytePut_75 ?_
        have hFc := va_free (wc := TSw cA a0 aR aM aW aP aS aC aO nW nE R f_40 us P S sc li rc rn ro rd st) hD hS hA [0, 1, 2, 3, 4, 5, 6, 7] rfl
        refine va_callv (va_runV (As := [.int y5_40, .int (y2_40 + x7_40), .int ((((y3_40.toUInt64 >>> (((8 : Int32) * ((7 : Int32) - x7_40)).toInt64.toUInt64 &&& Int64.toUInt64 63)).toInt64).toInt32) &&& (255 : Int32))]) (rest := []) ⟨hx, hb, hml, hown, hw⟩ (mM_setOneByte l dC dI cA a0 aR aM aW aP aS aC aO nW nE H.size R f_40 us P S sc li rc rn ro rd st y5_40 (y2_40 + x7_40) ((((y3_40.toUInt64 >>> (((8 : Int32) * ((7 : Int32) - x7_40)).toInt64.toUInt64 &&& Int64.toUInt64 63)).toInt64).toInt32) &&& (255 : Int32)) _ h) (cwV 3 hw g_T_106 rfl rfl rfl (by decide +kernel) ⟨Nat.le_of_ble_eq_true rfl, Nat.le_of_ble_eq_true rfl⟩) (rw_PV (ci := 1) (q0 := 2) hK hP hD rfl rfl) rfl rfl hl.1 rfl (lv_room (Nat.le_of_ble_eq_true rfl)) d_T_bytePut_76 ⟨Nat.le_of_ble_eq_true rfl, Nat.le_of_ble_eq_true rfl⟩) hS (fun q _ h => hFc q h) hFc (fun u t H locs ht hvm h hB hz1 hk1 hS => ?_)
        obtain ⟨f_76, rfl⟩ : ∃ z, z = u := ⟨_, rfl⟩
        obtain ⟨hP, hK1, hD1⟩ := hB
        rw [ht] at hP
        have hD := hD1.weaken (fun _ _ _ q => hFc _ q)
        clear hFc hD1 hK1
        try dsimp only at h
        have hP : va_P (dC, dI) vwCl (TSw cA a0 aR aM aW aP aS aC aO nW nE R f_76 us P S sc li rc rn ro rd st) H := hP
        have hD : va_D A (TSw cA a0 aR aM aW aP aS aC aO nW nE R f_76 us P S sc li rc rn ro rd st) := hD
        refine lv_iinc (v := x7_40 + (1 : Int32)) (lv' := [(7, .int (x7_40 + (1 : Int32))), (8, .int ((8 : Int32) * ((7 : Int32) - x7_40))), (0, .ref a0), (1, .int y1_40), (2, .int y2_40), (3, .long y3_40), (5, .int y5_40), (6, .int y6_40)]) hx hb d_T_bytePut_79 hl (k := 7) rfl rfl (by decide) rfl (fun ls hl => ?_)
        refine lv_goto (tgt := 40) hx hb d_T_bytePut_82 (by decide) ?_
        exact ih (x7_40 + (1 : Int32)) f_76 H locs ls hP hD hS (lv_sub hl [2, 3, 4, 5, 6, 7, 0] rfl) h
  unfold wqT_bytePut at h
  refine lv_aload_n hx hb d_T_bytePut_0 rfl (lv_at hl 0 rfl) ?_
  refine lv_iload_n hx hb d_T_bytePut_1 rfl (lv_at hl 1 rfl) ?_
  refine rx_callv (vx_runV (As := [.int a1]) (rest := []) ⟨hx, hb, hml, hown, hw⟩ (mT_needBytes l hlT sa dC dI cA a0 aR aM aW aP aS aC aO nW nE R f us P S sc li rc rn ro rd st a1 _ _ h) (cwV 1 hw g_T_92 rfl rfl rfl (by decide +kernel) ⟨Nat.le_of_ble_eq_true rfl, Nat.le_of_ble_eq_true rfl⟩) (xo_PV (ci := 0) (q0 := 0) hK hP (xt_at hXT hS) rfl rfl) rfl rfl hl.1 rfl (lv_room (Nat.le_of_ble_eq_true rfl)) d_T_bytePut_2 ⟨Nat.le_of_ble_eq_true rfl, Nat.le_of_ble_eq_true rfl⟩) (fun E9 ce q9 H1 h hz hk hce hcv hcl => ?_) (fun h => ?_)
  · exact rx_out (f) rfl hEx hlocks hK hP hD hS h hz hk hce hcv hcl (Nat.le_of_ble_eq_true rfl) (Nat.le_of_ble_eq_true rfl)
  · refine lv_aload_n hx hb d_T_bytePut_5 rfl (lv_at hl 0 rfl) ?_
    refine lv_iload_n hx hb d_T_bytePut_6 rfl (lv_at hl 1 rfl) ?_
    refine lv_iload_n hx hb d_T_bytePut_7 rfl (lv_at hl 2 rfl) ?_
    refine rx_callv (vx_runV (As := [.int a1, .int a2]) (rest := []) ⟨hx, hb, hml, hown, hw⟩ (mT_needIndex l hlT sa dC dI cA a0 aR aM aW aP aS aC aO nW nE R f us P S sc li rc rn ro rd st a1 a2 _ _ h) (cwV 2 hw g_T_78 rfl rfl rfl (by decide +kernel) ⟨Nat.le_of_ble_eq_true rfl, Nat.le_of_ble_eq_true rfl⟩) (xo_PV (ci := 0) (q0 := 0) hK hP (xt_at hXT hS) rfl rfl) rfl rfl hl.1 rfl (lv_room (Nat.le_of_ble_eq_true rfl)) d_T_bytePut_8 ⟨Nat.le_of_ble_eq_true rfl, Nat.le_of_ble_eq_true rfl⟩) (fun E9 ce q9 H1 h hz hk hce hcv hcl => ?_) (fun h => ?_)
    · exact rx_out (f) rfl hEx hlocks hK hP hD hS h hz hk hce hcv hcl (Nat.le_of_ble_eq_true rfl) (Nat.le_of_ble_eq_true rfl)
    · refine lv_aload_n hx hb d_T_bytePut_11 rfl (lv_at hl 0 rfl) ?_
      refine va_get (D := (dC, dI)) (ci := 0) (v := .ref aR) (C := R_T) (T := T_T) (N := 2) hx hb hw in_T hown hK hP 0 rfl rfl 0 (by decide) (hw _ wd_103) (fun _ h9 => h9) rfl d_T_bytePut_12 ?_
      refine lv_iload_n hx hb d_T_bytePut_15 rfl (lv_at hl 1 rfl) ?_
      refine va_iald hx hb hK hP 1 0 rfl rfl h.1 d_T_bytePut_16 ?_
      have h := h.2
      refine lv_istore (lv' := [(5, .int (R a1.toNatClampNeg)), (0, .ref a0), (1, .int a1), (2, .int a2), (3, .long a3)]) hx hb d_T_bytePut_17 hl (by decide) rfl (fun ls hl => ?_)
      refine lv_bipush (v := (8 : Int32)) hx hb d_T_bytePut_19 (by decide) ?_
      refine lv_aload_n hx hb d_T_bytePut_21 rfl (lv_at hl 1 rfl) ?_
      refine va_get (D := (dC, dI)) (ci := 0) (v := .ref aM) (C := R_T) (T := T_T) (N := 2) hx hb hw in_T hown hK hP 0 rfl rfl 1 (by decide) (hw _ wd_104) (fun _ h9 => h9) rfl d_T_bytePut_22 ?_
      refine lv_iload hx hb d_T_bytePut_25 (lv_at hl 0 rfl) ?_
      refine rq_calli (W.runV (As := [.int (R a1.toNatClampNeg)]) (rest := [.int (8 : Int32)]) ⟨hx, hb, hml, hown, hw⟩ (mM_count l dC dI cA a0 aR aM aW aP aS aC aO nW nE R f us P S sc li rc rn ro rd st (R a1.toNatClampNeg) _ h) (cwV 1 hw g_T_98 rfl rfl rfl (by decide +kernel) ⟨Nat.le_of_ble_eq_true rfl, Nat.le_of_ble_eq_true rfl⟩) (ro_PV (ci := 1) (q0 := 2) hK hP rfl rfl) rfl rfl hl.1 rfl (lv_room (Nat.le_of_ble_eq_true rfl)) d_T_bytePut_27 ⟨Nat.le_of_ble_eq_true rfl, Nat.le_of_ble_eq_true rfl⟩) (fun r27 h => ?_)
      refine lv_iload_n hx hb d_T_bytePut_30 rfl (lv_at hl 3 rfl) ?_
      refine lv_isub hx hb d_T_bytePut_31 ?_
      refine va_mmin hx hb (hml.trans hl.1.symm) hown (hw _ wd_521) (hw _ wd_155) (hw _ wd_46) (hw _ wd_156) (Nat.le_of_ble_eq_true rfl) (Nat.le_of_ble_eq_true rfl) (Nat.le_of_ble_eq_true rfl) (Nat.le_of_ble_eq_true rfl) d_T_bytePut_32 ?_
      refine lv_istore (lv' := [(6, .int (if (r27 - a2) < (8 : Int32) then (r27 - a2) else (8 : Int32))), (5, .int (R a1.toNatClampNeg)), (0, .ref a0), (1, .int a1), (2, .int a2), (3, .long a3)]) hx hb d_T_bytePut_35 hl (by decide) rfl (fun ls hl => ?_)
      refine lv_iconst (v := (0 : Int32)) hx hb d_T_bytePut_37 (by decide) ?_
      refine lv_istore (lv' := [(7, .int (0 : Int32)), (6, .int (if (r27 - a2) < (8 : Int32) then (r27 - a2) else (8 : Int32))), (5, .int (R a1.toNatClampNeg)), (0, .ref a0), (1, .int a1), (2, .int a2), (3, .long a3)]) hx hb d_T_bytePut_38 hl (by decide) rfl (fun ls hl => ?_)
      obtain ⟨n_40, h⟩ := h
      refine lp_40 a1 a2 a3 (R a1.toNatClampNeg) (if (r27 - a2) < (8 : Int32) then (r27 - a2) else (8 : Int32)) _ (fun z7_40 fe_40 H locs ls hP hD hS hl h => ?_) n_40 (0 : Int32) f s.heap [] ls hP hD hS (lv_sub hl [3, 4, 5, 6, 2, 1, 0] rfl) h
      refine W.widen (k := 3) (n := 18) (Nat.le_of_ble_eq_true rfl) (Nat.le_of_ble_eq_true rfl) ?_
      exact vx_ret (W.vret hx hb hr9 (fun t ht hW => ⟨⟨(fe_40), rfl, h, by rw [ht]; exact hP, va_K.moved hW.alike hK, hD⟩, hS.F ht⟩) hS.2.2 d_T_bytePut_85)
def wqT_kind (nW : Nat) (nE : Nat) (R : Nat → Int32) (f : Nat → Int32) (P : Nat → Int32) (a1 : Int32) (post : Int32 → Prop) (px : String → Prop) : Prop :=
  wqT_needRegister a1 (vp_in a1 32 ∧ (((R a1.toNatClampNeg) = 0 → (post (0 : Int32))) ∧ (¬ ((R a1.toNatClampNeg) = 0) → (wqV_isNumber (R a1.toNatClampNeg) (fun r18 => (r18 = 0 → (wqM_holdsSlots nW nE f P (R a1.toNatClampNeg) (fun r31 => (r31 = 0 → (post (3 : Int32))) ∧ (¬ (r31 = 0) → (post (2 : Int32)))))) ∧ (¬ (r18 = 0) → (post (1 : Int32)))))))) (fun E => px E)
set_option maxHeartbeats 4000000 in
set_option maxRecDepth 100000 in
theorem mT_kind (l : Launch) (hlT : l.stackTraces = false) (sa : Nat → Nat) (dC : Nat → ClassId) (dI : Nat → Nat → Nat) (cA : ClassId) (a0 : Nat) (aR : Nat) (aM : Nat) (aW : Nat) (aP : Nat) (aS : Nat) (aC : Nat) (aO : Nat) (nW : Nat) (nE : Nat) (sz : Nat) (R : Nat → Int32) (f : Nat → Int32) (us : Int32) (P : Nat → Int32) (S : Nat → Int32) (sc : Int32) (li : Int32) (rc : Nat → Int32) (rn : Int32) (ro : Nat → Int32) (rd : Int32) (st : Int32) (a1 : Int32) (post : Int32 → Prop) (px : String → Prop) (h : wqT_kind nW nE R f P a1 post px) : vx_Met l y_T_kind ws_T_kind ({ frames := 7, cells := 1, slots := 6, locals := 120 }) (xw_P (dC, dI) vwCl (TSw cA a0 aR aM aW aP aS aC aO nW nE R f us P S sc li rc rn ro rd st) [(cA, .int)] sz sa [.ref a0, .int a1]) (va_Qi (fun (r : Int32) (u : Unit) => post r) (rw_B (dC, dI) vwCl [(cA, .int)] (va_A (TSw cA a0 aR aM aW aP aS aC aO nW nE R f us P S sc li rc rn ro rd st) sz) (fun u : Unit => TSw cA a0 aR aM aW aP aS aC aO nW nE R f us P S sc li rc rn ro rd st)) (va_A (TSw cA a0 aR aM aW aP aS aC aO nW nE R f us P S sc li rc rn ro rd st) sz)) (rw_X (dC, dI) vwCl [(cA, .int)] (va_A (TSw cA a0 aR aM aW aP aS aC aO nW nE R f us P S sc li rc rn ro rd st) sz) (fun u : Unit => TSw cA a0 aR aM aW aP aS aC aO nW nE R f us P S sc li rc rn ro rd st) (fun (E : String) (u : Unit) => px E)) 1 6 (va_A (TSw cA a0 aR aM aW aP aS aC aO nW nE R f us P S sc li rc rn ro rd st) sz) := by
  refine vx_ofW (cc := c_T_kind) (maxL := 3) (ret := (some .int)) (by decide) rfl ?_
  intro p e s m args below meth c s₁ B hml hEx hv
  obtain ⟨rfl, hsz, hP, hK, hD0, hXT⟩ := hv
  have hx := B.exec
  have hb := B.bytes
  have hr9 := B.returns
  have hts := atoms_spec (ws := ws_T_kind) B.pre
  have hw : ∀ w ∈ WB_, w.before _ s = true := fun w h => hts w (List.mem_cons_of_mem _ h)
  have hown : s.vm.findClass R_T = some m.cls := findClass_of_methodNamed B.named
  have hlocks := B.notSynchronized
  subst hsz
  have hD := hD0.self (sz := s.heap.size)
  generalize hAe : va_A (TSw cA a0 aR aM aW aP aS aC aO nW nE R f us P S sc li rc rn ro rd st) s.heap.size = A at hD hXT ⊢
  have hA : ∀ q : Nat, s.heap.size ≤ q → A q := fun q h => by rw [← hAe]; exact Or.inr h
  have hS : va_S A s.heap s.heap [] := va_S.rf
  have hl := lv_entry ([.ref a0, .int a1]) (n := 3) (Nat.le_of_ble_eq_true rfl)
  rw [lg_entry_eq]
  generalize (lg_sl ([.ref a0, .int a1]) ++ List.replicate (3 - (lg_sl ([.ref a0, .int a1])).length) Slot.unset).toArray = ls at hl ⊢
  have hl : lv_has ls 3 [(0, .ref a0), (1, .int a1)] := hl
  unfold wqT_kind at h
  refine lv_iload_n hx hb d_T_kind_0 rfl (lv_at hl 1 rfl) ?_
  refine rx_callv (vx_runS (As := [.int a1]) (rest := []) ⟨hx, hb, hml, hown, hw⟩ (mT_needRegister l hlT sa a1 _ _ h) (va_cwS 1 hw g_T_27 rfl rfl rfl (by decide +kernel) ⟨Nat.le_of_ble_eq_true rfl, Nat.le_of_ble_eq_true rfl⟩) (xs_PS (xt_at hXT hS)) rfl rfl hl.1 rfl (lv_room (Nat.le_of_ble_eq_true rfl)) d_T_kind_1 ⟨Nat.le_of_ble_eq_true rfl, Nat.le_of_ble_eq_true rfl⟩) (fun E9 ce q9 H1 h hz hk hce hcv hcl => ?_) (fun h => ?_)
  · exact rx_out () rfl hEx hlocks hK hP hD hS h hz hk hce hcv hcl (Nat.le_of_ble_eq_true rfl) (Nat.le_of_ble_eq_true rfl)
  · refine lv_aload_n hx hb d_T_kind_4 rfl (lv_at hl 0 rfl) ?_
    refine va_get (D := (dC, dI)) (ci := 0) (v := .ref aR) (C := R_T) (T := T_T) (N := 2) hx hb hw in_T hown hK hP 0 rfl rfl 0 (by decide) (hw _ wd_103) (fun _ h9 => h9) rfl d_T_kind_5 ?_
    refine lv_iload_n hx hb d_T_kind_8 rfl (lv_at hl 1 rfl) ?_
    refine va_iald hx hb hK hP 1 0 rfl rfl h.1 d_T_kind_9 ?_
    have h := h.2
    refine lv_istore_n (lv' := [(2, .int (R a1.toNatClampNeg)), (0, .ref a0), (1, .int a1)]) hx hb d_T_kind_10 rfl hl (by decide) rfl (fun ls hl => ?_)
    refine lv_iload_n hx hb d_T_kind_11 rfl (lv_at hl 0 rfl) ?_
    refine lv_if_ne (tgt := 17) hx hb d_T_kind_12 (by decide) (fun c_12 => ?_) (fun c_12 => ?_)
    · have h := h.2 c_12
      refine lv_iload_n hx hb d_T_kind_17 rfl (lv_at hl 0 rfl) ?_
      refine rq_calli (W.runS (As := [.int (R a1.toNatClampNeg)]) (rest := []) ⟨hx, hb, hml, hown, hw⟩ (mV_isNumber l (R a1.toNatClampNeg) _ h) (va_cwS 1 hw g_T_109 rfl rfl rfl (by decide +kernel) ⟨Nat.le_of_ble_eq_true rfl, Nat.le_of_ble_eq_true rfl⟩) preEq rfl rfl hl.1 rfl (lv_room (Nat.le_of_ble_eq_true rfl)) d_T_kind_18 ⟨Nat.le_of_ble_eq_true rfl, Nat.le_of_ble_eq_true rfl⟩) (fun r18 h => ?_)
      refine lv_if_eq (tgt := 26) hx hb d_T_kind_21 (by decide) (fun c_21 => ?_) (fun c_21 => ?_)
      · have h := h.1 c_21
        refine lv_aload_n hx hb d_T_kind_26 rfl (lv_at hl 1 rfl) ?_
        refine va_get (D := (dC, dI)) (ci := 0) (v := .ref aM) (C := R_T) (T := T_T) (N := 2) hx hb hw in_T hown hK hP 0 rfl rfl 1 (by decide) (hw _ wd_104) (fun _ h9 => h9) rfl d_T_kind_27 ?_
        refine lv_iload_n hx hb d_T_kind_30 rfl (lv_at hl 0 rfl) ?_
        refine rq_calli (W.runV (As := [.int (R a1.toNatClampNeg)]) (rest := []) ⟨hx, hb, hml, hown, hw⟩ (mM_holdsSlots l dC dI cA a0 aR aM aW aP aS aC aO nW nE R f us P S sc li rc rn ro rd st (R a1.toNatClampNeg) _ h) (cwV 1 hw g_T_113 rfl rfl rfl (by decide +kernel) ⟨Nat.le_of_ble_eq_true rfl, Nat.le_of_ble_eq_true rfl⟩) (ro_PV (ci := 1) (q0 := 2) hK hP rfl rfl) rfl rfl hl.1 rfl (lv_room (Nat.le_of_ble_eq_true rfl)) d_T_kind_31 ⟨Nat.le_of_ble_eq_true rfl, Nat.le_of_ble_eq_true rfl⟩) (fun r31 h => ?_)
        refine lv_if_eq (tgt := 41) hx hb d_T_kind_34 (by decide) (fun c_34 => ?_) (fun c_34 => ?_)
        · have h := h.1 c_34
          refine lv_iconst (v := (3 : Int32)) hx hb d_T_kind_41 (by decide) ?_
          refine W.widen (k := 1) (n := 6) (Nat.le_of_ble_eq_true rfl) (Nat.le_of_ble_eq_true rfl) ?_
          exact vx_ret (W.iret (v := (3 : Int32)) hx hb hr9 (fun t ht hW => ⟨⟨_, (), rfl, h, by rw [ht]; exact hP, va_K.moved hW.alike hK, hD⟩, hS.F ht⟩) hS.2.2 d_T_kind_42)
        · have h := h.2 c_34
          refine lv_iconst (v := (2 : Int32)) hx hb d_T_kind_37 (by decide) ?_
          refine lv_goto (tgt := 42) hx hb d_T_kind_38 (by decide) ?_
          refine W.widen (k := 1) (n := 6) (Nat.le_of_ble_eq_true rfl) (Nat.le_of_ble_eq_true rfl) ?_
          exact vx_ret (W.iret (v := (2 : Int32)) hx hb hr9 (fun t ht hW => ⟨⟨_, (), rfl, h, by rw [ht]; exact hP, va_K.moved hW.alike hK, hD⟩, hS.F ht⟩) hS.2.2 d_T_kind_42)
      · have h := h.2 c_21
        refine lv_iconst (v := (1 : Int32)) hx hb d_T_kind_24 (by decide) ?_
        refine W.widen (k := 1) (n := 6) (Nat.le_of_ble_eq_true rfl) (Nat.le_of_ble_eq_true rfl) ?_
        exact vx_ret (W.iret (v := (1 : Int32)) hx hb hr9 (fun t ht hW => ⟨⟨_, (), rfl, h, by rw [ht]; exact hP, va_K.moved hW.alike hK, hD⟩, hS.F ht⟩) hS.2.2 d_T_kind_25)
    · have h := h.1 c_12
      refine lv_iconst (v := (0 : Int32)) hx hb d_T_kind_15 (by decide) ?_
      refine W.widen (k := 1) (n := 6) (Nat.le_of_ble_eq_true rfl) (Nat.le_of_ble_eq_true rfl) ?_
      exact vx_ret (W.iret (v := (0 : Int32)) hx hb hr9 (fun t ht hW => ⟨⟨_, (), rfl, h, by rw [ht]; exact hP, va_K.moved hW.alike hK, hD⟩, hS.F ht⟩) hS.2.2 d_T_kind_16)
def wqT_value (nW : Nat) (nE : Nat) (R : Nat → Int32) (f : Nat → Int32) (P : Nat → Int32) (a1 : Int32) (post : Int32 → Prop) (px : String → Prop) : Prop :=
  wqT_needRegister a1 (vp_in a1 32 ∧ (((R a1.toNatClampNeg) = 0 → (post (0 : Int32))) ∧ (¬ ((R a1.toNatClampNeg) = 0) → (wqV_isNumber (R a1.toNatClampNeg) (fun r18 => (r18 = 0 → (wqM_identity nW nE f P (R a1.toNatClampNeg) (fun r36 => post r36))) ∧ (¬ (r18 = 0) → (wqV_toNumber (R a1.toNatClampNeg) (fun r25 => post r25)))))))) (fun E => px E)
set_option maxHeartbeats 4000000 in
set_option maxRecDepth 100000 in
theorem mT_value (l : Launch) (hlT : l.stackTraces = false) (sa : Nat → Nat) (dC : Nat → ClassId) (dI : Nat → Nat → Nat) (cA : ClassId) (a0 : Nat) (aR : Nat) (aM : Nat) (aW : Nat) (aP : Nat) (aS : Nat) (aC : Nat) (aO : Nat) (nW : Nat) (nE : Nat) (sz : Nat) (R : Nat → Int32) (f : Nat → Int32) (us : Int32) (P : Nat → Int32) (S : Nat → Int32) (sc : Int32) (li : Int32) (rc : Nat → Int32) (rn : Int32) (ro : Nat → Int32) (rd : Int32) (st : Int32) (a1 : Int32) (post : Int32 → Prop) (px : String → Prop) (h : wqT_value nW nE R f P a1 post px) : vx_Met l y_T_value ws_T_value ({ frames := 7, cells := 1, slots := 6, locals := 120 }) (xw_P (dC, dI) vwCl (TSw cA a0 aR aM aW aP aS aC aO nW nE R f us P S sc li rc rn ro rd st) [(cA, .int)] sz sa [.ref a0, .int a1]) (va_Qi (fun (r : Int32) (u : Unit) => post r) (rw_B (dC, dI) vwCl [(cA, .int)] (va_A (TSw cA a0 aR aM aW aP aS aC aO nW nE R f us P S sc li rc rn ro rd st) sz) (fun u : Unit => TSw cA a0 aR aM aW aP aS aC aO nW nE R f us P S sc li rc rn ro rd st)) (va_A (TSw cA a0 aR aM aW aP aS aC aO nW nE R f us P S sc li rc rn ro rd st) sz)) (rw_X (dC, dI) vwCl [(cA, .int)] (va_A (TSw cA a0 aR aM aW aP aS aC aO nW nE R f us P S sc li rc rn ro rd st) sz) (fun u : Unit => TSw cA a0 aR aM aW aP aS aC aO nW nE R f us P S sc li rc rn ro rd st) (fun (E : String) (u : Unit) => px E)) 1 6 (va_A (TSw cA a0 aR aM aW aP aS aC aO nW nE R f us P S sc li rc rn ro rd st) sz) := by
  refine vx_ofW (cc := c_T_value) (maxL := 3) (ret := (some .int)) (by decide) rfl ?_
  intro p e s m args below meth c s₁ B hml hEx hv
  obtain ⟨rfl, hsz, hP, hK, hD0, hXT⟩ := hv
  have hx := B.exec
  have hb := B.bytes
  have hr9 := B.returns
  have hts := atoms_spec (ws := ws_T_value) B.pre
  have hw : ∀ w ∈ WB_, w.before _ s = true := fun w h => hts w (List.mem_cons_of_mem _ h)
  have hown : s.vm.findClass R_T = some m.cls := findClass_of_methodNamed B.named
  have hlocks := B.notSynchronized
  subst hsz
  have hD := hD0.self (sz := s.heap.size)
  generalize hAe : va_A (TSw cA a0 aR aM aW aP aS aC aO nW nE R f us P S sc li rc rn ro rd st) s.heap.size = A at hD hXT ⊢
  have hA : ∀ q : Nat, s.heap.size ≤ q → A q := fun q h => by rw [← hAe]; exact Or.inr h
  have hS : va_S A s.heap s.heap [] := va_S.rf
  have hl := lv_entry ([.ref a0, .int a1]) (n := 3) (Nat.le_of_ble_eq_true rfl)
  rw [lg_entry_eq]
  generalize (lg_sl ([.ref a0, .int a1]) ++ List.replicate (3 - (lg_sl ([.ref a0, .int a1])).length) Slot.unset).toArray = ls at hl ⊢
  have hl : lv_has ls 3 [(0, .ref a0), (1, .int a1)] := hl
  unfold wqT_value at h
  refine lv_iload_n hx hb d_T_value_0 rfl (lv_at hl 1 rfl) ?_
  refine rx_callv (vx_runS (As := [.int a1]) (rest := []) ⟨hx, hb, hml, hown, hw⟩ (mT_needRegister l hlT sa a1 _ _ h) (va_cwS 1 hw g_T_27 rfl rfl rfl (by decide +kernel) ⟨Nat.le_of_ble_eq_true rfl, Nat.le_of_ble_eq_true rfl⟩) (xs_PS (xt_at hXT hS)) rfl rfl hl.1 rfl (lv_room (Nat.le_of_ble_eq_true rfl)) d_T_value_1 ⟨Nat.le_of_ble_eq_true rfl, Nat.le_of_ble_eq_true rfl⟩) (fun E9 ce q9 H1 h hz hk hce hcv hcl => ?_) (fun h => ?_)
  · exact rx_out () rfl hEx hlocks hK hP hD hS h hz hk hce hcv hcl (Nat.le_of_ble_eq_true rfl) (Nat.le_of_ble_eq_true rfl)
  · refine lv_aload_n hx hb d_T_value_4 rfl (lv_at hl 0 rfl) ?_
    refine va_get (D := (dC, dI)) (ci := 0) (v := .ref aR) (C := R_T) (T := T_T) (N := 2) hx hb hw in_T hown hK hP 0 rfl rfl 0 (by decide) (hw _ wd_103) (fun _ h9 => h9) rfl d_T_value_5 ?_
    refine lv_iload_n hx hb d_T_value_8 rfl (lv_at hl 1 rfl) ?_
    refine va_iald hx hb hK hP 1 0 rfl rfl h.1 d_T_value_9 ?_
    have h := h.2
    refine lv_istore_n (lv' := [(2, .int (R a1.toNatClampNeg)), (0, .ref a0), (1, .int a1)]) hx hb d_T_value_10 rfl hl (by decide) rfl (fun ls hl => ?_)
    refine lv_iload_n hx hb d_T_value_11 rfl (lv_at hl 0 rfl) ?_
    refine lv_if_ne (tgt := 17) hx hb d_T_value_12 (by decide) (fun c_12 => ?_) (fun c_12 => ?_)
    · have h := h.2 c_12
      refine lv_iload_n hx hb d_T_value_17 rfl (lv_at hl 0 rfl) ?_
      refine rq_calli (W.runS (As := [.int (R a1.toNatClampNeg)]) (rest := []) ⟨hx, hb, hml, hown, hw⟩ (mV_isNumber l (R a1.toNatClampNeg) _ h) (va_cwS 1 hw g_T_109 rfl rfl rfl (by decide +kernel) ⟨Nat.le_of_ble_eq_true rfl, Nat.le_of_ble_eq_true rfl⟩) preEq rfl rfl hl.1 rfl (lv_room (Nat.le_of_ble_eq_true rfl)) d_T_value_18 ⟨Nat.le_of_ble_eq_true rfl, Nat.le_of_ble_eq_true rfl⟩) (fun r18 h => ?_)
      refine lv_if_eq (tgt := 31) hx hb d_T_value_21 (by decide) (fun c_21 => ?_) (fun c_21 => ?_)
      · have h := h.1 c_21
        refine lv_aload_n hx hb d_T_value_31 rfl (lv_at hl 1 rfl) ?_
        refine va_get (D := (dC, dI)) (ci := 0) (v := .ref aM) (C := R_T) (T := T_T) (N := 2) hx hb hw in_T hown hK hP 0 rfl rfl 1 (by decide) (hw _ wd_104) (fun _ h9 => h9) rfl d_T_value_32 ?_
        refine lv_iload_n hx hb d_T_value_35 rfl (lv_at hl 0 rfl) ?_
        refine rq_calli (W.runV (As := [.int (R a1.toNatClampNeg)]) (rest := []) ⟨hx, hb, hml, hown, hw⟩ (mM_identity l dC dI cA a0 aR aM aW aP aS aC aO nW nE R f us P S sc li rc rn ro rd st (R a1.toNatClampNeg) _ h) (cwV 1 hw g_T_57 rfl rfl rfl (by decide +kernel) ⟨Nat.le_of_ble_eq_true rfl, Nat.le_of_ble_eq_true rfl⟩) (ro_PV (ci := 1) (q0 := 2) hK hP rfl rfl) rfl rfl hl.1 rfl (lv_room (Nat.le_of_ble_eq_true rfl)) d_T_value_36 ⟨Nat.le_of_ble_eq_true rfl, Nat.le_of_ble_eq_true rfl⟩) (fun r36 h => ?_)
        refine W.widen (k := 1) (n := 6) (Nat.le_of_ble_eq_true rfl) (Nat.le_of_ble_eq_true rfl) ?_
        exact vx_ret (W.iret (v := r36) hx hb hr9 (fun t ht hW => ⟨⟨_, (), rfl, h, by rw [ht]; exact hP, va_K.moved hW.alike hK, hD⟩, hS.F ht⟩) hS.2.2 d_T_value_39)
      · have h := h.2 c_21
        refine lv_iload_n hx hb d_T_value_24 rfl (lv_at hl 0 rfl) ?_
        refine rq_calli (W.runS (As := [.int (R a1.toNatClampNeg)]) (rest := []) ⟨hx, hb, hml, hown, hw⟩ (mV_toNumber l (R a1.toNatClampNeg) _ h) (va_cwS 1 hw g_T_116 rfl rfl rfl (by decide +kernel) ⟨Nat.le_of_ble_eq_true rfl, Nat.le_of_ble_eq_true rfl⟩) preEq rfl rfl hl.1 rfl (lv_room (Nat.le_of_ble_eq_true rfl)) d_T_value_25 ⟨Nat.le_of_ble_eq_true rfl, Nat.le_of_ble_eq_true rfl⟩) (fun r25 h => ?_)
        refine lv_goto (tgt := 39) hx hb d_T_value_28 (by decide) ?_
        refine W.widen (k := 1) (n := 6) (Nat.le_of_ble_eq_true rfl) (Nat.le_of_ble_eq_true rfl) ?_
        exact vx_ret (W.iret (v := r25) hx hb hr9 (fun t ht hW => ⟨⟨_, (), rfl, h, by rw [ht]; exact hP, va_K.moved hW.alike hK, hD⟩, hS.F ht⟩) hS.2.2 d_T_value_39)
    · have h := h.1 c_12
      refine lv_iconst (v := (0 : Int32)) hx hb d_T_value_15 (by decide) ?_
      refine W.widen (k := 1) (n := 6) (Nat.le_of_ble_eq_true rfl) (Nat.le_of_ble_eq_true rfl) ?_
      exact vx_ret (W.iret (v := (0 : Int32)) hx hb hr9 (fun t ht hW => ⟨⟨_, (), rfl, h, by rw [ht]; exact hP, va_K.moved hW.alike hK, hD⟩, hS.F ht⟩) hS.2.2 d_T_value_16)
def wqT_size (nW : Nat) (nE : Nat) (R : Nat → Int32) (f : Nat → Int32) (P : Nat → Int32) (a1 : Int32) (post : Int32 → Prop) (px : String → Prop) : Prop :=
  wqT_needRegister a1 (vp_in a1 32 ∧ (wqV_isObject (R a1.toNatClampNeg) (fun r10 => (r10 = 0 → (post (0 : Int32))) ∧ (¬ (r10 = 0) → (vp_in a1 32 ∧ (wqM_count nW nE f P (R a1.toNatClampNeg) (fun r26 => post r26))))))) (fun E => px E)
set_option maxHeartbeats 4000000 in
set_option maxRecDepth 100000 in
theorem mT_size (l : Launch) (hlT : l.stackTraces = false) (sa : Nat → Nat) (dC : Nat → ClassId) (dI : Nat → Nat → Nat) (cA : ClassId) (a0 : Nat) (aR : Nat) (aM : Nat) (aW : Nat) (aP : Nat) (aS : Nat) (aC : Nat) (aO : Nat) (nW : Nat) (nE : Nat) (sz : Nat) (R : Nat → Int32) (f : Nat → Int32) (us : Int32) (P : Nat → Int32) (S : Nat → Int32) (sc : Int32) (li : Int32) (rc : Nat → Int32) (rn : Int32) (ro : Nat → Int32) (rd : Int32) (st : Int32) (a1 : Int32) (post : Int32 → Prop) (px : String → Prop) (h : wqT_size nW nE R f P a1 post px) : vx_Met l y_T_size ws_T_size ({ frames := 7, cells := 1, slots := 6, locals := 120 }) (xw_P (dC, dI) vwCl (TSw cA a0 aR aM aW aP aS aC aO nW nE R f us P S sc li rc rn ro rd st) [(cA, .int)] sz sa [.ref a0, .int a1]) (va_Qi (fun (r : Int32) (u : Unit) => post r) (rw_B (dC, dI) vwCl [(cA, .int)] (va_A (TSw cA a0 aR aM aW aP aS aC aO nW nE R f us P S sc li rc rn ro rd st) sz) (fun u : Unit => TSw cA a0 aR aM aW aP aS aC aO nW nE R f us P S sc li rc rn ro rd st)) (va_A (TSw cA a0 aR aM aW aP aS aC aO nW nE R f us P S sc li rc rn ro rd st) sz)) (rw_X (dC, dI) vwCl [(cA, .int)] (va_A (TSw cA a0 aR aM aW aP aS aC aO nW nE R f us P S sc li rc rn ro rd st) sz) (fun u : Unit => TSw cA a0 aR aM aW aP aS aC aO nW nE R f us P S sc li rc rn ro rd st) (fun (E : String) (u : Unit) => px E)) 1 6 (va_A (TSw cA a0 aR aM aW aP aS aC aO nW nE R f us P S sc li rc rn ro rd st) sz) := by
  refine vx_ofW (cc := c_T_size) (maxL := 2) (ret := (some .int)) (by decide) rfl ?_
  intro p e s m args below meth c s₁ B hml hEx hv
  obtain ⟨rfl, hsz, hP, hK, hD0, hXT⟩ := hv
  have hx := B.exec
  have hb := B.bytes
  have hr9 := B.returns
  have hts := atoms_spec (ws := ws_T_size) B.pre
  have hw : ∀ w ∈ WB_, w.before _ s = true := fun w h => hts w (List.mem_cons_of_mem _ h)
  have hown : s.vm.findClass R_T = some m.cls := findClass_of_methodNamed B.named
  have hlocks := B.notSynchronized
  subst hsz
  have hD := hD0.self (sz := s.heap.size)
  generalize hAe : va_A (TSw cA a0 aR aM aW aP aS aC aO nW nE R f us P S sc li rc rn ro rd st) s.heap.size = A at hD hXT ⊢
  have hA : ∀ q : Nat, s.heap.size ≤ q → A q := fun q h => by rw [← hAe]; exact Or.inr h
  have hS : va_S A s.heap s.heap [] := va_S.rf
  have hl := lv_entry ([.ref a0, .int a1]) (n := 2) (Nat.le_of_ble_eq_true rfl)
  rw [lg_entry_eq]
  generalize (lg_sl ([.ref a0, .int a1]) ++ List.replicate (2 - (lg_sl ([.ref a0, .int a1])).length) Slot.unset).toArray = ls at hl ⊢
  have hl : lv_has ls 2 [(0, .ref a0), (1, .int a1)] := hl
  unfold wqT_size at h
  refine lv_iload_n hx hb d_T_size_0 rfl (lv_at hl 1 rfl) ?_
  refine rx_callv (vx_runS (As := [.int a1]) (rest := []) ⟨hx, hb, hml, hown, hw⟩ (mT_needRegister l hlT sa a1 _ _ h) (va_cwS 1 hw g_T_27 rfl rfl rfl (by decide +kernel) ⟨Nat.le_of_ble_eq_true rfl, Nat.le_of_ble_eq_true rfl⟩) (xs_PS (xt_at hXT hS)) rfl rfl hl.1 rfl (lv_room (Nat.le_of_ble_eq_true rfl)) d_T_size_1 ⟨Nat.le_of_ble_eq_true rfl, Nat.le_of_ble_eq_true rfl⟩) (fun E9 ce q9 H1 h hz hk hce hcv hcl => ?_) (fun h => ?_)
  · exact rx_out () rfl hEx hlocks hK hP hD hS h hz hk hce hcv hcl (Nat.le_of_ble_eq_true rfl) (Nat.le_of_ble_eq_true rfl)
  · refine lv_aload_n hx hb d_T_size_4 rfl (lv_at hl 0 rfl) ?_
    refine va_get (D := (dC, dI)) (ci := 0) (v := .ref aR) (C := R_T) (T := T_T) (N := 2) hx hb hw in_T hown hK hP 0 rfl rfl 0 (by decide) (hw _ wd_103) (fun _ h9 => h9) rfl d_T_size_5 ?_
    refine lv_iload_n hx hb d_T_size_8 rfl (lv_at hl 1 rfl) ?_
    refine va_iald hx hb hK hP 1 0 rfl rfl h.1 d_T_size_9 ?_
    have h := h.2
    refine rq_calli (W.runS (As := [.int (R a1.toNatClampNeg)]) (rest := []) ⟨hx, hb, hml, hown, hw⟩ (mV_isObject l (R a1.toNatClampNeg) _ h) (va_cwS 1 hw g_T_119 rfl rfl rfl (by decide +kernel) ⟨Nat.le_of_ble_eq_true rfl, Nat.le_of_ble_eq_true rfl⟩) preEq rfl rfl hl.1 rfl (lv_room (Nat.le_of_ble_eq_true rfl)) d_T_size_10 ⟨Nat.le_of_ble_eq_true rfl, Nat.le_of_ble_eq_true rfl⟩) (fun r10 h => ?_)
    refine lv_if_eq (tgt := 32) hx hb d_T_size_13 (by decide) (fun c_13 => ?_) (fun c_13 => ?_)
    · have h := h.1 c_13
      refine lv_iconst (v := (0 : Int32)) hx hb d_T_size_32 (by decide) ?_
      refine W.widen (k := 1) (n := 6) (Nat.le_of_ble_eq_true rfl) (Nat.le_of_ble_eq_true rfl) ?_
      exact vx_ret (W.iret (v := (0 : Int32)) hx hb hr9 (fun t ht hW => ⟨⟨_, (), rfl, h, by rw [ht]; exact hP, va_K.moved hW.alike hK, hD⟩, hS.F ht⟩) hS.2.2 d_T_size_33)
    · have h := h.2 c_13
      refine lv_aload_n hx hb d_T_size_16 rfl (lv_at hl 0 rfl) ?_
      refine va_get (D := (dC, dI)) (ci := 0) (v := .ref aM) (C := R_T) (T := T_T) (N := 2) hx hb hw in_T hown hK hP 0 rfl rfl 1 (by decide) (hw _ wd_104) (fun _ h9 => h9) rfl d_T_size_17 ?_
      refine lv_aload_n hx hb d_T_size_20 rfl (lv_at hl 0 rfl) ?_
      refine va_get (D := (dC, dI)) (ci := 0) (v := .ref aR) (C := R_T) (T := T_T) (N := 2) hx hb hw in_T hown hK hP 0 rfl rfl 0 (by decide) (hw _ wd_103) (fun _ h9 => h9) rfl d_T_size_21 ?_
      refine lv_iload_n hx hb d_T_size_24 rfl (lv_at hl 1 rfl) ?_
      refine va_iald hx hb hK hP 1 0 rfl rfl h.1 d_T_size_25 ?_
      have h := h.2
      refine rq_calli (W.runV (As := [.int (R a1.toNatClampNeg)]) (rest := []) ⟨hx, hb, hml, hown, hw⟩ (mM_count l dC dI cA a0 aR aM aW aP aS aC aO nW nE R f us P S sc li rc rn ro rd st (R a1.toNatClampNeg) _ h) (cwV 1 hw g_T_98 rfl rfl rfl (by decide +kernel) ⟨Nat.le_of_ble_eq_true rfl, Nat.le_of_ble_eq_true rfl⟩) (ro_PV (ci := 1) (q0 := 2) hK hP rfl rfl) rfl rfl hl.1 rfl (lv_room (Nat.le_of_ble_eq_true rfl)) d_T_size_26 ⟨Nat.le_of_ble_eq_true rfl, Nat.le_of_ble_eq_true rfl⟩) (fun r26 h => ?_)
      refine lv_goto (tgt := 33) hx hb d_T_size_29 (by decide) ?_
      refine W.widen (k := 1) (n := 6) (Nat.le_of_ble_eq_true rfl) (Nat.le_of_ble_eq_true rfl) ?_
      exact vx_ret (W.iret (v := r26) hx hb hr9 (fun t ht hW => ⟨⟨_, (), rfl, h, by rw [ht]; exact hP, va_K.moved hW.alike hK, hD⟩, hS.F ht⟩) hS.2.2 d_T_size_33)
def wqT_become (nW : Nat) (nE : Nat) (R : Nat → Int32) (f : Nat → Int32) (P : Nat → Int32) (a1 : Int32) (a2 : Int32) (post : (Nat → Int32) → (Nat → Int32) → Prop) (px : String → (Nat → Int32) → (Nat → Int32) → Prop) : Prop :=
  wqT_needObject nW nE R a1 (wqT_needObject nW nE R a2 (vp_in a1 32 ∧ (vp_in a2 32 ∧ (wqM_swap nW nE f P (R a1.toNatClampNeg) (R a2.toNatClampNeg) (fun f_26 P_26 => post f_26 P_26)))) (fun E => px E f P)) (fun E => px E f P)
set_option maxHeartbeats 4000000 in
set_option maxRecDepth 100000 in
theorem mT_become (l : Launch) (hlT : l.stackTraces = false) (sa : Nat → Nat) (dC : Nat → ClassId) (dI : Nat → Nat → Nat) (cA : ClassId) (a0 : Nat) (aR : Nat) (aM : Nat) (aW : Nat) (aP : Nat) (aS : Nat) (aC : Nat) (aO : Nat) (nW : Nat) (nE : Nat) (sz : Nat) (R : Nat → Int32) (f : Nat → Int32) (us : Int32) (P : Nat → Int32) (S : Nat → Int32) (sc : Int32) (li : Int32) (rc : Nat → Int32) (rn : Int32) (ro : Nat → Int32) (rd : Int32) (st : Int32) (a1 : Int32) (a2 : Int32) (post : (Nat → Int32) → (Nat → Int32) → Prop) (px : String → (Nat → Int32) → (Nat → Int32) → Prop) (h : wqT_become nW nE R f P a1 a2 post px) : vx_Met l y_T_become ws_T_become ({ frames := 8, cells := 4, slots := 24, locals := 141 }) (xw_P (dC, dI) vwCl (TSw cA a0 aR aM aW aP aS aC aO nW nE R f us P S sc li rc rn ro rd st) [(cA, .int)] sz sa [.ref a0, .int a1, .int a2]) (va_Qv (fun u : (Nat → Int32) × (Nat → Int32) => post u.1 u.2) (rw_B (dC, dI) vwCl [(cA, .int)] (va_A (TSw cA a0 aR aM aW aP aS aC aO nW nE R f us P S sc li rc rn ro rd st) sz) (fun u : (Nat → Int32) × (Nat → Int32) => TSw cA a0 aR aM aW aP aS aC aO nW nE R u.1 us u.2 S sc li rc rn ro rd st)) (va_A (TSw cA a0 aR aM aW aP aS aC aO nW nE R f us P S sc li rc rn ro rd st) sz)) (rw_X (dC, dI) vwCl [(cA, .int)] (va_A (TSw cA a0 aR aM aW aP aS aC aO nW nE R f us P S sc li rc rn ro rd st) sz) (fun u : (Nat → Int32) × (Nat → Int32) => TSw cA a0 aR aM aW aP aS aC aO nW nE R u.1 us u.2 S sc li rc rn ro rd st) (fun (E : String) (u : (Nat → Int32) × (Nat → Int32)) => px E u.1 u.2)) 4 24 (va_A (TSw cA a0 aR aM aW aP aS aC aO nW nE R f us P S sc li rc rn ro rd st) sz) := by
  refine vx_ofW (cc := c_T_become) (maxL := 3) (ret := none) (by decide) rfl ?_
  intro p e s m args below meth c s₁ B hml hEx hv
  obtain ⟨rfl, hsz, hP, hK, hD0, hXT⟩ := hv
  have hx := B.exec
  have hb := B.bytes
  have hr9 := B.returns
  have hts := atoms_spec (ws := ws_T_become) B.pre
  have hw : ∀ w ∈ WB_, w.before _ s = true := fun w h => hts w (List.mem_cons_of_mem _ h)
  have hown : s.vm.findClass R_T = some m.cls := findClass_of_methodNamed B.named
  have hlocks := B.notSynchronized
  subst hsz
  have hD := hD0.self (sz := s.heap.size)
  generalize hAe : va_A (TSw cA a0 aR aM aW aP aS aC aO nW nE R f us P S sc li rc rn ro rd st) s.heap.size = A at hD hXT ⊢
  have hA : ∀ q : Nat, s.heap.size ≤ q → A q := fun q h => by rw [← hAe]; exact Or.inr h
  have hS : va_S A s.heap s.heap [] := va_S.rf
  have hl := lv_entry ([.ref a0, .int a1, .int a2]) (n := 3) (Nat.le_of_ble_eq_true rfl)
  rw [lg_entry_eq]
  generalize (lg_sl ([.ref a0, .int a1, .int a2]) ++ List.replicate (3 - (lg_sl ([.ref a0, .int a1, .int a2])).length) Slot.unset).toArray = ls at hl ⊢
  have hl : lv_has ls 3 [(0, .ref a0), (1, .int a1), (2, .int a2)] := hl
  unfold wqT_become at h
  refine lv_aload_n hx hb d_T_become_0 rfl (lv_at hl 0 rfl) ?_
  refine lv_iload_n hx hb d_T_become_1 rfl (lv_at hl 1 rfl) ?_
  refine rx_callv (vx_runV (As := [.int a1]) (rest := []) ⟨hx, hb, hml, hown, hw⟩ (mT_needObject l hlT sa dC dI cA a0 aR aM aW aP aS aC aO nW nE R f us P S sc li rc rn ro rd st a1 _ _ h) (cwV 1 hw g_T_60 rfl rfl rfl (by decide +kernel) ⟨Nat.le_of_ble_eq_true rfl, Nat.le_of_ble_eq_true rfl⟩) (xo_PV (ci := 0) (q0 := 0) hK hP (xt_at hXT hS) rfl rfl) rfl rfl hl.1 rfl (lv_room (Nat.le_of_ble_eq_true rfl)) d_T_become_2 ⟨Nat.le_of_ble_eq_true rfl, Nat.le_of_ble_eq_true rfl⟩) (fun E9 ce q9 H1 h hz hk hce hcv hcl => ?_) (fun h => ?_)
  · exact rx_out (f, P) rfl hEx hlocks hK hP hD hS h hz hk hce hcv hcl (Nat.le_of_ble_eq_true rfl) (Nat.le_of_ble_eq_true rfl)
  · refine lv_aload_n hx hb d_T_become_5 rfl (lv_at hl 0 rfl) ?_
    refine lv_iload_n hx hb d_T_become_6 rfl (lv_at hl 2 rfl) ?_
    refine rx_callv (vx_runV (As := [.int a2]) (rest := []) ⟨hx, hb, hml, hown, hw⟩ (mT_needObject l hlT sa dC dI cA a0 aR aM aW aP aS aC aO nW nE R f us P S sc li rc rn ro rd st a2 _ _ h) (cwV 1 hw g_T_60 rfl rfl rfl (by decide +kernel) ⟨Nat.le_of_ble_eq_true rfl, Nat.le_of_ble_eq_true rfl⟩) (xo_PV (ci := 0) (q0 := 0) hK hP (xt_at hXT hS) rfl rfl) rfl rfl hl.1 rfl (lv_room (Nat.le_of_ble_eq_true rfl)) d_T_become_7 ⟨Nat.le_of_ble_eq_true rfl, Nat.le_of_ble_eq_true rfl⟩) (fun E9 ce q9 H1 h hz hk hce hcv hcl => ?_) (fun h => ?_)
    · exact rx_out (f, P) rfl hEx hlocks hK hP hD hS h hz hk hce hcv hcl (Nat.le_of_ble_eq_true rfl) (Nat.le_of_ble_eq_true rfl)
    · refine lv_aload_n hx hb d_T_become_10 rfl (lv_at hl 0 rfl) ?_
      refine va_get (D := (dC, dI)) (ci := 0) (v := .ref aM) (C := R_T) (T := T_T) (N := 2) hx hb hw in_T hown hK hP 0 rfl rfl 1 (by decide) (hw _ wd_104) (fun _ h9 => h9) rfl d_T_become_11 ?_
      refine lv_aload_n hx hb d_T_become_14 rfl (lv_at hl 0 rfl) ?_
      refine va_get (D := (dC, dI)) (ci := 0) (v := .ref aR) (C := R_T) (T := T_T) (N := 2) hx hb hw in_T hown hK hP 0 rfl rfl 0 (by decide) (hw _ wd_103) (fun _ h9 => h9) rfl d_T_become_15 ?_
      refine lv_iload_n hx hb d_T_become_18 rfl (lv_at hl 1 rfl) ?_
      refine va_iald hx hb hK hP 1 0 rfl rfl h.1 d_T_become_19 ?_
      have h := h.2
      refine lv_aload_n hx hb d_T_become_20 rfl (lv_at hl 0 rfl) ?_
      refine va_get (D := (dC, dI)) (ci := 0) (v := .ref aR) (C := R_T) (T := T_T) (N := 2) hx hb hw in_T hown hK hP 0 rfl rfl 0 (by decide) (hw _ wd_103) (fun _ h9 => h9) rfl d_T_become_21 ?_
      refine lv_iload_n hx hb d_T_become_24 rfl (lv_at hl 2 rfl) ?_
      refine va_iald hx hb hK hP 1 0 rfl rfl h.1 d_T_become_25 ?_
      have h := h.2
      have hFc := va_free (wc := TSw cA a0 aR aM aW aP aS aC aO nW nE R f us P S sc li rc rn ro rd st) hD hS hA [0, 1, 2, 3, 4, 5, 6, 7] rfl
      refine va_callv (va_runV (As := [.int (R a1.toNatClampNeg), .int (R a2.toNatClampNeg)]) (rest := []) ⟨hx, hb, hml, hown, hw⟩ (mM_swap l dC dI cA a0 aR aM aW aP aS aC aO nW nE s.heap.size R f us P S sc li rc rn ro rd st (R a1.toNatClampNeg) (R a2.toNatClampNeg) _ h) (cwV 2 hw g_T_122 rfl rfl rfl (by decide +kernel) ⟨Nat.le_of_ble_eq_true rfl, Nat.le_of_ble_eq_true rfl⟩) (rw_PV (ci := 1) (q0 := 2) hK hP hD rfl rfl) rfl rfl hl.1 rfl (lv_room (Nat.le_of_ble_eq_true rfl)) d_T_become_26 ⟨Nat.le_of_ble_eq_true rfl, Nat.le_of_ble_eq_true rfl⟩) hS (fun q _ h => hFc q h) hFc (fun u t H locs ht hvm h hB hz1 hk1 hS => ?_)
      obtain ⟨f_26, P_26⟩ := u
      obtain ⟨hP, hK1, hD1⟩ := hB
      rw [ht] at hP
      have hD := hD1.weaken (fun _ _ _ q => hFc _ q)
      clear hFc hD1 hK1
      try dsimp only at h
      have hP : va_P (dC, dI) vwCl (TSw cA a0 aR aM aW aP aS aC aO nW nE R f_26 us P_26 S sc li rc rn ro rd st) H := hP
      have hD : va_D A (TSw cA a0 aR aM aW aP aS aC aO nW nE R f_26 us P_26 S sc li rc rn ro rd st) := hD
      refine W.widen (k := 4) (n := 24) (Nat.le_of_ble_eq_true rfl) (Nat.le_of_ble_eq_true rfl) ?_
      exact vx_ret (W.vret hx hb hr9 (fun t ht hW => ⟨⟨(f_26, P_26), rfl, h, by rw [ht]; exact hP, va_K.moved hW.alike hK, hD⟩, hS.F ht⟩) hS.2.2 d_T_become_29)
def wqT_words (nW : Nat) (nE : Nat) (R : Nat → Int32) (f : Nat → Int32) (us : Int32) (P : Nat → Int32) (S : Nat → Int32) (sc : Int32) (rc : Nat → Int32) (rn : Int32) (ro : Nat → Int32) (rd : Int32) (st : Int32) (post : Int32 → (Nat → Int32) → Int32 → (Nat → Int32) → (Nat → Int32) → Int32 → (Nat → Int32) → Int32 → (Nat → Int32) → Int32 → Int32 → Prop) : Prop :=
  wqM_settle nW nE R f us P S sc rc rn ro rd st (fun f_8 us_8 P_8 S_8 sc_8 rc_8 rn_8 ro_8 rd_8 st_8 => wqM_freeWords nW nE us_8 (fun r15 => post r15 f_8 us_8 P_8 S_8 sc_8 rc_8 rn_8 ro_8 rd_8 st_8))
set_option maxHeartbeats 4000000 in
set_option maxRecDepth 100000 in
theorem mT_words (l : Launch) (dC : Nat → ClassId) (dI : Nat → Nat → Nat) (cA : ClassId) (a0 : Nat) (aR : Nat) (aM : Nat) (aW : Nat) (aP : Nat) (aS : Nat) (aC : Nat) (aO : Nat) (nW : Nat) (nE : Nat) (sz : Nat) (R : Nat → Int32) (f : Nat → Int32) (us : Int32) (P : Nat → Int32) (S : Nat → Int32) (sc : Int32) (li : Int32) (rc : Nat → Int32) (rn : Int32) (ro : Nat → Int32) (rd : Int32) (st : Int32) (post : Int32 → (Nat → Int32) → Int32 → (Nat → Int32) → (Nat → Int32) → Int32 → (Nat → Int32) → Int32 → (Nat → Int32) → Int32 → Int32 → Prop) (h : wqT_words nW nE R f us P S sc rc rn ro rd st post) : Met l y_T_words ws_T_words ({ frames := 5, cells := 0, slots := 0, locals := 112 }) (rw_P (dC, dI) vwCl (TSw cA a0 aR aM aW aP aS aC aO nW nE R f us P S sc li rc rn ro rd st) [(cA, .int)] sz [.ref a0]) (va_Qi (fun (r : Int32) (u : (Nat → Int32) × Int32 × (Nat → Int32) × (Nat → Int32) × Int32 × (Nat → Int32) × Int32 × (Nat → Int32) × Int32 × Int32) => post r u.1 u.2.1 u.2.2.1 u.2.2.2.1 u.2.2.2.2.1 u.2.2.2.2.2.1 u.2.2.2.2.2.2.1 u.2.2.2.2.2.2.2.1 u.2.2.2.2.2.2.2.2.1 u.2.2.2.2.2.2.2.2.2) (rw_B (dC, dI) vwCl [(cA, .int)] (va_A (TSw cA a0 aR aM aW aP aS aC aO nW nE R f us P S sc li rc rn ro rd st) sz) (fun u : (Nat → Int32) × Int32 × (Nat → Int32) × (Nat → Int32) × Int32 × (Nat → Int32) × Int32 × (Nat → Int32) × Int32 × Int32 => TSw cA a0 aR aM aW aP aS aC aO nW nE R u.1 u.2.1 u.2.2.1 u.2.2.2.1 u.2.2.2.2.1 li u.2.2.2.2.2.1 u.2.2.2.2.2.2.1 u.2.2.2.2.2.2.2.1 u.2.2.2.2.2.2.2.2.1 u.2.2.2.2.2.2.2.2.2)) (va_A (TSw cA a0 aR aM aW aP aS aC aO nW nE R f us P S sc li rc rn ro rd st) sz)) 0 0 (va_A (TSw cA a0 aR aM aW aP aS aC aO nW nE R f us P S sc li rc rn ro rd st) sz) := by
  refine Met.ofW (cc := c_T_words) (maxL := 1) (ret := (some .int)) (by decide) rfl ?_
  intro p e s m args below meth c s₁ B hml hv
  obtain ⟨rfl, hsz, hP, hK, hD0⟩ := hv
  have hx := B.exec
  have hb := B.bytes
  have hr9 := B.returns
  have hts := atoms_spec (ws := ws_T_words) B.pre
  have hw : ∀ w ∈ WB_, w.before _ s = true := fun w h => hts w (List.mem_cons_of_mem _ h)
  have hown : s.vm.findClass R_T = some m.cls := findClass_of_methodNamed B.named
  have hlocks := B.notSynchronized
  subst hsz
  have hD := hD0.self (sz := s.heap.size)
  generalize hAe : va_A (TSw cA a0 aR aM aW aP aS aC aO nW nE R f us P S sc li rc rn ro rd st) s.heap.size = A at hD ⊢
  have hA : ∀ q : Nat, s.heap.size ≤ q → A q := fun q h => by rw [← hAe]; exact Or.inr h
  have hS : va_S A s.heap s.heap [] := va_S.rf
  have hl := lv_entry ([.ref a0]) (n := 1) (Nat.le_of_ble_eq_true rfl)
  rw [lg_entry_eq]
  generalize (lg_sl ([.ref a0]) ++ List.replicate (1 - (lg_sl ([.ref a0])).length) Slot.unset).toArray = ls at hl ⊢
  have hl : lv_has ls 1 [(0, .ref a0)] := hl
  unfold wqT_words at h
  refine lv_aload_n hx hb d_T_words_0 rfl (lv_at hl 0 rfl) ?_
  refine va_get (D := (dC, dI)) (ci := 0) (v := .ref aM) (C := R_T) (T := T_T) (N := 2) hx hb hw in_T hown hK hP 0 rfl rfl 1 (by decide) (hw _ wd_104) (fun _ h9 => h9) rfl d_T_words_1 ?_
  refine lv_aload_n hx hb d_T_words_4 rfl (lv_at hl 0 rfl) ?_
  refine va_get (D := (dC, dI)) (ci := 0) (v := .ref aR) (C := R_T) (T := T_T) (N := 2) hx hb hw in_T hown hK hP 0 rfl rfl 0 (by decide) (hw _ wd_103) (fun _ h9 => h9) rfl d_T_words_5 ?_
  have hFc := va_free (wc := TSw cA a0 aR aM aW aP aS aC aO nW nE R f us P S sc li rc rn ro rd st) hD hS hA [0, 1, 2, 3, 4, 5, 6, 7] rfl
  refine va_callv (va_runV (As := [.ref aR]) (rest := []) ⟨hx, hb, hml, hown, hw⟩ (mM_settle l dC dI cA a0 aR aM aW aP aS aC aO nW nE s.heap.size R f us P S sc li rc rn ro rd st _ h) (cwV 1 hw g_T_125 rfl rfl rfl (by decide +kernel) ⟨Nat.le_of_ble_eq_true rfl, Nat.le_of_ble_eq_true rfl⟩) (rw_PV (ci := 1) (q0 := 2) hK hP hD rfl rfl) rfl rfl hl.1 rfl (lv_room (Nat.le_of_ble_eq_true rfl)) d_T_words_8 ⟨Nat.le_of_ble_eq_true rfl, Nat.le_of_ble_eq_true rfl⟩) hS (fun q _ h => hFc q h) hFc (fun u t H locs ht hvm h hB hz1 hk1 hS => ?_)
  obtain ⟨f_8, us_8, P_8, S_8, sc_8, rc_8, rn_8, ro_8, rd_8, st_8⟩ := u
  obtain ⟨hP, hK1, hD1⟩ := hB
  rw [ht] at hP
  have hD := hD1.weaken (fun _ _ _ q => hFc _ q)
  clear hFc hD1 hK1
  try dsimp only at h
  have hP : va_P (dC, dI) vwCl (TSw cA a0 aR aM aW aP aS aC aO nW nE R f_8 us_8 P_8 S_8 sc_8 li rc_8 rn_8 ro_8 rd_8 st_8) H := hP
  have hD : va_D A (TSw cA a0 aR aM aW aP aS aC aO nW nE R f_8 us_8 P_8 S_8 sc_8 li rc_8 rn_8 ro_8 rd_8 st_8) := hD
  refine lv_aload_n hx hb d_T_words_11 rfl (lv_at hl 0 rfl) ?_
  refine va_get (D := (dC, dI)) (ci := 0) (v := .ref aM) (C := R_T) (T := T_T) (N := 2) hx hb hw in_T hown hK hP 0 rfl rfl 1 (by decide) (hw _ wd_104) (fun _ h9 => h9) rfl d_T_words_12 ?_
  refine rq_calli (W.runV (As := []) (rest := []) ⟨hx, hb, hml, hown, hw⟩ (mM_freeWords l dC dI cA a0 aR aM aW aP aS aC aO nW nE R f_8 us_8 P_8 S_8 sc_8 li rc_8 rn_8 ro_8 rd_8 st_8 _ h) (cwV 0 hw g_T_129 rfl rfl rfl (by decide +kernel) ⟨Nat.le_of_ble_eq_true rfl, Nat.le_of_ble_eq_true rfl⟩) (ro_PV (ci := 1) (q0 := 2) hK hP rfl rfl) rfl rfl hl.1 rfl (lv_room (Nat.le_of_ble_eq_true rfl)) d_T_words_15 ⟨Nat.le_of_ble_eq_true rfl, Nat.le_of_ble_eq_true rfl⟩) (fun r15 h => ?_)
  exact W.iret (v := r15) hx hb hr9 (fun t ht hW => ⟨⟨_, (f_8, us_8, P_8, S_8, sc_8, rc_8, rn_8, ro_8, rd_8, st_8), rfl, h, by rw [ht]; exact hP, va_K.moved hW.alike hK, hD⟩, hS.F ht⟩) hS.2.2 d_T_words_18
def wqT_entries (nW : Nat) (nE : Nat) (R : Nat → Int32) (f : Nat → Int32) (us : Int32) (P : Nat → Int32) (S : Nat → Int32) (sc : Int32) (rc : Nat → Int32) (rn : Int32) (ro : Nat → Int32) (rd : Int32) (st : Int32) (post : Int32 → (Nat → Int32) → Int32 → (Nat → Int32) → (Nat → Int32) → Int32 → (Nat → Int32) → Int32 → (Nat → Int32) → Int32 → Int32 → Prop) : Prop :=
  wqM_settle nW nE R f us P S sc rc rn ro rd st (fun f_8 us_8 P_8 S_8 sc_8 rc_8 rn_8 ro_8 rd_8 st_8 => wqM_freeEntries nW nE sc_8 (fun r15 => post r15 f_8 us_8 P_8 S_8 sc_8 rc_8 rn_8 ro_8 rd_8 st_8))
set_option maxHeartbeats 4000000 in
set_option maxRecDepth 100000 in
theorem mT_entries (l : Launch) (dC : Nat → ClassId) (dI : Nat → Nat → Nat) (cA : ClassId) (a0 : Nat) (aR : Nat) (aM : Nat) (aW : Nat) (aP : Nat) (aS : Nat) (aC : Nat) (aO : Nat) (nW : Nat) (nE : Nat) (sz : Nat) (R : Nat → Int32) (f : Nat → Int32) (us : Int32) (P : Nat → Int32) (S : Nat → Int32) (sc : Int32) (li : Int32) (rc : Nat → Int32) (rn : Int32) (ro : Nat → Int32) (rd : Int32) (st : Int32) (post : Int32 → (Nat → Int32) → Int32 → (Nat → Int32) → (Nat → Int32) → Int32 → (Nat → Int32) → Int32 → (Nat → Int32) → Int32 → Int32 → Prop) (h : wqT_entries nW nE R f us P S sc rc rn ro rd st post) : Met l y_T_entries ws_T_entries ({ frames := 5, cells := 0, slots := 0, locals := 112 }) (rw_P (dC, dI) vwCl (TSw cA a0 aR aM aW aP aS aC aO nW nE R f us P S sc li rc rn ro rd st) [(cA, .int)] sz [.ref a0]) (va_Qi (fun (r : Int32) (u : (Nat → Int32) × Int32 × (Nat → Int32) × (Nat → Int32) × Int32 × (Nat → Int32) × Int32 × (Nat → Int32) × Int32 × Int32) => post r u.1 u.2.1 u.2.2.1 u.2.2.2.1 u.2.2.2.2.1 u.2.2.2.2.2.1 u.2.2.2.2.2.2.1 u.2.2.2.2.2.2.2.1 u.2.2.2.2.2.2.2.2.1 u.2.2.2.2.2.2.2.2.2) (rw_B (dC, dI) vwCl [(cA, .int)] (va_A (TSw cA a0 aR aM aW aP aS aC aO nW nE R f us P S sc li rc rn ro rd st) sz) (fun u : (Nat → Int32) × Int32 × (Nat → Int32) × (Nat → Int32) × Int32 × (Nat → Int32) × Int32 × (Nat → Int32) × Int32 × Int32 => TSw cA a0 aR aM aW aP aS aC aO nW nE R u.1 u.2.1 u.2.2.1 u.2.2.2.1 u.2.2.2.2.1 li u.2.2.2.2.2.1 u.2.2.2.2.2.2.1 u.2.2.2.2.2.2.2.1 u.2.2.2.2.2.2.2.2.1 u.2.2.2.2.2.2.2.2.2)) (va_A (TSw cA a0 aR aM aW aP aS aC aO nW nE R f us P S sc li rc rn ro rd st) sz)) 0 0 (va_A (TSw cA a0 aR aM aW aP aS aC aO nW nE R f us P S sc li rc rn ro rd st) sz) := by
  refine Met.ofW (cc := c_T_entries) (maxL := 1) (ret := (some .int)) (by decide) rfl ?_
  intro p e s m args below meth c s₁ B hml hv
  obtain ⟨rfl, hsz, hP, hK, hD0⟩ := hv
  have hx := B.exec
  have hb := B.bytes
  have hr9 := B.returns
  have hts := atoms_spec (ws := ws_T_entries) B.pre
  have hw : ∀ w ∈ WB_, w.before _ s = true := fun w h => hts w (List.mem_cons_of_mem _ h)
  have hown : s.vm.findClass R_T = some m.cls := findClass_of_methodNamed B.named
  have hlocks := B.notSynchronized
  subst hsz
  have hD := hD0.self (sz := s.heap.size)
  generalize hAe : va_A (TSw cA a0 aR aM aW aP aS aC aO nW nE R f us P S sc li rc rn ro rd st) s.heap.size = A at hD ⊢
  have hA : ∀ q : Nat, s.heap.size ≤ q → A q := fun q h => by rw [← hAe]; exact Or.inr h
  have hS : va_S A s.heap s.heap [] := va_S.rf
  have hl := lv_entry ([.ref a0]) (n := 1) (Nat.le_of_ble_eq_true rfl)
  rw [lg_entry_eq]
  generalize (lg_sl ([.ref a0]) ++ List.replicate (1 - (lg_sl ([.ref a0])).length) Slot.unset).toArray = ls at hl ⊢
  have hl : lv_has ls 1 [(0, .ref a0)] := hl
  unfold wqT_entries at h
  refine lv_aload_n hx hb d_T_entries_0 rfl (lv_at hl 0 rfl) ?_
  refine va_get (D := (dC, dI)) (ci := 0) (v := .ref aM) (C := R_T) (T := T_T) (N := 2) hx hb hw in_T hown hK hP 0 rfl rfl 1 (by decide) (hw _ wd_104) (fun _ h9 => h9) rfl d_T_entries_1 ?_
  refine lv_aload_n hx hb d_T_entries_4 rfl (lv_at hl 0 rfl) ?_
  refine va_get (D := (dC, dI)) (ci := 0) (v := .ref aR) (C := R_T) (T := T_T) (N := 2) hx hb hw in_T hown hK hP 0 rfl rfl 0 (by decide) (hw _ wd_103) (fun _ h9 => h9) rfl d_T_entries_5 ?_
  have hFc := va_free (wc := TSw cA a0 aR aM aW aP aS aC aO nW nE R f us P S sc li rc rn ro rd st) hD hS hA [0, 1, 2, 3, 4, 5, 6, 7] rfl
  refine va_callv (va_runV (As := [.ref aR]) (rest := []) ⟨hx, hb, hml, hown, hw⟩ (mM_settle l dC dI cA a0 aR aM aW aP aS aC aO nW nE s.heap.size R f us P S sc li rc rn ro rd st _ h) (cwV 1 hw g_T_125 rfl rfl rfl (by decide +kernel) ⟨Nat.le_of_ble_eq_true rfl, Nat.le_of_ble_eq_true rfl⟩) (rw_PV (ci := 1) (q0 := 2) hK hP hD rfl rfl) rfl rfl hl.1 rfl (lv_room (Nat.le_of_ble_eq_true rfl)) d_T_entries_8 ⟨Nat.le_of_ble_eq_true rfl, Nat.le_of_ble_eq_true rfl⟩) hS (fun q _ h => hFc q h) hFc (fun u t H locs ht hvm h hB hz1 hk1 hS => ?_)
  obtain ⟨f_8, us_8, P_8, S_8, sc_8, rc_8, rn_8, ro_8, rd_8, st_8⟩ := u
  obtain ⟨hP, hK1, hD1⟩ := hB
  rw [ht] at hP
  have hD := hD1.weaken (fun _ _ _ q => hFc _ q)
  clear hFc hD1 hK1
  try dsimp only at h
  have hP : va_P (dC, dI) vwCl (TSw cA a0 aR aM aW aP aS aC aO nW nE R f_8 us_8 P_8 S_8 sc_8 li rc_8 rn_8 ro_8 rd_8 st_8) H := hP
  have hD : va_D A (TSw cA a0 aR aM aW aP aS aC aO nW nE R f_8 us_8 P_8 S_8 sc_8 li rc_8 rn_8 ro_8 rd_8 st_8) := hD
  refine lv_aload_n hx hb d_T_entries_11 rfl (lv_at hl 0 rfl) ?_
  refine va_get (D := (dC, dI)) (ci := 0) (v := .ref aM) (C := R_T) (T := T_T) (N := 2) hx hb hw in_T hown hK hP 0 rfl rfl 1 (by decide) (hw _ wd_104) (fun _ h9 => h9) rfl d_T_entries_12 ?_
  refine rq_calli (W.runV (As := []) (rest := []) ⟨hx, hb, hml, hown, hw⟩ (mM_freeEntries l dC dI cA a0 aR aM aW aP aS aC aO nW nE R f_8 us_8 P_8 S_8 sc_8 li rc_8 rn_8 ro_8 rd_8 st_8 _ h) (cwV 0 hw g_T_133 rfl rfl rfl (by decide +kernel) ⟨Nat.le_of_ble_eq_true rfl, Nat.le_of_ble_eq_true rfl⟩) (ro_PV (ci := 1) (q0 := 2) hK hP rfl rfl) rfl rfl hl.1 rfl (lv_room (Nat.le_of_ble_eq_true rfl)) d_T_entries_15 ⟨Nat.le_of_ble_eq_true rfl, Nat.le_of_ble_eq_true rfl⟩) (fun r15 h => ?_)
  exact W.iret (v := r15) hx hb hr9 (fun t ht hW => ⟨⟨_, (f_8, us_8, P_8, S_8, sc_8, rc_8, rn_8, ro_8, rd_8, st_8), rfl, h, by rw [ht]; exact hP, va_K.moved hW.alike hK, hD⟩, hS.F ht⟩) hS.2.2 d_T_entries_18
def wqT_instance (nW : Nat) (nE : Nat) (R : Nat → Int32) (f : Nat → Int32) (us : Int32) (P : Nat → Int32) (S : Nat → Int32) (sc : Int32) (rc : Nat → Int32) (rn : Int32) (ro : Nat → Int32) (rd : Int32) (st : Int32) (a1 : Int32) (a2 : Int32) (a3 : Int32) (post : Int32 → (Nat → Int32) → (Nat → Int32) → Int32 → (Nat → Int32) → (Nat → Int32) → Int32 → (Nat → Int32) → Int32 → (Nat → Int32) → Int32 → Int32 → Prop) (px : String → (Nat → Int32) → (Nat → Int32) → Int32 → (Nat → Int32) → (Nat → Int32) → Int32 → (Nat → Int32) → Int32 → (Nat → Int32) → Int32 → Int32 → Prop) : Prop :=
  wqT_needRegister a1 (wqT_needRegister a2 (wqT_needBetween a3 (0 : Int32) (2147483647 : Int32) (wqM_settle nW nE R f us P S sc rc rn ro rd st (fun f_23 us_23 P_23 S_23 sc_23 rc_23 rn_23 ro_23 rd_23 st_23 => vp_in a2 32 ∧ (wqM_findOfClass nW nE f_23 us_23 (R a2.toNatClampNeg) a3 (fun r37 => (r37 = 0 → (post (0 : Int32) R f_23 us_23 P_23 S_23 sc_23 rc_23 rn_23 ro_23 rd_23 st_23)) ∧ (¬ (r37 = 0) → (wqT_setRegister nW nE R st_23 a1 r37 (fun R_53 st_53 => wqM_identity nW nE f_23 P_23 r37 (fun r62 => post r62 R_53 f_23 us_23 P_23 S_23 sc_23 rc_23 rn_23 ro_23 rd_23 st_53)))))))) (fun E => px E R f us P S sc rc rn ro rd st)) (fun E => px E R f us P S sc rc rn ro rd st)) (fun E => px E R f us P S sc rc rn ro rd st)
set_option maxHeartbeats 4000000 in
set_option maxRecDepth 100000 in
theorem mT_instance (l : Launch) (hlT : l.stackTraces = false) (sa : Nat → Nat) (dC : Nat → ClassId) (dI : Nat → Nat → Nat) (cA : ClassId) (a0 : Nat) (aR : Nat) (aM : Nat) (aW : Nat) (aP : Nat) (aS : Nat) (aC : Nat) (aO : Nat) (nW : Nat) (nE : Nat) (sz : Nat) (R : Nat → Int32) (f : Nat → Int32) (us : Int32) (P : Nat → Int32) (S : Nat → Int32) (sc : Int32) (li : Int32) (rc : Nat → Int32) (rn : Int32) (ro : Nat → Int32) (rd : Int32) (st : Int32) (a1 : Int32) (a2 : Int32) (a3 : Int32) (post : Int32 → (Nat → Int32) → (Nat → Int32) → Int32 → (Nat → Int32) → (Nat → Int32) → Int32 → (Nat → Int32) → Int32 → (Nat → Int32) → Int32 → Int32 → Prop) (px : String → (Nat → Int32) → (Nat → Int32) → Int32 → (Nat → Int32) → (Nat → Int32) → Int32 → (Nat → Int32) → Int32 → (Nat → Int32) → Int32 → Int32 → Prop) (h : wqT_instance nW nE R f us P S sc rc rn ro rd st a1 a2 a3 post px) : vx_Met l y_T_instance ws_T_instance ({ frames := 7, cells := 3, slots := 18, locals := 122 }) (xw_P (dC, dI) vwCl (TSw cA a0 aR aM aW aP aS aC aO nW nE R f us P S sc li rc rn ro rd st) [(cA, .int)] sz sa [.ref a0, .int a1, .int a2, .int a3]) (va_Qi (fun (r : Int32) (u : (Nat → Int32) × (Nat → Int32) × Int32 × (Nat → Int32) × (Nat → Int32) × Int32 × (Nat → Int32) × Int32 × (Nat → Int32) × Int32 × Int32) => post r u.1 u.2.1 u.2.2.1 u.2.2.2.1 u.2.2.2.2.1 u.2.2.2.2.2.1 u.2.2.2.2.2.2.1 u.2.2.2.2.2.2.2.1 u.2.2.2.2.2.2.2.2.1 u.2.2.2.2.2.2.2.2.2.1 u.2.2.2.2.2.2.2.2.2.2) (rw_B (dC, dI) vwCl [(cA, .int)] (va_A (TSw cA a0 aR aM aW aP aS aC aO nW nE R f us P S sc li rc rn ro rd st) sz) (fun u : (Nat → Int32) × (Nat → Int32) × Int32 × (Nat → Int32) × (Nat → Int32) × Int32 × (Nat → Int32) × Int32 × (Nat → Int32) × Int32 × Int32 => TSw cA a0 aR aM aW aP aS aC aO nW nE u.1 u.2.1 u.2.2.1 u.2.2.2.1 u.2.2.2.2.1 u.2.2.2.2.2.1 li u.2.2.2.2.2.2.1 u.2.2.2.2.2.2.2.1 u.2.2.2.2.2.2.2.2.1 u.2.2.2.2.2.2.2.2.2.1 u.2.2.2.2.2.2.2.2.2.2)) (va_A (TSw cA a0 aR aM aW aP aS aC aO nW nE R f us P S sc li rc rn ro rd st) sz)) (rw_X (dC, dI) vwCl [(cA, .int)] (va_A (TSw cA a0 aR aM aW aP aS aC aO nW nE R f us P S sc li rc rn ro rd st) sz) (fun u : (Nat → Int32) × (Nat → Int32) × Int32 × (Nat → Int32) × (Nat → Int32) × Int32 × (Nat → Int32) × Int32 × (Nat → Int32) × Int32 × Int32 => TSw cA a0 aR aM aW aP aS aC aO nW nE u.1 u.2.1 u.2.2.1 u.2.2.2.1 u.2.2.2.2.1 u.2.2.2.2.2.1 li u.2.2.2.2.2.2.1 u.2.2.2.2.2.2.2.1 u.2.2.2.2.2.2.2.2.1 u.2.2.2.2.2.2.2.2.2.1 u.2.2.2.2.2.2.2.2.2.2) (fun (E : String) (u : (Nat → Int32) × (Nat → Int32) × Int32 × (Nat → Int32) × (Nat → Int32) × Int32 × (Nat → Int32) × Int32 × (Nat → Int32) × Int32 × Int32) => px E u.1 u.2.1 u.2.2.1 u.2.2.2.1 u.2.2.2.2.1 u.2.2.2.2.2.1 u.2.2.2.2.2.2.1 u.2.2.2.2.2.2.2.1 u.2.2.2.2.2.2.2.2.1 u.2.2.2.2.2.2.2.2.2.1 u.2.2.2.2.2.2.2.2.2.2)) 3 18 (va_A (TSw cA a0 aR aM aW aP aS aC aO nW nE R f us P S sc li rc rn ro rd st) sz) := by
  refine vx_ofW (cc := c_T_instance) (maxL := 5) (ret := (some .int)) (by decide) rfl ?_
  intro p e s m args below meth c s₁ B hml hEx hv
  obtain ⟨rfl, hsz, hP, hK, hD0, hXT⟩ := hv
  have hx := B.exec
  have hb := B.bytes
  have hr9 := B.returns
  have hts := atoms_spec (ws := ws_T_instance) B.pre
  have hw : ∀ w ∈ WB_, w.before _ s = true := fun w h => hts w (List.mem_cons_of_mem _ h)
  have hown : s.vm.findClass R_T = some m.cls := findClass_of_methodNamed B.named
  have hlocks := B.notSynchronized
  subst hsz
  have hD := hD0.self (sz := s.heap.size)
  generalize hAe : va_A (TSw cA a0 aR aM aW aP aS aC aO nW nE R f us P S sc li rc rn ro rd st) s.heap.size = A at hD hXT ⊢
  have hA : ∀ q : Nat, s.heap.size ≤ q → A q := fun q h => by rw [← hAe]; exact Or.inr h
  have hS : va_S A s.heap s.heap [] := va_S.rf
  have hl := lv_entry ([.ref a0, .int a1, .int a2, .int a3]) (n := 5) (Nat.le_of_ble_eq_true rfl)
  rw [lg_entry_eq]
  generalize (lg_sl ([.ref a0, .int a1, .int a2, .int a3]) ++ List.replicate (5 - (lg_sl ([.ref a0, .int a1, .int a2, .int a3])).length) Slot.unset).toArray = ls at hl ⊢
  have hl : lv_has ls 5 [(0, .ref a0), (1, .int a1), (2, .int a2), (3, .int a3)] := hl
  unfold wqT_instance at h
  refine lv_iload_n hx hb d_T_instance_0 rfl (lv_at hl 1 rfl) ?_
  refine rx_callv (vx_runS (As := [.int a1]) (rest := []) ⟨hx, hb, hml, hown, hw⟩ (mT_needRegister l hlT sa a1 _ _ h) (va_cwS 1 hw g_T_27 rfl rfl rfl (by decide +kernel) ⟨Nat.le_of_ble_eq_true rfl, Nat.le_of_ble_eq_true rfl⟩) (xs_PS (xt_at hXT hS)) rfl rfl hl.1 rfl (lv_room (Nat.le_of_ble_eq_true rfl)) d_T_instance_1 ⟨Nat.le_of_ble_eq_true rfl, Nat.le_of_ble_eq_true rfl⟩) (fun E9 ce q9 H1 h hz hk hce hcv hcl => ?_) (fun h => ?_)
  · exact rx_out (R, f, us, P, S, sc, rc, rn, ro, rd, st) rfl hEx hlocks hK hP hD hS h hz hk hce hcv hcl (Nat.le_of_ble_eq_true rfl) (Nat.le_of_ble_eq_true rfl)
  · refine lv_iload_n hx hb d_T_instance_4 rfl (lv_at hl 2 rfl) ?_
    refine rx_callv (vx_runS (As := [.int a2]) (rest := []) ⟨hx, hb, hml, hown, hw⟩ (mT_needRegister l hlT sa a2 _ _ h) (va_cwS 1 hw g_T_27 rfl rfl rfl (by decide +kernel) ⟨Nat.le_of_ble_eq_true rfl, Nat.le_of_ble_eq_true rfl⟩) (xs_PS (xt_at hXT hS)) rfl rfl hl.1 rfl (lv_room (Nat.le_of_ble_eq_true rfl)) d_T_instance_5 ⟨Nat.le_of_ble_eq_true rfl, Nat.le_of_ble_eq_true rfl⟩) (fun E9 ce q9 H1 h hz hk hce hcv hcl => ?_) (fun h => ?_)
    · exact rx_out (R, f, us, P, S, sc, rc, rn, ro, rd, st) rfl hEx hlocks hK hP hD hS h hz hk hce hcv hcl (Nat.le_of_ble_eq_true rfl) (Nat.le_of_ble_eq_true rfl)
    · refine lv_iload_n hx hb d_T_instance_8 rfl (lv_at hl 3 rfl) ?_
      refine lv_iconst (v := (0 : Int32)) hx hb d_T_instance_9 (by decide) ?_
      refine lv_ldc (v := (2147483647 : Int32)) hx hb hown (hw _ wd_571) d_T_instance_10 ?_
      refine rx_callv (vx_runS (As := [.int a3, .int (0 : Int32), .int (2147483647 : Int32)]) (rest := []) ⟨hx, hb, hml, hown, hw⟩ (mT_needBetween l hlT sa a3 (0 : Int32) (2147483647 : Int32) _ _ h) (va_cwS 3 hw g_T_33 rfl rfl rfl (by decide +kernel) ⟨Nat.le_of_ble_eq_true rfl, Nat.le_of_ble_eq_true rfl⟩) (xs_PS (xt_at hXT hS)) rfl rfl hl.1 rfl (lv_room (Nat.le_of_ble_eq_true rfl)) d_T_instance_12 ⟨Nat.le_of_ble_eq_true rfl, Nat.le_of_ble_eq_true rfl⟩) (fun E9 ce q9 H1 h hz hk hce hcv hcl => ?_) (fun h => ?_)
      · exact rx_out (R, f, us, P, S, sc, rc, rn, ro, rd, st) rfl hEx hlocks hK hP hD hS h hz hk hce hcv hcl (Nat.le_of_ble_eq_true rfl) (Nat.le_of_ble_eq_true rfl)
      · refine lv_aload_n hx hb d_T_instance_15 rfl (lv_at hl 0 rfl) ?_
        refine va_get (D := (dC, dI)) (ci := 0) (v := .ref aM) (C := R_T) (T := T_T) (N := 2) hx hb hw in_T hown hK hP 0 rfl rfl 1 (by decide) (hw _ wd_104) (fun _ h9 => h9) rfl d_T_instance_16 ?_
        refine lv_aload_n hx hb d_T_instance_19 rfl (lv_at hl 0 rfl) ?_
        refine va_get (D := (dC, dI)) (ci := 0) (v := .ref aR) (C := R_T) (T := T_T) (N := 2) hx hb hw in_T hown hK hP 0 rfl rfl 0 (by decide) (hw _ wd_103) (fun _ h9 => h9) rfl d_T_instance_20 ?_
        have hFc := va_free (wc := TSw cA a0 aR aM aW aP aS aC aO nW nE R f us P S sc li rc rn ro rd st) hD hS hA [0, 1, 2, 3, 4, 5, 6, 7] rfl
        refine va_callv (va_runV (As := [.ref aR]) (rest := []) ⟨hx, hb, hml, hown, hw⟩ (mM_settle l dC dI cA a0 aR aM aW aP aS aC aO nW nE s.heap.size R f us P S sc li rc rn ro rd st _ h) (cwV 1 hw g_T_125 rfl rfl rfl (by decide +kernel) ⟨Nat.le_of_ble_eq_true rfl, Nat.le_of_ble_eq_true rfl⟩) (rw_PV (ci := 1) (q0 := 2) hK hP hD rfl rfl) rfl rfl hl.1 rfl (lv_room (Nat.le_of_ble_eq_true rfl)) d_T_instance_23 ⟨Nat.le_of_ble_eq_true rfl, Nat.le_of_ble_eq_true rfl⟩) hS (fun q _ h => hFc q h) hFc (fun u t H locs ht hvm h hB hz1 hk1 hS => ?_)
        obtain ⟨f_23, us_23, P_23, S_23, sc_23, rc_23, rn_23, ro_23, rd_23, st_23⟩ := u
        obtain ⟨hP, hK1, hD1⟩ := hB
        rw [ht] at hP
        have hD := hD1.weaken (fun _ _ _ q => hFc _ q)
        clear hFc hD1 hK1
        try dsimp only at h
        have hP : va_P (dC, dI) vwCl (TSw cA a0 aR aM aW aP aS aC aO nW nE R f_23 us_23 P_23 S_23 sc_23 li rc_23 rn_23 ro_23 rd_23 st_23) H := hP
        have hD : va_D A (TSw cA a0 aR aM aW aP aS aC aO nW nE R f_23 us_23 P_23 S_23 sc_23 li rc_23 rn_23 ro_23 rd_23 st_23) := hD
        refine lv_aload_n hx hb d_T_instance_26 rfl (lv_at hl 0 rfl) ?_
        refine va_get (D := (dC, dI)) (ci := 0) (v := .ref aM) (C := R_T) (T := T_T) (N := 2) hx hb hw in_T hown hK hP 0 rfl rfl 1 (by decide) (hw _ wd_104) (fun _ h9 => h9) rfl d_T_instance_27 ?_
        refine lv_aload_n hx hb d_T_instance_30 rfl (lv_at hl 0 rfl) ?_
        refine va_get (D := (dC, dI)) (ci := 0) (v := .ref aR) (C := R_T) (T := T_T) (N := 2) hx hb hw in_T hown hK hP 0 rfl rfl 0 (by decide) (hw _ wd_103) (fun _ h9 => h9) rfl d_T_instance_31 ?_
        refine lv_iload_n hx hb d_T_instance_34 rfl (lv_at hl 2 rfl) ?_
        refine va_iald hx hb hK hP 1 0 rfl rfl h.1 d_T_instance_35 ?_
        have h := h.2
        refine lv_iload_n hx hb d_T_instance_36 rfl (lv_at hl 3 rfl) ?_
        refine rq_calli (W.runV (As := [.int (R a2.toNatClampNeg), .int a3]) (rest := []) ⟨hx, hb, hml, hown, hw⟩ (mM_findOfClass l dC dI cA a0 aR aM aW aP aS aC aO nW nE R f_23 us_23 P_23 S_23 sc_23 li rc_23 rn_23 ro_23 rd_23 st_23 (R a2.toNatClampNeg) a3 _ h) (cwV 2 hw g_T_139 rfl rfl rfl (by decide +kernel) ⟨Nat.le_of_ble_eq_true rfl, Nat.le_of_ble_eq_true rfl⟩) (ro_PV (ci := 1) (q0 := 2) hK hP rfl rfl) rfl rfl hl.1 rfl (lv_room (Nat.le_of_ble_eq_true rfl)) d_T_instance_37 ⟨Nat.le_of_ble_eq_true rfl, Nat.le_of_ble_eq_true rfl⟩) (fun r37 h => ?_)
        refine lv_istore (lv' := [(4, .int r37), (0, .ref a0), (1, .int a1), (2, .int a2), (3, .int a3)]) hx hb d_T_instance_40 hl (by decide) rfl (fun ls hl => ?_)
        refine lv_iload hx hb d_T_instance_42 (lv_at hl 0 rfl) ?_
        refine lv_if_ne (tgt := 49) hx hb d_T_instance_44 (by decide) (fun c_44 => ?_) (fun c_44 => ?_)
        · have h := h.2 c_44
          refine lv_aload_n hx hb d_T_instance_49 rfl (lv_at hl 1 rfl) ?_
          refine lv_iload_n hx hb d_T_instance_50 rfl (lv_at hl 2 rfl) ?_
          refine lv_iload hx hb d_T_instance_51 (lv_at hl 0 rfl) ?_
          have hFc := va_free (wc := TSw cA a0 aR aM aW aP aS aC aO nW nE R f_23 us_23 P_23 S_23 sc_23 li rc_23 rn_23 ro_23 rd_23 st_23) hD hS hA [0, 1, 2, 3, 4, 5, 6, 7] rfl
          refine va_callv (va_runV (As := [.int a1, .int r37]) (rest := []) ⟨hx, hb, hml, hown, hw⟩ (mT_setRegister l dC dI cA a0 aR aM aW aP aS aC aO nW nE H.size R f_23 us_23 P_23 S_23 sc_23 li rc_23 rn_23 ro_23 rd_23 st_23 a1 r37 _ h) (cwV 2 hw g_T_43 rfl rfl rfl (by decide +kernel) ⟨Nat.le_of_ble_eq_true rfl, Nat.le_of_ble_eq_true rfl⟩) (rw_PV (ci := 0) (q0 := 0) hK hP hD rfl rfl) rfl rfl hl.1 rfl (lv_room (Nat.le_of_ble_eq_true rfl)) d_T_instance_53 ⟨Nat.le_of_ble_eq_true rfl, Nat.le_of_ble_eq_true rfl⟩) hS (fun q _ h => hFc q h) hFc (fun u t H locs ht hvm h hB hz1 hk1 hS => ?_)
          obtain ⟨R_53, st_53⟩ := u
          obtain ⟨hP, hK1, hD1⟩ := hB
          rw [ht] at hP
          have hD := hD1.weaken (fun _ _ _ q => hFc _ q)
          clear hFc hD1 hK1
          try dsimp only at h
          have hP : va_P (dC, dI) vwCl (TSw cA a0 aR aM aW aP aS aC aO nW nE R_53 f_23 us_23 P_23 S_23 sc_23 li rc_23 rn_23 ro_23 rd_23 st_53) H := hP
          have hD : va_D A (TSw cA a0 aR aM aW aP aS aC aO nW nE R_53 f_23 us_23 P_23 S_23 sc_23 li rc_23 rn_23 ro_23 rd_23 st_53) := hD
          refine lv_aload_n hx hb d_T_instance_56 rfl (lv_at hl 1 rfl) ?_
          refine va_get (D := (dC, dI)) (ci := 0) (v := .ref aM) (C := R_T) (T := T_T) (N := 2) hx hb hw in_T hown hK hP 0 rfl rfl 1 (by decide) (hw _ wd_104) (fun _ h9 => h9) rfl d_T_instance_57 ?_
          refine lv_iload hx hb d_T_instance_60 (lv_at hl 0 rfl) ?_
          refine rq_calli (W.runV (As := [.int r37]) (rest := []) ⟨hx, hb, hml, hown, hw⟩ (mM_identity l dC dI cA a0 aR aM aW aP aS aC aO nW nE R_53 f_23 us_23 P_23 S_23 sc_23 li rc_23 rn_23 ro_23 rd_23 st_53 r37 _ h) (cwV 1 hw g_T_57 rfl rfl rfl (by decide +kernel) ⟨Nat.le_of_ble_eq_true rfl, Nat.le_of_ble_eq_true rfl⟩) (ro_PV (ci := 1) (q0 := 2) hK hP rfl rfl) rfl rfl hl.1 rfl (lv_room (Nat.le_of_ble_eq_true rfl)) d_T_instance_62 ⟨Nat.le_of_ble_eq_true rfl, Nat.le_of_ble_eq_true rfl⟩) (fun r62 h => ?_)
          refine W.widen (k := 3) (n := 18) (Nat.le_of_ble_eq_true rfl) (Nat.le_of_ble_eq_true rfl) ?_
          exact vx_ret (W.iret (v := r62) hx hb hr9 (fun t ht hW => ⟨⟨_, (R_53, f_23, us_23, P_23, S_23, sc_23, rc_23, rn_23, ro_23, rd_23, st_53), rfl, h, by rw [ht]; exact hP, va_K.moved hW.alike hK, hD⟩, hS.F ht⟩) hS.2.2 d_T_instance_65)
        · have h := h.1 c_44
          refine lv_iconst (v := (0 : Int32)) hx hb d_T_instance_47 (by decide) ?_
          refine W.widen (k := 3) (n := 18) (Nat.le_of_ble_eq_true rfl) (Nat.le_of_ble_eq_true rfl) ?_
          exact vx_ret (W.iret (v := (0 : Int32)) hx hb hr9 (fun t ht hW => ⟨⟨_, (R, f_23, us_23, P_23, S_23, sc_23, rc_23, rn_23, ro_23, rd_23, st_23), rfl, h, by rw [ht]; exact hP, va_K.moved hW.alike hK, hD⟩, hS.F ht⟩) hS.2.2 d_T_instance_48)
def wqT_owners_45 (nW : Nat) (nE : Nat) (R : Nat → Int32) (y1_45 : Int32) (y2_45 : Int32) (y5_45 : Int32) (ff_45 : Nat → Int32) (usf_45 : Int32) (Pf_45 : Nat → Int32) (Sf_45 : Nat → Int32) (scf_45 : Int32) (rcf_45 : Nat → Int32) (rnf_45 : Int32) (rof_45 : Nat → Int32) (rdf_45 : Int32) (stf_45 : Int32) (post : Int32 → (Nat → Int32) → Int32 → (Nat → Int32) → (Nat → Int32) → Int32 → (Nat → Int32) → Int32 → (Nat → Int32) → Int32 → Int32 → Prop) (px : String → (Nat → Int32) → Int32 → (Nat → Int32) → (Nat → Int32) → Int32 → (Nat → Int32) → Int32 → (Nat → Int32) → Int32 → Int32 → Prop) (kx : Int32 → Int32 → Prop) : Nat → Int32 → Int32 → Prop
  | 0, _, _ => False
  | n + 1, x3_45, x6_45 =>
    (y5_45 ≤ x6_45 → (kx x3_45 x6_45)) ∧ (¬ (y5_45 ≤ x6_45) → (vp_in x6_45 32 ∧ (((R x6_45.toNatClampNeg) = y2_45 → (wqT_owners_45 nW nE R y1_45 y2_45 y5_45 ff_45 usf_45 Pf_45 Sf_45 scf_45 rcf_45 rnf_45 rof_45 rdf_45 stf_45 post px kx n (x3_45 + (1 : Int32)) (x6_45 + (1 : Int32)))) ∧ (¬ ((R x6_45.toNatClampNeg) = y2_45) → (wqT_owners_45 nW nE R y1_45 y2_45 y5_45 ff_45 usf_45 Pf_45 Sf_45 scf_45 rcf_45 rnf_45 rof_45 rdf_45 stf_45 post px kx n x3_45 (x6_45 + (1 : Int32)))))))
def wqT_owners (nW : Nat) (nE : Nat) (R : Nat → Int32) (f : Nat → Int32) (us : Int32) (P : Nat → Int32) (S : Nat → Int32) (sc : Int32) (rc : Nat → Int32) (rn : Int32) (ro : Nat → Int32) (rd : Int32) (st : Int32) (a1 : Int32) (post : Int32 → (Nat → Int32) → Int32 → (Nat → Int32) → (Nat → Int32) → Int32 → (Nat → Int32) → Int32 → (Nat → Int32) → Int32 → Int32 → Prop) (px : String → (Nat → Int32) → Int32 → (Nat → Int32) → (Nat → Int32) → Int32 → (Nat → Int32) → Int32 → (Nat → Int32) → Int32 → Int32 → Prop) : Prop :=
  wqT_needRegister a1 (vp_in a1 32 ∧ (wqM_settle nW nE R f us P S sc rc rn ro rd st (fun f_19 us_19 P_19 S_19 sc_19 rc_19 rn_19 ro_19 rd_19 st_19 => wqM_countHolders nW nE f_19 us_19 (R a1.toNatClampNeg) (fun r27 => ∃ k_45, wqT_owners_45 nW nE R a1 (R a1.toNatClampNeg) (nI 32) f_19 us_19 P_19 S_19 sc_19 rc_19 rn_19 ro_19 rd_19 st_19 post px (fun z3_45 z6_45 => post z3_45 f_19 us_19 P_19 S_19 sc_19 rc_19 rn_19 ro_19 rd_19 st_19) k_45 r27 (0 : Int32))))) (fun E => px E f us P S sc rc rn ro rd st)
set_option maxHeartbeats 4000000 in
set_option maxRecDepth 100000 in
theorem mT_owners (l : Launch) (hlT : l.stackTraces = false) (sa : Nat → Nat) (dC : Nat → ClassId) (dI : Nat → Nat → Nat) (cA : ClassId) (a0 : Nat) (aR : Nat) (aM : Nat) (aW : Nat) (aP : Nat) (aS : Nat) (aC : Nat) (aO : Nat) (nW : Nat) (nE : Nat) (sz : Nat) (R : Nat → Int32) (f : Nat → Int32) (us : Int32) (P : Nat → Int32) (S : Nat → Int32) (sc : Int32) (li : Int32) (rc : Nat → Int32) (rn : Int32) (ro : Nat → Int32) (rd : Int32) (st : Int32) (a1 : Int32) (post : Int32 → (Nat → Int32) → Int32 → (Nat → Int32) → (Nat → Int32) → Int32 → (Nat → Int32) → Int32 → (Nat → Int32) → Int32 → Int32 → Prop) (px : String → (Nat → Int32) → Int32 → (Nat → Int32) → (Nat → Int32) → Int32 → (Nat → Int32) → Int32 → (Nat → Int32) → Int32 → Int32 → Prop) (h : wqT_owners nW nE R f us P S sc rc rn ro rd st a1 post px) : vx_Met l y_T_owners ws_T_owners ({ frames := 7, cells := 1, slots := 6, locals := 120 }) (xw_P (dC, dI) vwCl (TSw cA a0 aR aM aW aP aS aC aO nW nE R f us P S sc li rc rn ro rd st) [(cA, .int)] sz sa [.ref a0, .int a1]) (va_Qi (fun (r : Int32) (u : (Nat → Int32) × Int32 × (Nat → Int32) × (Nat → Int32) × Int32 × (Nat → Int32) × Int32 × (Nat → Int32) × Int32 × Int32) => post r u.1 u.2.1 u.2.2.1 u.2.2.2.1 u.2.2.2.2.1 u.2.2.2.2.2.1 u.2.2.2.2.2.2.1 u.2.2.2.2.2.2.2.1 u.2.2.2.2.2.2.2.2.1 u.2.2.2.2.2.2.2.2.2) (rw_B (dC, dI) vwCl [(cA, .int)] (va_A (TSw cA a0 aR aM aW aP aS aC aO nW nE R f us P S sc li rc rn ro rd st) sz) (fun u : (Nat → Int32) × Int32 × (Nat → Int32) × (Nat → Int32) × Int32 × (Nat → Int32) × Int32 × (Nat → Int32) × Int32 × Int32 => TSw cA a0 aR aM aW aP aS aC aO nW nE R u.1 u.2.1 u.2.2.1 u.2.2.2.1 u.2.2.2.2.1 li u.2.2.2.2.2.1 u.2.2.2.2.2.2.1 u.2.2.2.2.2.2.2.1 u.2.2.2.2.2.2.2.2.1 u.2.2.2.2.2.2.2.2.2)) (va_A (TSw cA a0 aR aM aW aP aS aC aO nW nE R f us P S sc li rc rn ro rd st) sz)) (rw_X (dC, dI) vwCl [(cA, .int)] (va_A (TSw cA a0 aR aM aW aP aS aC aO nW nE R f us P S sc li rc rn ro rd st) sz) (fun u : (Nat → Int32) × Int32 × (Nat → Int32) × (Nat → Int32) × Int32 × (Nat → Int32) × Int32 × (Nat → Int32) × Int32 × Int32 => TSw cA a0 aR aM aW aP aS aC aO nW nE R u.1 u.2.1 u.2.2.1 u.2.2.2.1 u.2.2.2.2.1 li u.2.2.2.2.2.1 u.2.2.2.2.2.2.1 u.2.2.2.2.2.2.2.1 u.2.2.2.2.2.2.2.2.1 u.2.2.2.2.2.2.2.2.2) (fun (E : String) (u : (Nat → Int32) × Int32 × (Nat → Int32) × (Nat → Int32) × Int32 × (Nat → Int32) × Int32 × (Nat → Int32) × Int32 × Int32) => px E u.1 u.2.1 u.2.2.1 u.2.2.2.1 u.2.2.2.2.1 u.2.2.2.2.2.1 u.2.2.2.2.2.2.1 u.2.2.2.2.2.2.2.1 u.2.2.2.2.2.2.2.2.1 u.2.2.2.2.2.2.2.2.2)) 1 6 (va_A (TSw cA a0 aR aM aW aP aS aC aO nW nE R f us P S sc li rc rn ro rd st) sz) := by
  refine vx_ofW (cc := c_T_owners) (maxL := 8) (ret := (some .int)) (by decide) rfl ?_
  intro p e s m args below meth c s₁ B hml hEx hv
  obtain ⟨rfl, hsz, hP, hK, hD0, hXT⟩ := hv
  have hx := B.exec
  have hb := B.bytes
  have hr9 := B.returns
  have hts := atoms_spec (ws := ws_T_owners) B.pre
  have hw : ∀ w ∈ WB_, w.before _ s = true := fun w h => hts w (List.mem_cons_of_mem _ h)
  have hown : s.vm.findClass R_T = some m.cls := findClass_of_methodNamed B.named
  have hlocks := B.notSynchronized
  subst hsz
  have hD := hD0.self (sz := s.heap.size)
  generalize hAe : va_A (TSw cA a0 aR aM aW aP aS aC aO nW nE R f us P S sc li rc rn ro rd st) s.heap.size = A at hD hXT ⊢
  have hA : ∀ q : Nat, s.heap.size ≤ q → A q := fun q h => by rw [← hAe]; exact Or.inr h
  have hS : va_S A s.heap s.heap [] := va_S.rf
  have hl := lv_entry ([.ref a0, .int a1]) (n := 8) (Nat.le_of_ble_eq_true rfl)
  rw [lg_entry_eq]
  generalize (lg_sl ([.ref a0, .int a1]) ++ List.replicate (8 - (lg_sl ([.ref a0, .int a1])).length) Slot.unset).toArray = ls at hl ⊢
  have hl : lv_has ls 8 [(0, .ref a0), (1, .int a1)] := hl
  have lp_45 : ∀ (y1_45 : Int32) (y2_45 : Int32) (y5_45 : Int32) (ff_45 : Nat → Int32) (usf_45 : Int32) (Pf_45 : Nat → Int32) (Sf_45 : Nat → Int32) (scf_45 : Int32) (rcf_45 : Nat → Int32) (rnf_45 : Int32) (rof_45 : Nat → Int32) (rdf_45 : Int32) (stf_45 : Int32) (kx : Int32 → Int32 → Prop), (∀ (z3_45 : Int32) (z6_45 : Int32) (H : Heap) (locs : List Loc) (ls : Array Slot), va_P (dC, dI) vwCl (TSw cA a0 aR aM aW aP aS aC aO nW nE R ff_45 usf_45 Pf_45 Sf_45 scf_45 li rcf_45 rnf_45 rof_45 rdf_45 stf_45) H → va_D A (TSw cA a0 aR aM aW aP aS aC aO nW nE R ff_45 usf_45 Pf_45 Sf_45 scf_45 li rcf_45 rnf_45 rof_45 rdf_45 stf_45) → va_S A s.heap H locs → lv_has ls 8 [(0, .ref a0), (1, .int y1_45), (2, .int y2_45), (3, .int z3_45), (4, .ref aR), (5, .int y5_45), (6, .int z6_45)] → kx z3_45 z6_45 → W p l e (headSpec ws_T_owners ({ frames := 7, cells := 1, slots := 6, locals := 120 })).room s m ([.ref a0, .int a1] : List Value).toArray below meth c H locs (1) (6) (vx_MQ below (va_Qi (fun (r : Int32) (u : (Nat → Int32) × Int32 × (Nat → Int32) × (Nat → Int32) × Int32 × (Nat → Int32) × Int32 × (Nat → Int32) × Int32 × Int32) => post r u.1 u.2.1 u.2.2.1 u.2.2.2.1 u.2.2.2.2.1 u.2.2.2.2.2.1 u.2.2.2.2.2.2.1 u.2.2.2.2.2.2.2.1 u.2.2.2.2.2.2.2.2.1 u.2.2.2.2.2.2.2.2.2) (rw_B (dC, dI) vwCl [(cA, .int)] A (fun u : (Nat → Int32) × Int32 × (Nat → Int32) × (Nat → Int32) × Int32 × (Nat → Int32) × Int32 × (Nat → Int32) × Int32 × Int32 => TSw cA a0 aR aM aW aP aS aC aO nW nE R u.1 u.2.1 u.2.2.1 u.2.2.2.1 u.2.2.2.2.1 li u.2.2.2.2.2.1 u.2.2.2.2.2.2.1 u.2.2.2.2.2.2.2.1 u.2.2.2.2.2.2.2.2.1 u.2.2.2.2.2.2.2.2.2)) A) (rw_X (dC, dI) vwCl [(cA, .int)] A (fun u : (Nat → Int32) × Int32 × (Nat → Int32) × (Nat → Int32) × Int32 × (Nat → Int32) × Int32 × (Nat → Int32) × Int32 × Int32 => TSw cA a0 aR aM aW aP aS aC aO nW nE R u.1 u.2.1 u.2.2.1 u.2.2.2.1 u.2.2.2.2.1 li u.2.2.2.2.2.1 u.2.2.2.2.2.2.1 u.2.2.2.2.2.2.2.1 u.2.2.2.2.2.2.2.2.1 u.2.2.2.2.2.2.2.2.2) (fun (E : String) (u : (Nat → Int32) × Int32 × (Nat → Int32) × (Nat → Int32) × Int32 × (Nat → Int32) × Int32 × (Nat → Int32) × Int32 × Int32) => px E u.1 u.2.1 u.2.2.1 u.2.2.2.1 u.2.2.2.2.1 u.2.2.2.2.2.1 u.2.2.2.2.2.2.1 u.2.2.2.2.2.2.2.1 u.2.2.2.2.2.2.2.2.1 u.2.2.2.2.2.2.2.2.2)) ([.ref a0, .int a1] : List Value).toArray s 1 6 A) (F0 m 74 ls [])) → ∀ (n : Nat) (x3_45 : Int32) (x6_45 : Int32) (H : Heap) (locs : List Loc) (ls : Array Slot), va_P (dC, dI) vwCl (TSw cA a0 aR aM aW aP aS aC aO nW nE R ff_45 usf_45 Pf_45 Sf_45 scf_45 li rcf_45 rnf_45 rof_45 rdf_45 stf_45) H → va_D A (TSw cA a0 aR aM aW aP aS aC aO nW nE R ff_45 usf_45 Pf_45 Sf_45 scf_45 li rcf_45 rnf_45 rof_45 rdf_45 stf_45) → va_S A s.heap H locs → lv_has ls 8 [(0, .ref a0), (1, .int y1_45), (2, .int y2_45), (3, .int x3_45), (4, .ref aR), (5, .int y5_45), (6, .int x6_45)] → wqT_owners_45 nW nE R y1_45 y2_45 y5_45 ff_45 usf_45 Pf_45 Sf_45 scf_45 rcf_45 rnf_45 rof_45 rdf_45 stf_45 post px kx n x3_45 x6_45 → W p l e (headSpec ws_T_owners ({ frames := 7, cells := 1, slots := 6, locals := 120 })).room s m ([.ref a0, .int a1] : List Value).toArray below meth c H locs (1) (6) (vx_MQ below (va_Qi (fun (r : Int32) (u : (Nat → Int32) × Int32 × (Nat → Int32) × (Nat → Int32) × Int32 × (Nat → Int32) × Int32 × (Nat → Int32) × Int32 × Int32) => post r u.1 u.2.1 u.2.2.1 u.2.2.2.1 u.2.2.2.2.1 u.2.2.2.2.2.1 u.2.2.2.2.2.2.1 u.2.2.2.2.2.2.2.1 u.2.2.2.2.2.2.2.2.1 u.2.2.2.2.2.2.2.2.2) (rw_B (dC, dI) vwCl [(cA, .int)] A (fun u : (Nat → Int32) × Int32 × (Nat → Int32) × (Nat → Int32) × Int32 × (Nat → Int32) × Int32 × (Nat → Int32) × Int32 × Int32 => TSw cA a0 aR aM aW aP aS aC aO nW nE R u.1 u.2.1 u.2.2.1 u.2.2.2.1 u.2.2.2.2.1 li u.2.2.2.2.2.1 u.2.2.2.2.2.2.1 u.2.2.2.2.2.2.2.1 u.2.2.2.2.2.2.2.2.1 u.2.2.2.2.2.2.2.2.2)) A) (rw_X (dC, dI) vwCl [(cA, .int)] A (fun u : (Nat → Int32) × Int32 × (Nat → Int32) × (Nat → Int32) × Int32 × (Nat → Int32) × Int32 × (Nat → Int32) × Int32 × Int32 => TSw cA a0 aR aM aW aP aS aC aO nW nE R u.1 u.2.1 u.2.2.1 u.2.2.2.1 u.2.2.2.2.1 li u.2.2.2.2.2.1 u.2.2.2.2.2.2.1 u.2.2.2.2.2.2.2.1 u.2.2.2.2.2.2.2.2.1 u.2.2.2.2.2.2.2.2.2) (fun (E : String) (u : (Nat → Int32) × Int32 × (Nat → Int32) × (Nat → Int32) × Int32 × (Nat → Int32) × Int32 × (Nat → Int32) × Int32 × Int32) => px E u.1 u.2.1 u.2.2.1 u.2.2.2.1 u.2.2.2.2.1 u.2.2.2.2.2.1 u.2.2.2.2.2.2.1 u.2.2.2.2.2.2.2.1 u.2.2.2.2.2.2.2.2.1 u.2.2.2.2.2.2.2.2.2)) ([.ref a0, .int a1] : List Value).toArray s 1 6 A) (F0 m 45 ls []) := by
    intro y1_45 y2_45 y5_45 ff_45 usf_45 Pf_45 Sf_45 scf_45 rcf_45 rnf_45 rof_45 rdf_45 stf_45 kx K n
    induction n with
    | zero => intro x3_45 x6_45 H locs ls hP hD hS hl h; exact h.elim
    | succ n ih =>
      intro x3_45 x6_45 H locs ls hP hD hS hl h
      refine lv_iload hx hb d_T_owners_45 (lv_at hl 6 rfl) ?_
      refine lv_iload hx hb d_T_owners_47 (lv_at hl 5 rfl) ?_
      refine lv_icmp_ge (tgt := 74) hx hb d_T_owners_49 (by decide) (fun c_49 => ?_) (fun c_49 => ?_)
      · have h := h.1 c_49
        exact K x3_45 x6_45 H locs ls hP hD hS (lv_sub hl [0, 1, 2, 3, 4, 5, 6] rfl) h
      · have h := h.2 c_49
        refine lv_aload hx hb d_T_owners_52 (lv_at hl 4 rfl) ?_
        refine lv_iload hx hb d_T_owners_54 (lv_at hl 6 rfl) ?_
        refine va_iald hx hb hK hP 1 0 rfl rfl h.1 d_T_owners_56 ?_
        have h := h.2
        refine lv_istore (lv' := [(7, .int (R x6_45.toNatClampNeg)), (0, .ref a0), (1, .int y1_45), (2, .int y2_45), (3, .int x3_45), (4, .ref aR), (5, .int y5_45), (6, .int x6_45)]) hx hb d_T_owners_57 hl (by decide) rfl (fun ls hl => ?_)
        refine lv_iload hx hb d_T_owners_59 (lv_at hl 0 rfl) ?_
        refine lv_iload_n hx hb d_T_owners_61 rfl (lv_at hl 3 rfl) ?_
        refine lv_icmp_ne (tgt := 68) hx hb d_T_owners_62 (by decide) (fun c_62 => ?_) (fun c_62 => ?_)
        · have h := h.2 c_62
          refine lv_iinc (v := x6_45 + (1 : Int32)) (lv' := [(6, .int (x6_45 + (1 : Int32))), (7, .int (R x6_45.toNatClampNeg)), (0, .ref a0), (1, .int y1_45), (2, .int y2_45), (3, .int x3_45), (4, .ref aR), (5, .int y5_45)]) hx hb d_T_owners_68 hl (k := 7) rfl rfl (by decide) rfl (fun ls hl => ?_)
          refine lv_goto (tgt := 45) hx hb d_T_owners_71 (by decide) ?_
          exact ih x3_45 (x6_45 + (1 : Int32)) H locs ls hP hD hS (lv_sub hl [2, 3, 4, 5, 6, 7, 0] rfl) h
        · have h := h.1 c_62
          refine lv_iinc (v := x3_45 + (1 : Int32)) (lv' := [(3, .int (x3_45 + (1 : Int32))), (7, .int (R x6_45.toNatClampNeg)), (0, .ref a0), (1, .int y1_45), (2, .int y2_45), (4, .ref aR), (5, .int y5_45), (6, .int x6_45)]) hx hb d_T_owners_65 hl (k := 4) rfl rfl (by decide) rfl (fun ls hl => ?_)
          refine lv_iinc (v := x6_45 + (1 : Int32)) (lv' := [(6, .int (x6_45 + (1 : Int32))), (3, .int (x3_45 + (1 : Int32))), (7, .int (R x6_45.toNatClampNeg)), (0, .ref a0), (1, .int y1_45), (2, .int y2_45), (4, .ref aR), (5, .int y5_45)]) hx hb d_T_owners_68 hl (k := 7) rfl rfl (by decide) rfl (fun ls hl => ?_)
          refine lv_goto (tgt := 45) hx hb d_T_owners_71 (by decide) ?_
          exact ih (x3_45 + (1 : Int32)) (x6_45 + (1 : Int32)) H locs ls hP hD hS (lv_sub hl [3, 4, 5, 1, 6, 7, 0] rfl) h
  unfold wqT_owners at h
  refine lv_iload_n hx hb d_T_owners_0 rfl (lv_at hl 1 rfl) ?_
  refine rx_callv (vx_runS (As := [.int a1]) (rest := []) ⟨hx, hb, hml, hown, hw⟩ (mT_needRegister l hlT sa a1 _ _ h) (va_cwS 1 hw g_T_27 rfl rfl rfl (by decide +kernel) ⟨Nat.le_of_ble_eq_true rfl, Nat.le_of_ble_eq_true rfl⟩) (xs_PS (xt_at hXT hS)) rfl rfl hl.1 rfl (lv_room (Nat.le_of_ble_eq_true rfl)) d_T_owners_1 ⟨Nat.le_of_ble_eq_true rfl, Nat.le_of_ble_eq_true rfl⟩) (fun E9 ce q9 H1 h hz hk hce hcv hcl => ?_) (fun h => ?_)
  · exact rx_out (f, us, P, S, sc, rc, rn, ro, rd, st) rfl hEx hlocks hK hP hD hS h hz hk hce hcv hcl (Nat.le_of_ble_eq_true rfl) (Nat.le_of_ble_eq_true rfl)
  · refine lv_aload_n hx hb d_T_owners_4 rfl (lv_at hl 0 rfl) ?_
    refine va_get (D := (dC, dI)) (ci := 0) (v := .ref aR) (C := R_T) (T := T_T) (N := 2) hx hb hw in_T hown hK hP 0 rfl rfl 0 (by decide) (hw _ wd_103) (fun _ h9 => h9) rfl d_T_owners_5 ?_
    refine lv_iload_n hx hb d_T_owners_8 rfl (lv_at hl 1 rfl) ?_
    refine va_iald hx hb hK hP 1 0 rfl rfl h.1 d_T_owners_9 ?_
    have h := h.2
    refine lv_istore_n (lv' := [(2, .int (R a1.toNatClampNeg)), (0, .ref a0), (1, .int a1)]) hx hb d_T_owners_10 rfl hl (by decide) rfl (fun ls hl => ?_)
    refine lv_aload_n hx hb d_T_owners_11 rfl (lv_at hl 1 rfl) ?_
    refine va_get (D := (dC, dI)) (ci := 0) (v := .ref aM) (C := R_T) (T := T_T) (N := 2) hx hb hw in_T hown hK hP 0 rfl rfl 1 (by decide) (hw _ wd_104) (fun _ h9 => h9) rfl d_T_owners_12 ?_
    refine lv_aload_n hx hb d_T_owners_15 rfl (lv_at hl 1 rfl) ?_
    refine va_get (D := (dC, dI)) (ci := 0) (v := .ref aR) (C := R_T) (T := T_T) (N := 2) hx hb hw in_T hown hK hP 0 rfl rfl 0 (by decide) (hw _ wd_103) (fun _ h9 => h9) rfl d_T_owners_16 ?_
    have hFc := va_free (wc := TSw cA a0 aR aM aW aP aS aC aO nW nE R f us P S sc li rc rn ro rd st) hD hS hA [0, 1, 2, 3, 4, 5, 6, 7] rfl
    refine va_callv (va_runV (As := [.ref aR]) (rest := []) ⟨hx, hb, hml, hown, hw⟩ (mM_settle l dC dI cA a0 aR aM aW aP aS aC aO nW nE s.heap.size R f us P S sc li rc rn ro rd st _ h) (cwV 1 hw g_T_125 rfl rfl rfl (by decide +kernel) ⟨Nat.le_of_ble_eq_true rfl, Nat.le_of_ble_eq_true rfl⟩) (rw_PV (ci := 1) (q0 := 2) hK hP hD rfl rfl) rfl rfl hl.1 rfl (lv_room (Nat.le_of_ble_eq_true rfl)) d_T_owners_19 ⟨Nat.le_of_ble_eq_true rfl, Nat.le_of_ble_eq_true rfl⟩) hS (fun q _ h => hFc q h) hFc (fun u t H locs ht hvm h hB hz1 hk1 hS => ?_)
    obtain ⟨f_19, us_19, P_19, S_19, sc_19, rc_19, rn_19, ro_19, rd_19, st_19⟩ := u
    obtain ⟨hP, hK1, hD1⟩ := hB
    rw [ht] at hP
    have hD := hD1.weaken (fun _ _ _ q => hFc _ q)
    clear hFc hD1 hK1
    try dsimp only at h
    have hP : va_P (dC, dI) vwCl (TSw cA a0 aR aM aW aP aS aC aO nW nE R f_19 us_19 P_19 S_19 sc_19 li rc_19 rn_19 ro_19 rd_19 st_19) H := hP
    have hD : va_D A (TSw cA a0 aR aM aW aP aS aC aO nW nE R f_19 us_19 P_19 S_19 sc_19 li rc_19 rn_19 ro_19 rd_19 st_19) := hD
    refine lv_aload_n hx hb d_T_owners_22 rfl (lv_at hl 1 rfl) ?_
    refine va_get (D := (dC, dI)) (ci := 0) (v := .ref aM) (C := R_T) (T := T_T) (N := 2) hx hb hw in_T hown hK hP 0 rfl rfl 1 (by decide) (hw _ wd_104) (fun _ h9 => h9) rfl d_T_owners_23 ?_
    refine lv_iload_n hx hb d_T_owners_26 rfl (lv_at hl 0 rfl) ?_
    refine rq_calli (W.runV (As := [.int (R a1.toNatClampNeg)]) (rest := []) ⟨hx, hb, hml, hown, hw⟩ (mM_countHolders l dC dI cA a0 aR aM aW aP aS aC aO nW nE R f_19 us_19 P_19 S_19 sc_19 li rc_19 rn_19 ro_19 rd_19 st_19 (R a1.toNatClampNeg) _ h) (cwV 1 hw g_T_142 rfl rfl rfl (by decide +kernel) ⟨Nat.le_of_ble_eq_true rfl, Nat.le_of_ble_eq_true rfl⟩) (ro_PV (ci := 1) (q0 := 2) hK hP rfl rfl) rfl rfl hl.1 rfl (lv_room (Nat.le_of_ble_eq_true rfl)) d_T_owners_27 ⟨Nat.le_of_ble_eq_true rfl, Nat.le_of_ble_eq_true rfl⟩) (fun r27 h => ?_)
    refine lv_istore_n (lv' := [(3, .int r27), (2, .int (R a1.toNatClampNeg)), (0, .ref a0), (1, .int a1)]) hx hb d_T_owners_30 rfl hl (by decide) rfl (fun ls hl => ?_)
    refine lv_aload_n hx hb d_T_owners_31 rfl (lv_at hl 2 rfl) ?_
    refine va_get (D := (dC, dI)) (ci := 0) (v := .ref aR) (C := R_T) (T := T_T) (N := 2) hx hb hw in_T hown hK hP 0 rfl rfl 0 (by decide) (hw _ wd_103) (fun _ h9 => h9) rfl d_T_owners_32 ?_
    refine lv_astore (lv' := [(4, .ref aR), (3, .int r27), (2, .int (R a1.toNatClampNeg)), (0, .ref a0), (1, .int a1)]) hx hb d_T_owners_35 hl (by decide) rfl (fun ls hl => ?_)
    refine lv_aload hx hb d_T_owners_37 (lv_at hl 0 rfl) ?_
    refine va_alen (v := nI 32) hx hb hK hP 1 0 rfl rfl rfl d_T_owners_39 ?_
    refine lv_istore (lv' := [(5, .int (nI 32)), (4, .ref aR), (3, .int r27), (2, .int (R a1.toNatClampNeg)), (0, .ref a0), (1, .int a1)]) hx hb d_T_owners_40 hl (by decide) rfl (fun ls hl => ?_)
    refine lv_iconst (v := (0 : Int32)) hx hb d_T_owners_42 (by decide) ?_
    refine lv_istore (lv' := [(6, .int (0 : Int32)), (5, .int (nI 32)), (4, .ref aR), (3, .int r27), (2, .int (R a1.toNatClampNeg)), (0, .ref a0), (1, .int a1)]) hx hb d_T_owners_43 hl (by decide) rfl (fun ls hl => ?_)
    obtain ⟨n_45, h⟩ := h
    refine lp_45 a1 (R a1.toNatClampNeg) (nI 32) f_19 us_19 P_19 S_19 sc_19 rc_19 rn_19 ro_19 rd_19 st_19 _ (fun z3_45 z6_45 H locs ls hP hD hS hl h => ?_) n_45 r27 (0 : Int32) H locs ls hP hD hS (lv_sub hl [5, 6, 4, 3, 2, 1, 0] rfl) h
    refine lv_iload_n hx hb d_T_owners_74 rfl (lv_at hl 3 rfl) ?_
    refine W.widen (k := 1) (n := 6) (Nat.le_of_ble_eq_true rfl) (Nat.le_of_ble_eq_true rfl) ?_
    exact vx_ret (W.iret (v := z3_45) hx hb hr9 (fun t ht hW => ⟨⟨_, (f_19, us_19, P_19, S_19, sc_19, rc_19, rn_19, ro_19, rd_19, st_19), rfl, h, by rw [ht]; exact hP, va_K.moved hW.alike hK, hD⟩, hS.F ht⟩) hS.2.2 d_T_owners_75)
def wqT_reaches (nW : Nat) (nE : Nat) (R : Nat → Int32) (f : Nat → Int32) (P : Nat → Int32) (rc : Nat → Int32) (rn : Int32) (ro : Nat → Int32) (rd : Int32) (a1 : Int32) (a2 : Int32) (post : Int32 → (Nat → Int32) → Int32 → (Nat → Int32) → Int32 → Prop) (px : String → (Nat → Int32) → Int32 → (Nat → Int32) → Int32 → Prop) : Prop :=
  wqT_needObject nW nE R a1 (wqT_needObject nW nE R a2 (vp_in a1 32 ∧ (vp_in a2 32 ∧ (wqM_leadsTo nW nE f P rc rn ro rd (R a1.toNatClampNeg) (R a2.toNatClampNeg) (fun r26 rc_26 rn_26 ro_26 rd_26 => narrow .boolean (.int r26) = .int r26 ∧ post r26 rc_26 rn_26 ro_26 rd_26)))) (fun E => px E rc rn ro rd)) (fun E => px E rc rn ro rd)
set_option maxHeartbeats 4000000 in
set_option maxRecDepth 100000 in
theorem mT_reaches (l : Launch) (hlT : l.stackTraces = false) (sa : Nat → Nat) (dC : Nat → ClassId) (dI : Nat → Nat → Nat) (cA : ClassId) (a0 : Nat) (aR : Nat) (aM : Nat) (aW : Nat) (aP : Nat) (aS : Nat) (aC : Nat) (aO : Nat) (nW : Nat) (nE : Nat) (sz : Nat) (R : Nat → Int32) (f : Nat → Int32) (us : Int32) (P : Nat → Int32) (S : Nat → Int32) (sc : Int32) (li : Int32) (rc : Nat → Int32) (rn : Int32) (ro : Nat → Int32) (rd : Int32) (st : Int32) (a1 : Int32) (a2 : Int32) (post : Int32 → (Nat → Int32) → Int32 → (Nat → Int32) → Int32 → Prop) (px : String → (Nat → Int32) → Int32 → (Nat → Int32) → Int32 → Prop) (h : wqT_reaches nW nE R f P rc rn ro rd a1 a2 post px) : vx_Met l y_T_reaches ws_T_reaches ({ frames := 8, cells := 4, slots := 24, locals := 141 }) (xw_P (dC, dI) vwCl (TSw cA a0 aR aM aW aP aS aC aO nW nE R f us P S sc li rc rn ro rd st) [(cA, .int)] sz sa [.ref a0, .int a1, .int a2]) (va_Qi (fun (r : Int32) (u : (Nat → Int32) × Int32 × (Nat → Int32) × Int32) => post r u.1 u.2.1 u.2.2.1 u.2.2.2) (rw_B (dC, dI) vwCl [(cA, .int)] (va_A (TSw cA a0 aR aM aW aP aS aC aO nW nE R f us P S sc li rc rn ro rd st) sz) (fun u : (Nat → Int32) × Int32 × (Nat → Int32) × Int32 => TSw cA a0 aR aM aW aP aS aC aO nW nE R f us P S sc li u.1 u.2.1 u.2.2.1 u.2.2.2 st)) (va_A (TSw cA a0 aR aM aW aP aS aC aO nW nE R f us P S sc li rc rn ro rd st) sz)) (rw_X (dC, dI) vwCl [(cA, .int)] (va_A (TSw cA a0 aR aM aW aP aS aC aO nW nE R f us P S sc li rc rn ro rd st) sz) (fun u : (Nat → Int32) × Int32 × (Nat → Int32) × Int32 => TSw cA a0 aR aM aW aP aS aC aO nW nE R f us P S sc li u.1 u.2.1 u.2.2.1 u.2.2.2 st) (fun (E : String) (u : (Nat → Int32) × Int32 × (Nat → Int32) × Int32) => px E u.1 u.2.1 u.2.2.1 u.2.2.2)) 4 24 (va_A (TSw cA a0 aR aM aW aP aS aC aO nW nE R f us P S sc li rc rn ro rd st) sz) := by
  refine vx_ofW (cc := c_T_reaches) (maxL := 3) (ret := (some .boolean)) (by decide) rfl ?_
  intro p e s m args below meth c s₁ B hml hEx hv
  obtain ⟨rfl, hsz, hP, hK, hD0, hXT⟩ := hv
  have hx := B.exec
  have hb := B.bytes
  have hr9 := B.returns
  have hts := atoms_spec (ws := ws_T_reaches) B.pre
  have hw : ∀ w ∈ WB_, w.before _ s = true := fun w h => hts w (List.mem_cons_of_mem _ h)
  have hown : s.vm.findClass R_T = some m.cls := findClass_of_methodNamed B.named
  have hlocks := B.notSynchronized
  subst hsz
  have hD := hD0.self (sz := s.heap.size)
  generalize hAe : va_A (TSw cA a0 aR aM aW aP aS aC aO nW nE R f us P S sc li rc rn ro rd st) s.heap.size = A at hD hXT ⊢
  have hA : ∀ q : Nat, s.heap.size ≤ q → A q := fun q h => by rw [← hAe]; exact Or.inr h
  have hS : va_S A s.heap s.heap [] := va_S.rf
  have hl := lv_entry ([.ref a0, .int a1, .int a2]) (n := 3) (Nat.le_of_ble_eq_true rfl)
  rw [lg_entry_eq]
  generalize (lg_sl ([.ref a0, .int a1, .int a2]) ++ List.replicate (3 - (lg_sl ([.ref a0, .int a1, .int a2])).length) Slot.unset).toArray = ls at hl ⊢
  have hl : lv_has ls 3 [(0, .ref a0), (1, .int a1), (2, .int a2)] := hl
  unfold wqT_reaches at h
  refine lv_aload_n hx hb d_T_reaches_0 rfl (lv_at hl 0 rfl) ?_
  refine lv_iload_n hx hb d_T_reaches_1 rfl (lv_at hl 1 rfl) ?_
  refine rx_callv (vx_runV (As := [.int a1]) (rest := []) ⟨hx, hb, hml, hown, hw⟩ (mT_needObject l hlT sa dC dI cA a0 aR aM aW aP aS aC aO nW nE R f us P S sc li rc rn ro rd st a1 _ _ h) (cwV 1 hw g_T_60 rfl rfl rfl (by decide +kernel) ⟨Nat.le_of_ble_eq_true rfl, Nat.le_of_ble_eq_true rfl⟩) (xo_PV (ci := 0) (q0 := 0) hK hP (xt_at hXT hS) rfl rfl) rfl rfl hl.1 rfl (lv_room (Nat.le_of_ble_eq_true rfl)) d_T_reaches_2 ⟨Nat.le_of_ble_eq_true rfl, Nat.le_of_ble_eq_true rfl⟩) (fun E9 ce q9 H1 h hz hk hce hcv hcl => ?_) (fun h => ?_)
  · exact rx_out (rc, rn, ro, rd) rfl hEx hlocks hK hP hD hS h hz hk hce hcv hcl (Nat.le_of_ble_eq_true rfl) (Nat.le_of_ble_eq_true rfl)
  · refine lv_aload_n hx hb d_T_reaches_5 rfl (lv_at hl 0 rfl) ?_
    refine lv_iload_n hx hb d_T_reaches_6 rfl (lv_at hl 2 rfl) ?_
    refine rx_callv (vx_runV (As := [.int a2]) (rest := []) ⟨hx, hb, hml, hown, hw⟩ (mT_needObject l hlT sa dC dI cA a0 aR aM aW aP aS aC aO nW nE R f us P S sc li rc rn ro rd st a2 _ _ h) (cwV 1 hw g_T_60 rfl rfl rfl (by decide +kernel) ⟨Nat.le_of_ble_eq_true rfl, Nat.le_of_ble_eq_true rfl⟩) (xo_PV (ci := 0) (q0 := 0) hK hP (xt_at hXT hS) rfl rfl) rfl rfl hl.1 rfl (lv_room (Nat.le_of_ble_eq_true rfl)) d_T_reaches_7 ⟨Nat.le_of_ble_eq_true rfl, Nat.le_of_ble_eq_true rfl⟩) (fun E9 ce q9 H1 h hz hk hce hcv hcl => ?_) (fun h => ?_)
    · exact rx_out (rc, rn, ro, rd) rfl hEx hlocks hK hP hD hS h hz hk hce hcv hcl (Nat.le_of_ble_eq_true rfl) (Nat.le_of_ble_eq_true rfl)
    · refine lv_aload_n hx hb d_T_reaches_10 rfl (lv_at hl 0 rfl) ?_
      refine va_get (D := (dC, dI)) (ci := 0) (v := .ref aM) (C := R_T) (T := T_T) (N := 2) hx hb hw in_T hown hK hP 0 rfl rfl 1 (by decide) (hw _ wd_104) (fun _ h9 => h9) rfl d_T_reaches_11 ?_
      refine lv_aload_n hx hb d_T_reaches_14 rfl (lv_at hl 0 rfl) ?_
      refine va_get (D := (dC, dI)) (ci := 0) (v := .ref aR) (C := R_T) (T := T_T) (N := 2) hx hb hw in_T hown hK hP 0 rfl rfl 0 (by decide) (hw _ wd_103) (fun _ h9 => h9) rfl d_T_reaches_15 ?_
      refine lv_iload_n hx hb d_T_reaches_18 rfl (lv_at hl 1 rfl) ?_
      refine va_iald hx hb hK hP 1 0 rfl rfl h.1 d_T_reaches_19 ?_
      have h := h.2
      refine lv_aload_n hx hb d_T_reaches_20 rfl (lv_at hl 0 rfl) ?_
      refine va_get (D := (dC, dI)) (ci := 0) (v := .ref aR) (C := R_T) (T := T_T) (N := 2) hx hb hw in_T hown hK hP 0 rfl rfl 0 (by decide) (hw _ wd_103) (fun _ h9 => h9) rfl d_T_reaches_21 ?_
      refine lv_iload_n hx hb d_T_reaches_24 rfl (lv_at hl 2 rfl) ?_
      refine va_iald hx hb hK hP 1 0 rfl rfl h.1 d_T_reaches_25 ?_
      have h := h.2
      have hFc := va_free (wc := TSw cA a0 aR aM aW aP aS aC aO nW nE R f us P S sc li rc rn ro rd st) hD hS hA [0, 1, 2, 3, 4, 5, 6, 7] rfl
      refine va_calli (va_runV (As := [.int (R a1.toNatClampNeg), .int (R a2.toNatClampNeg)]) (rest := []) ⟨hx, hb, hml, hown, hw⟩ (mM_leadsTo l dC dI cA a0 aR aM aW aP aS aC aO nW nE s.heap.size R f us P S sc li rc rn ro rd st (R a1.toNatClampNeg) (R a2.toNatClampNeg) _ h) (cwV 2 hw g_T_145 rfl rfl rfl (by decide +kernel) ⟨Nat.le_of_ble_eq_true rfl, Nat.le_of_ble_eq_true rfl⟩) (rw_PV (ci := 1) (q0 := 2) hK hP hD rfl rfl) rfl rfl hl.1 rfl (lv_room (Nat.le_of_ble_eq_true rfl)) d_T_reaches_26 ⟨Nat.le_of_ble_eq_true rfl, Nat.le_of_ble_eq_true rfl⟩) hS (fun q _ h => hFc q h) hFc (fun r26 u t H locs ht hvm h hB hz1 hk1 hS => ?_)
      obtain ⟨rc_26, rn_26, ro_26, rd_26⟩ := u
      obtain ⟨hP, hK1, hD1⟩ := hB
      rw [ht] at hP
      have hD := hD1.weaken (fun _ _ _ q => hFc _ q)
      clear hFc hD1 hK1
      try dsimp only at h
      have hP : va_P (dC, dI) vwCl (TSw cA a0 aR aM aW aP aS aC aO nW nE R f us P S sc li rc_26 rn_26 ro_26 rd_26 st) H := hP
      have hD : va_D A (TSw cA a0 aR aM aW aP aS aC aO nW nE R f us P S sc li rc_26 rn_26 ro_26 rd_26 st) := hD
      refine W.widen (k := 4) (n := 24) (Nat.le_of_ble_eq_true rfl) (Nat.le_of_ble_eq_true rfl) ?_
      exact vx_ret (W.zret (v := r26) (ty := .boolean) hx hb hr9 h.1 (fun t ht hW => ⟨⟨_, (rc_26, rn_26, ro_26, rd_26), rfl, h.2, by rw [ht]; exact hP, va_K.moved hW.alike hK, hD⟩, hS.F ht⟩) hS.2.2 d_T_reaches_29)
def wqT_sum (nW : Nat) (nE : Nat) (R : Nat → Int32) (f : Nat → Int32) (P : Nat → Int32) (a1 : Int32) (post : Int32 → Prop) (px : String → Prop) : Prop :=
  wqT_needRegister a1 (vp_in a1 32 ∧ (wqM_holdsBytes nW nE f P (R a1.toNatClampNeg) (fun r16 => (r16 = 0 → (post (0 : Int32))) ∧ (¬ (r16 = 0) → (wqM_sumOfBytes nW nE f P (R a1.toNatClampNeg) (fun r27 => post r27)))))) (fun E => px E)
set_option maxHeartbeats 4000000 in
set_option maxRecDepth 100000 in
theorem mT_sum (l : Launch) (hlT : l.stackTraces = false) (sa : Nat → Nat) (dC : Nat → ClassId) (dI : Nat → Nat → Nat) (cA : ClassId) (a0 : Nat) (aR : Nat) (aM : Nat) (aW : Nat) (aP : Nat) (aS : Nat) (aC : Nat) (aO : Nat) (nW : Nat) (nE : Nat) (sz : Nat) (R : Nat → Int32) (f : Nat → Int32) (us : Int32) (P : Nat → Int32) (S : Nat → Int32) (sc : Int32) (li : Int32) (rc : Nat → Int32) (rn : Int32) (ro : Nat → Int32) (rd : Int32) (st : Int32) (a1 : Int32) (post : Int32 → Prop) (px : String → Prop) (h : wqT_sum nW nE R f P a1 post px) : vx_Met l y_T_sum ws_T_sum ({ frames := 7, cells := 1, slots := 6, locals := 120 }) (xw_P (dC, dI) vwCl (TSw cA a0 aR aM aW aP aS aC aO nW nE R f us P S sc li rc rn ro rd st) [(cA, .int)] sz sa [.ref a0, .int a1]) (va_Qi (fun (r : Int32) (u : Unit) => post r) (rw_B (dC, dI) vwCl [(cA, .int)] (va_A (TSw cA a0 aR aM aW aP aS aC aO nW nE R f us P S sc li rc rn ro rd st) sz) (fun u : Unit => TSw cA a0 aR aM aW aP aS aC aO nW nE R f us P S sc li rc rn ro rd st)) (va_A (TSw cA a0 aR aM aW aP aS aC aO nW nE R f us P S sc li rc rn ro rd st) sz)) (rw_X (dC, dI) vwCl [(cA, .int)] (va_A (TSw cA a0 aR aM aW aP aS aC aO nW nE R f us P S sc li rc rn ro rd st) sz) (fun u : Unit => TSw cA a0 aR aM aW aP aS aC aO nW nE R f us P S sc li rc rn ro rd st) (fun (E : String) (u : Unit) => px E)) 1 6 (va_A (TSw cA a0 aR aM aW aP aS aC aO nW nE R f us P S sc li rc rn ro rd st) sz) := by
  refine vx_ofW (cc := c_T_sum) (maxL := 3) (ret := (some .int)) (by decide) rfl ?_
  intro p e s m args below meth c s₁ B hml hEx hv
  obtain ⟨rfl, hsz, hP, hK, hD0, hXT⟩ := hv
  have hx := B.exec
  have hb := B.bytes
  have hr9 := B.returns
  have hts := atoms_spec (ws := ws_T_sum) B.pre
  have hw : ∀ w ∈ WB_, w.before _ s = true := fun w h => hts w (List.mem_cons_of_mem _ h)
  have hown : s.vm.findClass R_T = some m.cls := findClass_of_methodNamed B.named
  have hlocks := B.notSynchronized
  subst hsz
  have hD := hD0.self (sz := s.heap.size)
  generalize hAe : va_A (TSw cA a0 aR aM aW aP aS aC aO nW nE R f us P S sc li rc rn ro rd st) s.heap.size = A at hD hXT ⊢
  have hA : ∀ q : Nat, s.heap.size ≤ q → A q := fun q h => by rw [← hAe]; exact Or.inr h
  have hS : va_S A s.heap s.heap [] := va_S.rf
  have hl := lv_entry ([.ref a0, .int a1]) (n := 3) (Nat.le_of_ble_eq_true rfl)
  rw [lg_entry_eq]
  generalize (lg_sl ([.ref a0, .int a1]) ++ List.replicate (3 - (lg_sl ([.ref a0, .int a1])).length) Slot.unset).toArray = ls at hl ⊢
  have hl : lv_has ls 3 [(0, .ref a0), (1, .int a1)] := hl
  unfold wqT_sum at h
  refine lv_iload_n hx hb d_T_sum_0 rfl (lv_at hl 1 rfl) ?_
  refine rx_callv (vx_runS (As := [.int a1]) (rest := []) ⟨hx, hb, hml, hown, hw⟩ (mT_needRegister l hlT sa a1 _ _ h) (va_cwS 1 hw g_T_27 rfl rfl rfl (by decide +kernel) ⟨Nat.le_of_ble_eq_true rfl, Nat.le_of_ble_eq_true rfl⟩) (xs_PS (xt_at hXT hS)) rfl rfl hl.1 rfl (lv_room (Nat.le_of_ble_eq_true rfl)) d_T_sum_1 ⟨Nat.le_of_ble_eq_true rfl, Nat.le_of_ble_eq_true rfl⟩) (fun E9 ce q9 H1 h hz hk hce hcv hcl => ?_) (fun h => ?_)
  · exact rx_out () rfl hEx hlocks hK hP hD hS h hz hk hce hcv hcl (Nat.le_of_ble_eq_true rfl) (Nat.le_of_ble_eq_true rfl)
  · refine lv_aload_n hx hb d_T_sum_4 rfl (lv_at hl 0 rfl) ?_
    refine va_get (D := (dC, dI)) (ci := 0) (v := .ref aR) (C := R_T) (T := T_T) (N := 2) hx hb hw in_T hown hK hP 0 rfl rfl 0 (by decide) (hw _ wd_103) (fun _ h9 => h9) rfl d_T_sum_5 ?_
    refine lv_iload_n hx hb d_T_sum_8 rfl (lv_at hl 1 rfl) ?_
    refine va_iald hx hb hK hP 1 0 rfl rfl h.1 d_T_sum_9 ?_
    have h := h.2
    refine lv_istore_n (lv' := [(2, .int (R a1.toNatClampNeg)), (0, .ref a0), (1, .int a1)]) hx hb d_T_sum_10 rfl hl (by decide) rfl (fun ls hl => ?_)
    refine lv_aload_n hx hb d_T_sum_11 rfl (lv_at hl 1 rfl) ?_
    refine va_get (D := (dC, dI)) (ci := 0) (v := .ref aM) (C := R_T) (T := T_T) (N := 2) hx hb hw in_T hown hK hP 0 rfl rfl 1 (by decide) (hw _ wd_104) (fun _ h9 => h9) rfl d_T_sum_12 ?_
    refine lv_iload_n hx hb d_T_sum_15 rfl (lv_at hl 0 rfl) ?_
    refine rq_calli (W.runV (As := [.int (R a1.toNatClampNeg)]) (rest := []) ⟨hx, hb, hml, hown, hw⟩ (mM_holdsBytes l dC dI cA a0 aR aM aW aP aS aC aO nW nE R f us P S sc li rc rn ro rd st (R a1.toNatClampNeg) _ h) (cwV 1 hw g_T_148 rfl rfl rfl (by decide +kernel) ⟨Nat.le_of_ble_eq_true rfl, Nat.le_of_ble_eq_true rfl⟩) (ro_PV (ci := 1) (q0 := 2) hK hP rfl rfl) rfl rfl hl.1 rfl (lv_room (Nat.le_of_ble_eq_true rfl)) d_T_sum_16 ⟨Nat.le_of_ble_eq_true rfl, Nat.le_of_ble_eq_true rfl⟩) (fun r16 h => ?_)
    refine lv_if_eq (tgt := 33) hx hb d_T_sum_19 (by decide) (fun c_19 => ?_) (fun c_19 => ?_)
    · have h := h.1 c_19
      refine lv_iconst (v := (0 : Int32)) hx hb d_T_sum_33 (by decide) ?_
      refine W.widen (k := 1) (n := 6) (Nat.le_of_ble_eq_true rfl) (Nat.le_of_ble_eq_true rfl) ?_
      exact vx_ret (W.iret (v := (0 : Int32)) hx hb hr9 (fun t ht hW => ⟨⟨_, (), rfl, h, by rw [ht]; exact hP, va_K.moved hW.alike hK, hD⟩, hS.F ht⟩) hS.2.2 d_T_sum_34)
    · have h := h.2 c_19
      refine lv_aload_n hx hb d_T_sum_22 rfl (lv_at hl 1 rfl) ?_
      refine va_get (D := (dC, dI)) (ci := 0) (v := .ref aM) (C := R_T) (T := T_T) (N := 2) hx hb hw in_T hown hK hP 0 rfl rfl 1 (by decide) (hw _ wd_104) (fun _ h9 => h9) rfl d_T_sum_23 ?_
      refine lv_iload_n hx hb d_T_sum_26 rfl (lv_at hl 0 rfl) ?_
      refine rq_calli (W.runV (As := [.int (R a1.toNatClampNeg)]) (rest := []) ⟨hx, hb, hml, hown, hw⟩ (mM_sumOfBytes l dC dI cA a0 aR aM aW aP aS aC aO nW nE R f us P S sc li rc rn ro rd st (R a1.toNatClampNeg) _ h) (cwV 1 hw g_T_151 rfl rfl rfl (by decide +kernel) ⟨Nat.le_of_ble_eq_true rfl, Nat.le_of_ble_eq_true rfl⟩) (ro_PV (ci := 1) (q0 := 2) hK hP rfl rfl) rfl rfl hl.1 rfl (lv_room (Nat.le_of_ble_eq_true rfl)) d_T_sum_27 ⟨Nat.le_of_ble_eq_true rfl, Nat.le_of_ble_eq_true rfl⟩) (fun r27 h => ?_)
      refine lv_goto (tgt := 34) hx hb d_T_sum_30 (by decide) ?_
      refine W.widen (k := 1) (n := 6) (Nat.le_of_ble_eq_true rfl) (Nat.le_of_ble_eq_true rfl) ?_
      exact vx_ret (W.iret (v := r27) hx hb hr9 (fun t ht hW => ⟨⟨_, (), rfl, h, by rw [ht]; exact hP, va_K.moved hW.alike hK, hD⟩, hS.F ht⟩) hS.2.2 d_T_sum_34)

def wqV_ofNumber (a1 : Int32) (post : Int32 → Prop) : Prop :=
  post (((2 : Int32) * a1) + (1 : Int32))
set_option maxHeartbeats 4000000 in
set_option maxRecDepth 100000 in
theorem mV_ofNumber (l : Launch) (a1 : Int32) (post : Int32 → Prop) (h : wqV_ofNumber a1 post) : Met l y_V_ofNumber ws_V_ofNumber ({ frames := 0, cells := 0, slots := 0, locals := 0 }) (fun v _ => v = ([.int a1] : List Value).toArray) (rq_i post) 0 0 (fun _ => False) := by
  refine Met.ofW (cc := c_V_ofNumber) (maxL := 1) (ret := (some .int)) (by decide) rfl ?_
  intro p e s m args below meth c s₁ B hml hv
  subst hv
  have hx := B.exec
  have hb := B.bytes
  have hr9 := B.returns
  have hts := atoms_spec (ws := ws_V_ofNumber) B.pre
  have hw : ∀ w ∈ WB_, w.before _ s = true := fun w h => hts w (List.mem_cons_of_mem _ h)
  have hown : s.vm.findClass R_V = some m.cls := findClass_of_methodNamed B.named
  have hlocks := B.notSynchronized
  have hl := lv_entry ([.int a1]) (n := 1) (Nat.le_of_ble_eq_true rfl)
  rw [lg_entry_eq]
  generalize (lg_sl ([.int a1]) ++ List.replicate (1 - (lg_sl ([.int a1])).length) Slot.unset).toArray = ls at hl ⊢
  have hl : lv_has ls 1 [(0, .int a1)] := hl
  unfold wqV_ofNumber at h
  refine lv_iconst (v := (2 : Int32)) hx hb d_V_ofNumber_0 (by decide) ?_
  refine lv_iload_n hx hb d_V_ofNumber_1 rfl (lv_at hl 0 rfl) ?_
  refine lv_imul hx hb d_V_ofNumber_2 ?_
  refine lv_iconst (v := (1 : Int32)) hx hb d_V_ofNumber_3 (by decide) ?_
  refine lv_iadd hx hb d_V_ofNumber_4 ?_
  exact W.iret (v := ((2 : Int32) * a1) + (1 : Int32)) hx hb hr9 (fun t ht hW => ⟨_, rfl, h, ht⟩) (fun _ h9 => nomatch h9) d_V_ofNumber_5
def wqV_ofEntry (a1 : Int32) (post : Int32 → Prop) : Prop :=
  post (((2 : Int32) * a1) + (2 : Int32))
set_option maxHeartbeats 4000000 in
set_option maxRecDepth 100000 in
theorem mV_ofEntry (l : Launch) (a1 : Int32) (post : Int32 → Prop) (h : wqV_ofEntry a1 post) : Met l y_V_ofEntry ws_V_ofEntry ({ frames := 0, cells := 0, slots := 0, locals := 0 }) (fun v _ => v = ([.int a1] : List Value).toArray) (rq_i post) 0 0 (fun _ => False) := by
  refine Met.ofW (cc := c_V_ofEntry) (maxL := 1) (ret := (some .int)) (by decide) rfl ?_
  intro p e s m args below meth c s₁ B hml hv
  subst hv
  have hx := B.exec
  have hb := B.bytes
  have hr9 := B.returns
  have hts := atoms_spec (ws := ws_V_ofEntry) B.pre
  have hw : ∀ w ∈ WB_, w.before _ s = true := fun w h => hts w (List.mem_cons_of_mem _ h)
  have hown : s.vm.findClass R_V = some m.cls := findClass_of_methodNamed B.named
  have hlocks := B.notSynchronized
  have hl := lv_entry ([.int a1]) (n := 1) (Nat.le_of_ble_eq_true rfl)
  rw [lg_entry_eq]
  generalize (lg_sl ([.int a1]) ++ List.replicate (1 - (lg_sl ([.int a1])).length) Slot.unset).toArray = ls at hl ⊢
  have hl : lv_has ls 1 [(0, .int a1)] := hl
  unfold wqV_ofEntry at h
  refine lv_iconst (v := (2 : Int32)) hx hb d_V_ofEntry_0 (by decide) ?_
  refine lv_iload_n hx hb d_V_ofEntry_1 rfl (lv_at hl 0 rfl) ?_
  refine lv_imul hx hb d_V_ofEntry_2 ?_
  refine lv_iconst (v := (2 : Int32)) hx hb d_V_ofEntry_3 (by decide) ?_
  refine lv_iadd hx hb d_V_ofEntry_4 ?_
  exact W.iret (v := ((2 : Int32) * a1) + (2 : Int32)) hx hb hr9 (fun t ht hW => ⟨_, rfl, h, ht⟩) (fun _ h9 => nomatch h9) d_V_ofEntry_5
def wqV_isNumber (a1 : Int32) (post : Int32 → Prop) : Prop :=
  ((a1 &&& (1 : Int32)) = 0 → (post (0 : Int32))) ∧ (¬ ((a1 &&& (1 : Int32)) = 0) → (post (1 : Int32)))
set_option maxHeartbeats 4000000 in
set_option maxRecDepth 100000 in
theorem mV_isNumber (l : Launch) (a1 : Int32) (post : Int32 → Prop) (h : wqV_isNumber a1 post) : Met l y_V_isNumber ws_V_isNumber ({ frames := 0, cells := 0, slots := 0, locals := 0 }) (fun v _ => v = ([.int a1] : List Value).toArray) (rq_i post) 0 0 (fun _ => False) := by
  refine Met.ofW (cc := c_V_isNumber) (maxL := 1) (ret := (some .boolean)) (by decide) rfl ?_
  intro p e s m args below meth c s₁ B hml hv
  subst hv
  have hx := B.exec
  have hb := B.bytes
  have hr9 := B.returns
  have hts := atoms_spec (ws := ws_V_isNumber) B.pre
  have hw : ∀ w ∈ WB_, w.before _ s = true := fun w h => hts w (List.mem_cons_of_mem _ h)
  have hown : s.vm.findClass R_V = some m.cls := findClass_of_methodNamed B.named
  have hlocks := B.notSynchronized
  have hl := lv_entry ([.int a1]) (n := 1) (Nat.le_of_ble_eq_true rfl)
  rw [lg_entry_eq]
  generalize (lg_sl ([.int a1]) ++ List.replicate (1 - (lg_sl ([.int a1])).length) Slot.unset).toArray = ls at hl ⊢
  have hl : lv_has ls 1 [(0, .int a1)] := hl
  unfold wqV_isNumber at h
  refine lv_iload_n hx hb d_V_isNumber_0 rfl (lv_at hl 0 rfl) ?_
  refine lv_iconst (v := (1 : Int32)) hx hb d_V_isNumber_1 (by decide) ?_
  refine lv_iand hx hb d_V_isNumber_2 ?_
  refine lv_if_eq (tgt := 10) hx hb d_V_isNumber_3 (by decide) (fun c_3 => ?_) (fun c_3 => ?_)
  · have h := h.1 c_3
    refine lv_iconst (v := (0 : Int32)) hx hb d_V_isNumber_10 (by decide) ?_
    exact W.zret (v := (0 : Int32)) (ty := .boolean) hx hb hr9 rfl (fun t ht hW => ⟨_, rfl, h, ht⟩) (fun _ h9 => nomatch h9) d_V_isNumber_11
  · have h := h.2 c_3
    refine lv_iconst (v := (1 : Int32)) hx hb d_V_isNumber_6 (by decide) ?_
    refine lv_goto (tgt := 11) hx hb d_V_isNumber_7 (by decide) ?_
    exact W.zret (v := (1 : Int32)) (ty := .boolean) hx hb hr9 rfl (fun t ht hW => ⟨_, rfl, h, ht⟩) (fun _ h9 => nomatch h9) d_V_isNumber_11
def wqV_isObject (a1 : Int32) (post : Int32 → Prop) : Prop :=
  (a1 = 0 → (post (0 : Int32))) ∧ (¬ (a1 = 0) → (wqV_isNumber a1 (fun r5 => (r5 = 0 → (post (1 : Int32))) ∧ (¬ (r5 = 0) → (post (0 : Int32))))))
set_option maxHeartbeats 4000000 in
set_option maxRecDepth 100000 in
theorem mV_isObject (l : Launch) (a1 : Int32) (post : Int32 → Prop) (h : wqV_isObject a1 post) : Met l y_V_isObject ws_V_isObject ({ frames := 1, cells := 0, slots := 0, locals := 20 }) (fun v _ => v = ([.int a1] : List Value).toArray) (rq_i post) 0 0 (fun _ => False) := by
  refine Met.ofW (cc := c_V_isObject) (maxL := 1) (ret := (some .boolean)) (by decide) rfl ?_
  intro p e s m args below meth c s₁ B hml hv
  subst hv
  have hx := B.exec
  have hb := B.bytes
  have hr9 := B.returns
  have hts := atoms_spec (ws := ws_V_isObject) B.pre
  have hw : ∀ w ∈ WB_, w.before _ s = true := fun w h => hts w (List.mem_cons_of_mem _ h)
  have hown : s.vm.findClass R_V = some m.cls := findClass_of_methodNamed B.named
  have hlocks := B.notSynchronized
  have hl := lv_entry ([.int a1]) (n := 1) (Nat.le_of_ble_eq_true rfl)
  rw [lg_entry_eq]
  generalize (lg_sl ([.int a1]) ++ List.replicate (1 - (lg_sl ([.int a1])).length) Slot.unset).toArray = ls at hl ⊢
  have hl : lv_has ls 1 [(0, .int a1)] := hl
  unfold wqV_isObject at h
  refine lv_iload_n hx hb d_V_isObject_0 rfl (lv_at hl 0 rfl) ?_
  refine lv_if_eq (tgt := 15) hx hb d_V_isObject_1 (by decide) (fun c_1 => ?_) (fun c_1 => ?_)
  · have h := h.1 c_1
    refine lv_iconst (v := (0 : Int32)) hx hb d_V_isObject_15 (by decide) ?_
    exact W.zret (v := (0 : Int32)) (ty := .boolean) hx hb hr9 rfl (fun t ht hW => ⟨_, rfl, h, ht⟩) (fun _ h9 => nomatch h9) d_V_isObject_16
  · have h := h.2 c_1
    refine lv_iload_n hx hb d_V_isObject_4 rfl (lv_at hl 0 rfl) ?_
    refine rq_calli (W.runS (As := [.int a1]) (rest := []) ⟨hx, hb, hml, hown, hw⟩ (mV_isNumber l a1 _ h) (va_cwS 1 hw g_V_7 rfl rfl rfl (by decide +kernel) ⟨Nat.le_of_ble_eq_true rfl, Nat.le_of_ble_eq_true rfl⟩) preEq rfl rfl hl.1 rfl (lv_room (Nat.le_of_ble_eq_true rfl)) d_V_isObject_5 ⟨Nat.le_of_ble_eq_true rfl, Nat.le_of_ble_eq_true rfl⟩) (fun r5 h => ?_)
    refine lv_if_ne (tgt := 15) hx hb d_V_isObject_8 (by decide) (fun c_8 => ?_) (fun c_8 => ?_)
    · have h := h.2 c_8
      refine lv_iconst (v := (0 : Int32)) hx hb d_V_isObject_15 (by decide) ?_
      exact W.zret (v := (0 : Int32)) (ty := .boolean) hx hb hr9 rfl (fun t ht hW => ⟨_, rfl, h, ht⟩) (fun _ h9 => nomatch h9) d_V_isObject_16
    · have h := h.1 c_8
      refine lv_iconst (v := (1 : Int32)) hx hb d_V_isObject_11 (by decide) ?_
      refine lv_goto (tgt := 16) hx hb d_V_isObject_12 (by decide) ?_
      exact W.zret (v := (1 : Int32)) (ty := .boolean) hx hb hr9 rfl (fun t ht hW => ⟨_, rfl, h, ht⟩) (fun _ h9 => nomatch h9) d_V_isObject_16
def wqV_toNumber (a1 : Int32) (post : Int32 → Prop) : Prop :=
  post (a1 >>> ((1 : Int32) &&& 31))
set_option maxHeartbeats 4000000 in
set_option maxRecDepth 100000 in
theorem mV_toNumber (l : Launch) (a1 : Int32) (post : Int32 → Prop) (h : wqV_toNumber a1 post) : Met l y_V_toNumber ws_V_toNumber ({ frames := 0, cells := 0, slots := 0, locals := 0 }) (fun v _ => v = ([.int a1] : List Value).toArray) (rq_i post) 0 0 (fun _ => False) := by
  refine Met.ofW (cc := c_V_toNumber) (maxL := 1) (ret := (some .int)) (by decide) rfl ?_
  intro p e s m args below meth c s₁ B hml hv
  subst hv
  have hx := B.exec
  have hb := B.bytes
  have hr9 := B.returns
  have hts := atoms_spec (ws := ws_V_toNumber) B.pre
  have hw : ∀ w ∈ WB_, w.before _ s = true := fun w h => hts w (List.mem_cons_of_mem _ h)
  have hown : s.vm.findClass R_V = some m.cls := findClass_of_methodNamed B.named
  have hlocks := B.notSynchronized
  have hl := lv_entry ([.int a1]) (n := 1) (Nat.le_of_ble_eq_true rfl)
  rw [lg_entry_eq]
  generalize (lg_sl ([.int a1]) ++ List.replicate (1 - (lg_sl ([.int a1])).length) Slot.unset).toArray = ls at hl ⊢
  have hl : lv_has ls 1 [(0, .int a1)] := hl
  unfold wqV_toNumber at h
  refine lv_iload_n hx hb d_V_toNumber_0 rfl (lv_at hl 0 rfl) ?_
  refine lv_iconst (v := (1 : Int32)) hx hb d_V_toNumber_1 (by decide) ?_
  refine lv_ishr hx hb d_V_toNumber_2 ?_
  exact W.iret (v := a1 >>> ((1 : Int32) &&& 31)) hx hb hr9 (fun t ht hW => ⟨_, rfl, h, ht⟩) (fun _ h9 => nomatch h9) d_V_toNumber_3
def wqV_toEntry (a1 : Int32) (post : Int32 → Prop) : Prop :=
  post ((a1 >>> ((1 : Int32) &&& 31)) - (1 : Int32))
set_option maxHeartbeats 4000000 in
set_option maxRecDepth 100000 in
theorem mV_toEntry (l : Launch) (a1 : Int32) (post : Int32 → Prop) (h : wqV_toEntry a1 post) : Met l y_V_toEntry ws_V_toEntry ({ frames := 0, cells := 0, slots := 0, locals := 0 }) (fun v _ => v = ([.int a1] : List Value).toArray) (rq_i post) 0 0 (fun _ => False) := by
  refine Met.ofW (cc := c_V_toEntry) (maxL := 1) (ret := (some .int)) (by decide) rfl ?_
  intro p e s m args below meth c s₁ B hml hv
  subst hv
  have hx := B.exec
  have hb := B.bytes
  have hr9 := B.returns
  have hts := atoms_spec (ws := ws_V_toEntry) B.pre
  have hw : ∀ w ∈ WB_, w.before _ s = true := fun w h => hts w (List.mem_cons_of_mem _ h)
  have hown : s.vm.findClass R_V = some m.cls := findClass_of_methodNamed B.named
  have hlocks := B.notSynchronized
  have hl := lv_entry ([.int a1]) (n := 1) (Nat.le_of_ble_eq_true rfl)
  rw [lg_entry_eq]
  generalize (lg_sl ([.int a1]) ++ List.replicate (1 - (lg_sl ([.int a1])).length) Slot.unset).toArray = ls at hl ⊢
  have hl : lv_has ls 1 [(0, .int a1)] := hl
  unfold wqV_toEntry at h
  refine lv_iload_n hx hb d_V_toEntry_0 rfl (lv_at hl 0 rfl) ?_
  refine lv_iconst (v := (1 : Int32)) hx hb d_V_toEntry_1 (by decide) ?_
  refine lv_ishr hx hb d_V_toEntry_2 ?_
  refine lv_iconst (v := (1 : Int32)) hx hb d_V_toEntry_3 (by decide) ?_
  refine lv_isub hx hb d_V_toEntry_4 ?_
  exact W.iret (v := (a1 >>> ((1 : Int32) &&& 31)) - (1 : Int32)) hx hb hr9 (fun t ht hW => ⟨_, rfl, h, ht⟩) (fun _ h9 => nomatch h9) d_V_toEntry_5
def wqM_shape (a1 : Int32) (a2 : Int32) (post : Int32 → Prop) : Prop :=
  (a2 = 0 → (post (((2 : Int32) * a1) + (1 : Int32)))) ∧ (¬ (a2 = 0) → (post ((2 : Int32) * a1)))
set_option maxHeartbeats 4000000 in
set_option maxRecDepth 100000 in
theorem mM_shape (l : Launch) (a1 : Int32) (a2 : Int32) (post : Int32 → Prop) (h : wqM_shape a1 a2 post) : Met l y_M_shape ws_M_shape ({ frames := 0, cells := 0, slots := 0, locals := 0 }) (fun v _ => v = ([.int a1, .int a2] : List Value).toArray) (rq_i post) 0 0 (fun _ => False) := by
  refine Met.ofW (cc := c_M_shape) (maxL := 2) (ret := (some .int)) (by decide) rfl ?_
  intro p e s m args below meth c s₁ B hml hv
  subst hv
  have hx := B.exec
  have hb := B.bytes
  have hr9 := B.returns
  have hts := atoms_spec (ws := ws_M_shape) B.pre
  have hw : ∀ w ∈ WB_, w.before _ s = true := fun w h => hts w (List.mem_cons_of_mem _ h)
  have hown : s.vm.findClass R_M = some m.cls := findClass_of_methodNamed B.named
  have hlocks := B.notSynchronized
  have hl := lv_entry ([.int a1, .int a2]) (n := 2) (Nat.le_of_ble_eq_true rfl)
  rw [lg_entry_eq]
  generalize (lg_sl ([.int a1, .int a2]) ++ List.replicate (2 - (lg_sl ([.int a1, .int a2])).length) Slot.unset).toArray = ls at hl ⊢
  have hl : lv_has ls 2 [(0, .int a1), (1, .int a2)] := hl
  unfold wqM_shape at h
  refine lv_iload_n hx hb d_M_shape_0 rfl (lv_at hl 1 rfl) ?_
  refine lv_if_eq (tgt := 10) hx hb d_M_shape_1 (by decide) (fun c_1 => ?_) (fun c_1 => ?_)
  · have h := h.1 c_1
    refine lv_iconst (v := (2 : Int32)) hx hb d_M_shape_10 (by decide) ?_
    refine lv_iload_n hx hb d_M_shape_11 rfl (lv_at hl 0 rfl) ?_
    refine lv_imul hx hb d_M_shape_12 ?_
    refine lv_iconst (v := (1 : Int32)) hx hb d_M_shape_13 (by decide) ?_
    refine lv_iadd hx hb d_M_shape_14 ?_
    exact W.iret (v := ((2 : Int32) * a1) + (1 : Int32)) hx hb hr9 (fun t ht hW => ⟨_, rfl, h, ht⟩) (fun _ h9 => nomatch h9) d_M_shape_15
  · have h := h.2 c_1
    refine lv_iconst (v := (2 : Int32)) hx hb d_M_shape_4 (by decide) ?_
    refine lv_iload_n hx hb d_M_shape_5 rfl (lv_at hl 0 rfl) ?_
    refine lv_imul hx hb d_M_shape_6 ?_
    refine lv_goto (tgt := 15) hx hb d_M_shape_7 (by decide) ?_
    exact W.iret (v := (2 : Int32) * a1) hx hb hr9 (fun t ht hW => ⟨_, rfl, h, ht⟩) (fun _ h9 => nomatch h9) d_M_shape_15
def wqM_isOfBytes (a1 : Int32) (post : Int32 → Prop) : Prop :=
  ((a1 &&& (1 : Int32)) = 0 → (post (0 : Int32))) ∧ (¬ ((a1 &&& (1 : Int32)) = 0) → (post (1 : Int32)))
set_option maxHeartbeats 4000000 in
set_option maxRecDepth 100000 in
theorem mM_isOfBytes (l : Launch) (a1 : Int32) (post : Int32 → Prop) (h : wqM_isOfBytes a1 post) : Met l y_M_isOfBytes ws_M_isOfBytes ({ frames := 0, cells := 0, slots := 0, locals := 0 }) (fun v _ => v = ([.int a1] : List Value).toArray) (rq_i post) 0 0 (fun _ => False) := by
  refine Met.ofW (cc := c_M_isOfBytes) (maxL := 1) (ret := (some .boolean)) (by decide) rfl ?_
  intro p e s m args below meth c s₁ B hml hv
  subst hv
  have hx := B.exec
  have hb := B.bytes
  have hr9 := B.returns
  have hts := atoms_spec (ws := ws_M_isOfBytes) B.pre
  have hw : ∀ w ∈ WB_, w.before _ s = true := fun w h => hts w (List.mem_cons_of_mem _ h)
  have hown : s.vm.findClass R_M = some m.cls := findClass_of_methodNamed B.named
  have hlocks := B.notSynchronized
  have hl := lv_entry ([.int a1]) (n := 1) (Nat.le_of_ble_eq_true rfl)
  rw [lg_entry_eq]
  generalize (lg_sl ([.int a1]) ++ List.replicate (1 - (lg_sl ([.int a1])).length) Slot.unset).toArray = ls at hl ⊢
  have hl : lv_has ls 1 [(0, .int a1)] := hl
  unfold wqM_isOfBytes at h
  refine lv_iload_n hx hb d_M_isOfBytes_0 rfl (lv_at hl 0 rfl) ?_
  refine lv_iconst (v := (1 : Int32)) hx hb d_M_isOfBytes_1 (by decide) ?_
  refine lv_iand hx hb d_M_isOfBytes_2 ?_
  refine lv_if_eq (tgt := 10) hx hb d_M_isOfBytes_3 (by decide) (fun c_3 => ?_) (fun c_3 => ?_)
  · have h := h.1 c_3
    refine lv_iconst (v := (0 : Int32)) hx hb d_M_isOfBytes_10 (by decide) ?_
    exact W.zret (v := (0 : Int32)) (ty := .boolean) hx hb hr9 rfl (fun t ht hW => ⟨_, rfl, h, ht⟩) (fun _ h9 => nomatch h9) d_M_isOfBytes_11
  · have h := h.2 c_3
    refine lv_iconst (v := (1 : Int32)) hx hb d_M_isOfBytes_6 (by decide) ?_
    refine lv_goto (tgt := 11) hx hb d_M_isOfBytes_7 (by decide) ?_
    exact W.zret (v := (1 : Int32)) (ty := .boolean) hx hb hr9 rfl (fun t ht hW => ⟨_, rfl, h, ht⟩) (fun _ h9 => nomatch h9) d_M_isOfBytes_11
def wqM_bodyWords (a1 : Int32) (post : Int32 → Prop) : Prop :=
  wqM_isOfBytes a1 (fun r5 => (r5 = 0 → (post (a1 >>> ((1 : Int32) &&& 31)))) ∧ (¬ (r5 = 0) → (post (((a1 >>> ((1 : Int32) &&& 31)) + (3 : Int32)) >>> ((2 : Int32) &&& 31)))))
set_option maxHeartbeats 4000000 in
set_option maxRecDepth 100000 in
theorem mM_bodyWords (l : Launch) (a1 : Int32) (post : Int32 → Prop) (h : wqM_bodyWords a1 post) : Met l y_M_bodyWords ws_M_bodyWords ({ frames := 1, cells := 0, slots := 0, locals := 20 }) (fun v _ => v = ([.int a1] : List Value).toArray) (rq_i post) 0 0 (fun _ => False) := by
  refine Met.ofW (cc := c_M_bodyWords) (maxL := 2) (ret := (some .int)) (by decide) rfl ?_
  intro p e s m args below meth c s₁ B hml hv
  subst hv
  have hx := B.exec
  have hb := B.bytes
  have hr9 := B.returns
  have hts := atoms_spec (ws := ws_M_bodyWords) B.pre
  have hw : ∀ w ∈ WB_, w.before _ s = true := fun w h => hts w (List.mem_cons_of_mem _ h)
  have hown : s.vm.findClass R_M = some m.cls := findClass_of_methodNamed B.named
  have hlocks := B.notSynchronized
  have hl := lv_entry ([.int a1]) (n := 2) (Nat.le_of_ble_eq_true rfl)
  rw [lg_entry_eq]
  generalize (lg_sl ([.int a1]) ++ List.replicate (2 - (lg_sl ([.int a1])).length) Slot.unset).toArray = ls at hl ⊢
  have hl : lv_has ls 2 [(0, .int a1)] := hl
  unfold wqM_bodyWords at h
  refine lv_iload_n hx hb d_M_bodyWords_0 rfl (lv_at hl 0 rfl) ?_
  refine lv_iconst (v := (1 : Int32)) hx hb d_M_bodyWords_1 (by decide) ?_
  refine lv_ishr hx hb d_M_bodyWords_2 ?_
  refine lv_istore_n (lv' := [(1, .int (a1 >>> ((1 : Int32) &&& 31))), (0, .int a1)]) hx hb d_M_bodyWords_3 rfl hl (by decide) rfl (fun ls hl => ?_)
  refine lv_iload_n hx hb d_M_bodyWords_4 rfl (lv_at hl 1 rfl) ?_
  refine rq_calli (W.runS (As := [.int a1]) (rest := []) ⟨hx, hb, hml, hown, hw⟩ (mM_isOfBytes l a1 _ h) (va_cwS 1 hw g_M_33 rfl rfl rfl (by decide +kernel) ⟨Nat.le_of_ble_eq_true rfl, Nat.le_of_ble_eq_true rfl⟩) preEq rfl rfl hl.1 rfl (lv_room (Nat.le_of_ble_eq_true rfl)) d_M_bodyWords_5 ⟨Nat.le_of_ble_eq_true rfl, Nat.le_of_ble_eq_true rfl⟩) (fun r5 h => ?_)
  refine lv_if_eq (tgt := 19) hx hb d_M_bodyWords_8 (by decide) (fun c_8 => ?_) (fun c_8 => ?_)
  · have h := h.1 c_8
    refine lv_iload_n hx hb d_M_bodyWords_19 rfl (lv_at hl 0 rfl) ?_
    exact W.iret (v := a1 >>> ((1 : Int32) &&& 31)) hx hb hr9 (fun t ht hW => ⟨_, rfl, h, ht⟩) (fun _ h9 => nomatch h9) d_M_bodyWords_20
  · have h := h.2 c_8
    refine lv_iload_n hx hb d_M_bodyWords_11 rfl (lv_at hl 0 rfl) ?_
    refine lv_iconst (v := (3 : Int32)) hx hb d_M_bodyWords_12 (by decide) ?_
    refine lv_iadd hx hb d_M_bodyWords_13 ?_
    refine lv_iconst (v := (2 : Int32)) hx hb d_M_bodyWords_14 (by decide) ?_
    refine lv_ishr hx hb d_M_bodyWords_15 ?_
    refine lv_goto (tgt := 20) hx hb d_M_bodyWords_16 (by decide) ?_
    exact W.iret (v := ((a1 >>> ((1 : Int32) &&& 31)) + (3 : Int32)) >>> ((2 : Int32) &&& 31)) hx hb hr9 (fun t ht hW => ⟨_, rfl, h, ht⟩) (fun _ h9 => nomatch h9) d_M_bodyWords_20
def wqM_shiftOf (a1 : Int32) (post : Int32 → Prop) : Prop :=
  post ((8 : Int32) * (a1 &&& (3 : Int32)))
set_option maxHeartbeats 4000000 in
set_option maxRecDepth 100000 in
theorem mM_shiftOf (l : Launch) (a1 : Int32) (post : Int32 → Prop) (h : wqM_shiftOf a1 post) : Met l y_M_shiftOf ws_M_shiftOf ({ frames := 0, cells := 0, slots := 0, locals := 0 }) (fun v _ => v = ([.int a1] : List Value).toArray) (rq_i post) 0 0 (fun _ => False) := by
  refine Met.ofW (cc := c_M_shiftOf) (maxL := 1) (ret := (some .int)) (by decide) rfl ?_
  intro p e s m args below meth c s₁ B hml hv
  subst hv
  have hx := B.exec
  have hb := B.bytes
  have hr9 := B.returns
  have hts := atoms_spec (ws := ws_M_shiftOf) B.pre
  have hw : ∀ w ∈ WB_, w.before _ s = true := fun w h => hts w (List.mem_cons_of_mem _ h)
  have hown : s.vm.findClass R_M = some m.cls := findClass_of_methodNamed B.named
  have hlocks := B.notSynchronized
  have hl := lv_entry ([.int a1]) (n := 1) (Nat.le_of_ble_eq_true rfl)
  rw [lg_entry_eq]
  generalize (lg_sl ([.int a1]) ++ List.replicate (1 - (lg_sl ([.int a1])).length) Slot.unset).toArray = ls at hl ⊢
  have hl : lv_has ls 1 [(0, .int a1)] := hl
  unfold wqM_shiftOf at h
  refine lv_bipush (v := (8 : Int32)) hx hb d_M_shiftOf_0 (by decide) ?_
  refine lv_iload_n hx hb d_M_shiftOf_2 rfl (lv_at hl 0 rfl) ?_
  refine lv_iconst (v := (3 : Int32)) hx hb d_M_shiftOf_3 (by decide) ?_
  refine lv_iand hx hb d_M_shiftOf_4 ?_
  refine lv_imul hx hb d_M_shiftOf_5 ?_
  exact W.iret (v := (8 : Int32) * (a1 &&& (3 : Int32))) hx hb hr9 (fun t ht hW => ⟨_, rfl, h, ht⟩) (fun _ h9 => nomatch h9) d_M_shiftOf_6
def wqM_place (nW : Nat) (nE : Nat) (P : Nat → Int32) (a1 : Int32) (post : Int32 → Prop) : Prop :=
  wqV_toEntry a1 (fun r5 => vp_in r5 nE ∧ (post (P r5.toNatClampNeg)))
set_option maxHeartbeats 4000000 in
set_option maxRecDepth 100000 in
theorem mM_place (l : Launch) (dC : Nat → ClassId) (dI : Nat → Nat → Nat) (cA : ClassId) (a0 : Nat) (aR : Nat) (aM : Nat) (aW : Nat) (aP : Nat) (aS : Nat) (aC : Nat) (aO : Nat) (nW : Nat) (nE : Nat) (R : Nat → Int32) (f : Nat → Int32) (us : Int32) (P : Nat → Int32) (S : Nat → Int32) (sc : Int32) (li : Int32) (rc : Nat → Int32) (rn : Int32) (ro : Nat → Int32) (rd : Int32) (st : Int32) (a1 : Int32) (post : Int32 → Prop) (h : wqM_place nW nE P a1 post) : Met l y_M_place ws_M_place ({ frames := 1, cells := 0, slots := 0, locals := 20 }) (ro_P (dC, dI) vwCl (TSw cA a0 aR aM aW aP aS aC aO nW nE R f us P S sc li rc rn ro rd st) [(cA, .int)] [.ref aM, .int a1]) (rq_i post) 0 0 (fun _ => False) := by
  refine Met.ofW (cc := c_M_place) (maxL := 2) (ret := (some .int)) (by decide) rfl ?_
  intro p e s m args below meth c s₁ B hml hv
  obtain ⟨rfl, hP, hK⟩ := hv
  have hx := B.exec
  have hb := B.bytes
  have hr9 := B.returns
  have hts := atoms_spec (ws := ws_M_place) B.pre
  have hw : ∀ w ∈ WB_, w.before _ s = true := fun w h => hts w (List.mem_cons_of_mem _ h)
  have hown : s.vm.findClass R_M = some m.cls := findClass_of_methodNamed B.named
  have hlocks := B.notSynchronized
  have hl := lv_entry ([.ref aM, .int a1]) (n := 2) (Nat.le_of_ble_eq_true rfl)
  rw [lg_entry_eq]
  generalize (lg_sl ([.ref aM, .int a1]) ++ List.replicate (2 - (lg_sl ([.ref aM, .int a1])).length) Slot.unset).toArray = ls at hl ⊢
  have hl : lv_has ls 2 [(0, .ref aM), (1, .int a1)] := hl
  unfold wqM_place at h
  refine lv_aload_n hx hb d_M_place_0 rfl (lv_at hl 0 rfl) ?_
  refine va_get (D := (dC, dI)) (ci := 1) (v := .ref aP) (C := R_M) (T := T_M) (N := 11) hx hb hw in_M hown hK hP 2 rfl rfl 2 (by decide) (hw _ wd_65) (fun _ h9 => h9) rfl d_M_place_1 ?_
  refine lv_iload_n hx hb d_M_place_4 rfl (lv_at hl 1 rfl) ?_
  refine rq_calli (W.runS (As := [.int a1]) (rest := [.ref aP]) ⟨hx, hb, hml, hown, hw⟩ (mV_toEntry l a1 _ h) (va_cwS 1 hw g_M_37 rfl rfl rfl (by decide +kernel) ⟨Nat.le_of_ble_eq_true rfl, Nat.le_of_ble_eq_true rfl⟩) preEq rfl rfl hl.1 rfl (lv_room (Nat.le_of_ble_eq_true rfl)) d_M_place_5 ⟨Nat.le_of_ble_eq_true rfl, Nat.le_of_ble_eq_true rfl⟩) (fun r5 h => ?_)
  refine va_iald hx hb hK hP 4 0 rfl rfl h.1 d_M_place_8 ?_
  have h := h.2
  exact W.iret (v := P r5.toNatClampNeg) hx hb hr9 (fun t ht hW => ⟨_, rfl, h, ht⟩) (fun _ h9 => nomatch h9) d_M_place_9
def wqM_holdsSlots (nW : Nat) (nE : Nat) (f : Nat → Int32) (P : Nat → Int32) (a1 : Int32) (post : Int32 → Prop) : Prop :=
  wqV_isObject a1 (fun r1 => (r1 = 0 → (post (0 : Int32))) ∧ (¬ (r1 = 0) → (wqM_place nW nE P a1 (fun r13 => vp_in (r13 + (3 : Int32)) nW ∧ (wqM_isOfBytes (f (r13 + (3 : Int32)).toNatClampNeg) (fun r19 => (r19 = 0 → (post (1 : Int32))) ∧ (¬ (r19 = 0) → (post (0 : Int32)))))))))
set_option maxHeartbeats 4000000 in
set_option maxRecDepth 100000 in
theorem mM_holdsSlots (l : Launch) (dC : Nat → ClassId) (dI : Nat → Nat → Nat) (cA : ClassId) (a0 : Nat) (aR : Nat) (aM : Nat) (aW : Nat) (aP : Nat) (aS : Nat) (aC : Nat) (aO : Nat) (nW : Nat) (nE : Nat) (R : Nat → Int32) (f : Nat → Int32) (us : Int32) (P : Nat → Int32) (S : Nat → Int32) (sc : Int32) (li : Int32) (rc : Nat → Int32) (rn : Int32) (ro : Nat → Int32) (rd : Int32) (st : Int32) (a1 : Int32) (post : Int32 → Prop) (h : wqM_holdsSlots nW nE f P a1 post) : Met l y_M_holdsSlots ws_M_holdsSlots ({ frames := 2, cells := 0, slots := 0, locals := 41 }) (ro_P (dC, dI) vwCl (TSw cA a0 aR aM aW aP aS aC aO nW nE R f us P S sc li rc rn ro rd st) [(cA, .int)] [.ref aM, .int a1]) (rq_i post) 0 0 (fun _ => False) := by
  refine Met.ofW (cc := c_M_holdsSlots) (maxL := 2) (ret := (some .boolean)) (by decide) rfl ?_
  intro p e s m args below meth c s₁ B hml hv
  obtain ⟨rfl, hP, hK⟩ := hv
  have hx := B.exec
  have hb := B.bytes
  have hr9 := B.returns
  have hts := atoms_spec (ws := ws_M_holdsSlots) B.pre
  have hw : ∀ w ∈ WB_, w.before _ s = true := fun w h => hts w (List.mem_cons_of_mem _ h)
  have hown : s.vm.findClass R_M = some m.cls := findClass_of_methodNamed B.named
  have hlocks := B.notSynchronized
  have hl := lv_entry ([.ref aM, .int a1]) (n := 2) (Nat.le_of_ble_eq_true rfl)
  rw [lg_entry_eq]
  generalize (lg_sl ([.ref aM, .int a1]) ++ List.replicate (2 - (lg_sl ([.ref aM, .int a1])).length) Slot.unset).toArray = ls at hl ⊢
  have hl : lv_has ls 2 [(0, .ref aM), (1, .int a1)] := hl
  unfold wqM_holdsSlots at h
  refine lv_iload_n hx hb d_M_holdsSlots_0 rfl (lv_at hl 1 rfl) ?_
  refine rq_calli (W.runS (As := [.int a1]) (rest := []) ⟨hx, hb, hml, hown, hw⟩ (mV_isObject l a1 _ h) (va_cwS 1 hw g_M_43 rfl rfl rfl (by decide +kernel) ⟨Nat.le_of_ble_eq_true rfl, Nat.le_of_ble_eq_true rfl⟩) preEq rfl rfl hl.1 rfl (lv_room (Nat.le_of_ble_eq_true rfl)) d_M_holdsSlots_1 ⟨Nat.le_of_ble_eq_true rfl, Nat.le_of_ble_eq_true rfl⟩) (fun r1 h => ?_)
  refine lv_if_eq (tgt := 29) hx hb d_M_holdsSlots_4 (by decide) (fun c_4 => ?_) (fun c_4 => ?_)
  · have h := h.1 c_4
    refine lv_iconst (v := (0 : Int32)) hx hb d_M_holdsSlots_29 (by decide) ?_
    exact W.zret (v := (0 : Int32)) (ty := .boolean) hx hb hr9 rfl (fun t ht hW => ⟨_, rfl, h, ht⟩) (fun _ h9 => nomatch h9) d_M_holdsSlots_30
  · have h := h.2 c_4
    refine lv_aload_n hx hb d_M_holdsSlots_7 rfl (lv_at hl 0 rfl) ?_
    refine va_get (D := (dC, dI)) (ci := 1) (v := .ref aW) (C := R_M) (T := T_M) (N := 11) hx hb hw in_M hown hK hP 2 rfl rfl 0 (by decide) (hw _ wd_63) (fun _ h9 => h9) rfl d_M_holdsSlots_8 ?_
    refine lv_aload_n hx hb d_M_holdsSlots_11 rfl (lv_at hl 0 rfl) ?_
    refine lv_iload_n hx hb d_M_holdsSlots_12 rfl (lv_at hl 1 rfl) ?_
    refine rq_calli (W.runV (As := [.int a1]) (rest := [.ref aW]) ⟨hx, hb, hml, hown, hw⟩ (mM_place l dC dI cA a0 aR aM aW aP aS aC aO nW nE R f us P S sc li rc rn ro rd st a1 _ h) (cwV 1 hw g_M_46 rfl rfl rfl (by decide +kernel) ⟨Nat.le_of_ble_eq_true rfl, Nat.le_of_ble_eq_true rfl⟩) (ro_PV (ci := 1) (q0 := 2) hK hP rfl rfl) rfl rfl hl.1 rfl (lv_room (Nat.le_of_ble_eq_true rfl)) d_M_holdsSlots_13 ⟨Nat.le_of_ble_eq_true rfl, Nat.le_of_ble_eq_true rfl⟩) (fun r13 h => ?_)
    refine lv_iconst (v := (3 : Int32)) hx hb d_M_holdsSlots_16 (by decide) ?_
    refine lv_iadd hx hb d_M_holdsSlots_17 ?_
    refine va_iald hx hb hK hP 3 0 rfl rfl h.1 d_M_holdsSlots_18 ?_
    have h := h.2
    refine rq_calli (W.runS (As := [.int (f (r13 + (3 : Int32)).toNatClampNeg)]) (rest := []) ⟨hx, hb, hml, hown, hw⟩ (mM_isOfBytes l (f (r13 + (3 : Int32)).toNatClampNeg) _ h) (va_cwS 1 hw g_M_33 rfl rfl rfl (by decide +kernel) ⟨Nat.le_of_ble_eq_true rfl, Nat.le_of_ble_eq_true rfl⟩) preEq rfl rfl hl.1 rfl (lv_room (Nat.le_of_ble_eq_true rfl)) d_M_holdsSlots_19 ⟨Nat.le_of_ble_eq_true rfl, Nat.le_of_ble_eq_true rfl⟩) (fun r19 h => ?_)
    refine lv_if_ne (tgt := 29) hx hb d_M_holdsSlots_22 (by decide) (fun c_22 => ?_) (fun c_22 => ?_)
    · have h := h.2 c_22
      refine lv_iconst (v := (0 : Int32)) hx hb d_M_holdsSlots_29 (by decide) ?_
      exact W.zret (v := (0 : Int32)) (ty := .boolean) hx hb hr9 rfl (fun t ht hW => ⟨_, rfl, h, ht⟩) (fun _ h9 => nomatch h9) d_M_holdsSlots_30
    · have h := h.1 c_22
      refine lv_iconst (v := (1 : Int32)) hx hb d_M_holdsSlots_25 (by decide) ?_
      refine lv_goto (tgt := 30) hx hb d_M_holdsSlots_26 (by decide) ?_
      exact W.zret (v := (1 : Int32)) (ty := .boolean) hx hb hr9 rfl (fun t ht hW => ⟨_, rfl, h, ht⟩) (fun _ h9 => nomatch h9) d_M_holdsSlots_30
def wqM_holdsBytes (nW : Nat) (nE : Nat) (f : Nat → Int32) (P : Nat → Int32) (a1 : Int32) (post : Int32 → Prop) : Prop :=
  wqV_isObject a1 (fun r1 => (r1 = 0 → (post (0 : Int32))) ∧ (¬ (r1 = 0) → (wqM_place nW nE P a1 (fun r13 => vp_in (r13 + (3 : Int32)) nW ∧ (wqM_isOfBytes (f (r13 + (3 : Int32)).toNatClampNeg) (fun r19 => (r19 = 0 → (post (0 : Int32))) ∧ (¬ (r19 = 0) → (post (1 : Int32)))))))))
set_option maxHeartbeats 4000000 in
set_option maxRecDepth 100000 in
theorem mM_holdsBytes (l : Launch) (dC : Nat → ClassId) (dI : Nat → Nat → Nat) (cA : ClassId) (a0 : Nat) (aR : Nat) (aM : Nat) (aW : Nat) (aP : Nat) (aS : Nat) (aC : Nat) (aO : Nat) (nW : Nat) (nE : Nat) (R : Nat → Int32) (f : Nat → Int32) (us : Int32) (P : Nat → Int32) (S : Nat → Int32) (sc : Int32) (li : Int32) (rc : Nat → Int32) (rn : Int32) (ro : Nat → Int32) (rd : Int32) (st : Int32) (a1 : Int32) (post : Int32 → Prop) (h : wqM_holdsBytes nW nE f P a1 post) : Met l y_M_holdsBytes ws_M_holdsBytes ({ frames := 2, cells := 0, slots := 0, locals := 41 }) (ro_P (dC, dI) vwCl (TSw cA a0 aR aM aW aP aS aC aO nW nE R f us P S sc li rc rn ro rd st) [(cA, .int)] [.ref aM, .int a1]) (rq_i post) 0 0 (fun _ => False) := by
  refine Met.ofW (cc := c_M_holdsBytes) (maxL := 2) (ret := (some .boolean)) (by decide) rfl ?_
  intro p e s m args below meth c s₁ B hml hv
  obtain ⟨rfl, hP, hK⟩ := hv
  have hx := B.exec
  have hb := B.bytes
  have hr9 := B.returns
  have hts := atoms_spec (ws := ws_M_holdsBytes) B.pre
  have hw : ∀ w ∈ WB_, w.before _ s = true := fun w h => hts w (List.mem_cons_of_mem _ h)
  have hown : s.vm.findClass R_M = some m.cls := findClass_of_methodNamed B.named
  have hlocks := B.notSynchronized
  have hl := lv_entry ([.ref aM, .int a1]) (n := 2) (Nat.le_of_ble_eq_true rfl)
  rw [lg_entry_eq]
  generalize (lg_sl ([.ref aM, .int a1]) ++ List.replicate (2 - (lg_sl ([.ref aM, .int a1])).length) Slot.unset).toArray = ls at hl ⊢
  have hl : lv_has ls 2 [(0, .ref aM), (1, .int a1)] := hl
  unfold wqM_holdsBytes at h
  refine lv_iload_n hx hb d_M_holdsBytes_0 rfl (lv_at hl 1 rfl) ?_
  refine rq_calli (W.runS (As := [.int a1]) (rest := []) ⟨hx, hb, hml, hown, hw⟩ (mV_isObject l a1 _ h) (va_cwS 1 hw g_M_43 rfl rfl rfl (by decide +kernel) ⟨Nat.le_of_ble_eq_true rfl, Nat.le_of_ble_eq_true rfl⟩) preEq rfl rfl hl.1 rfl (lv_room (Nat.le_of_ble_eq_true rfl)) d_M_holdsBytes_1 ⟨Nat.le_of_ble_eq_true rfl, Nat.le_of_ble_eq_true rfl⟩) (fun r1 h => ?_)
  refine lv_if_eq (tgt := 29) hx hb d_M_holdsBytes_4 (by decide) (fun c_4 => ?_) (fun c_4 => ?_)
  · have h := h.1 c_4
    refine lv_iconst (v := (0 : Int32)) hx hb d_M_holdsBytes_29 (by decide) ?_
    exact W.zret (v := (0 : Int32)) (ty := .boolean) hx hb hr9 rfl (fun t ht hW => ⟨_, rfl, h, ht⟩) (fun _ h9 => nomatch h9) d_M_holdsBytes_30
  · have h := h.2 c_4
    refine lv_aload_n hx hb d_M_holdsBytes_7 rfl (lv_at hl 0 rfl) ?_
    refine va_get (D := (dC, dI)) (ci := 1) (v := .ref aW) (C := R_M) (T := T_M) (N := 11) hx hb hw in_M hown hK hP 2 rfl rfl 0 (by decide) (hw _ wd_63) (fun _ h9 => h9) rfl d_M_holdsBytes_8 ?_
    refine lv_aload_n hx hb d_M_holdsBytes_11 rfl (lv_at hl 0 rfl) ?_
    refine lv_iload_n hx hb d_M_holdsBytes_12 rfl (lv_at hl 1 rfl) ?_
    refine rq_calli (W.runV (As := [.int a1]) (rest := [.ref aW]) ⟨hx, hb, hml, hown, hw⟩ (mM_place l dC dI cA a0 aR aM aW aP aS aC aO nW nE R f us P S sc li rc rn ro rd st a1 _ h) (cwV 1 hw g_M_46 rfl rfl rfl (by decide +kernel) ⟨Nat.le_of_ble_eq_true rfl, Nat.le_of_ble_eq_true rfl⟩) (ro_PV (ci := 1) (q0 := 2) hK hP rfl rfl) rfl rfl hl.1 rfl (lv_room (Nat.le_of_ble_eq_true rfl)) d_M_holdsBytes_13 ⟨Nat.le_of_ble_eq_true rfl, Nat.le_of_ble_eq_true rfl⟩) (fun r13 h => ?_)
    refine lv_iconst (v := (3 : Int32)) hx hb d_M_holdsBytes_16 (by decide) ?_
    refine lv_iadd hx hb d_M_holdsBytes_17 ?_
    refine va_iald hx hb hK hP 3 0 rfl rfl h.1 d_M_holdsBytes_18 ?_
    have h := h.2
    refine rq_calli (W.runS (As := [.int (f (r13 + (3 : Int32)).toNatClampNeg)]) (rest := []) ⟨hx, hb, hml, hown, hw⟩ (mM_isOfBytes l (f (r13 + (3 : Int32)).toNatClampNeg) _ h) (va_cwS 1 hw g_M_33 rfl rfl rfl (by decide +kernel) ⟨Nat.le_of_ble_eq_true rfl, Nat.le_of_ble_eq_true rfl⟩) preEq rfl rfl hl.1 rfl (lv_room (Nat.le_of_ble_eq_true rfl)) d_M_holdsBytes_19 ⟨Nat.le_of_ble_eq_true rfl, Nat.le_of_ble_eq_true rfl⟩) (fun r19 h => ?_)
    refine lv_if_eq (tgt := 29) hx hb d_M_holdsBytes_22 (by decide) (fun c_22 => ?_) (fun c_22 => ?_)
    · have h := h.1 c_22
      refine lv_iconst (v := (0 : Int32)) hx hb d_M_holdsBytes_29 (by decide) ?_
      exact W.zret (v := (0 : Int32)) (ty := .boolean) hx hb hr9 rfl (fun t ht hW => ⟨_, rfl, h, ht⟩) (fun _ h9 => nomatch h9) d_M_holdsBytes_30
    · have h := h.2 c_22
      refine lv_iconst (v := (1 : Int32)) hx hb d_M_holdsBytes_25 (by decide) ?_
      refine lv_goto (tgt := 30) hx hb d_M_holdsBytes_26 (by decide) ?_
      exact W.zret (v := (1 : Int32)) (ty := .boolean) hx hb hr9 rfl (fun t ht hW => ⟨_, rfl, h, ht⟩) (fun _ h9 => nomatch h9) d_M_holdsBytes_30
def wqM_count (nW : Nat) (nE : Nat) (f : Nat → Int32) (P : Nat → Int32) (a1 : Int32) (post : Int32 → Prop) : Prop :=
  wqM_place nW nE P a1 (fun r6 => vp_in (r6 + (3 : Int32)) nW ∧ (post ((f (r6 + (3 : Int32)).toNatClampNeg) >>> ((1 : Int32) &&& 31))))
set_option maxHeartbeats 4000000 in
set_option maxRecDepth 100000 in
theorem mM_count (l : Launch) (dC : Nat → ClassId) (dI : Nat → Nat → Nat) (cA : ClassId) (a0 : Nat) (aR : Nat) (aM : Nat) (aW : Nat) (aP : Nat) (aS : Nat) (aC : Nat) (aO : Nat) (nW : Nat) (nE : Nat) (R : Nat → Int32) (f : Nat → Int32) (us : Int32) (P : Nat → Int32) (S : Nat → Int32) (sc : Int32) (li : Int32) (rc : Nat → Int32) (rn : Int32) (ro : Nat → Int32) (rd : Int32) (st : Int32) (a1 : Int32) (post : Int32 → Prop) (h : wqM_count nW nE f P a1 post) : Met l y_M_count ws_M_count ({ frames := 2, cells := 0, slots := 0, locals := 41 }) (ro_P (dC, dI) vwCl (TSw cA a0 aR aM aW aP aS aC aO nW nE R f us P S sc li rc rn ro rd st) [(cA, .int)] [.ref aM, .int a1]) (rq_i post) 0 0 (fun _ => False) := by
  refine Met.ofW (cc := c_M_count) (maxL := 2) (ret := (some .int)) (by decide) rfl ?_
  intro p e s m args below meth c s₁ B hml hv
  obtain ⟨rfl, hP, hK⟩ := hv
  have hx := B.exec
  have hb := B.bytes
  have hr9 := B.returns
  have hts := atoms_spec (ws := ws_M_count) B.pre
  have hw : ∀ w ∈ WB_, w.before _ s = true := fun w h => hts w (List.mem_cons_of_mem _ h)
  have hown : s.vm.findClass R_M = some m.cls := findClass_of_methodNamed B.named
  have hlocks := B.notSynchronized
  have hl := lv_entry ([.ref aM, .int a1]) (n := 2) (Nat.le_of_ble_eq_true rfl)
  rw [lg_entry_eq]
  generalize (lg_sl ([.ref aM, .int a1]) ++ List.replicate (2 - (lg_sl ([.ref aM, .int a1])).length) Slot.unset).toArray = ls at hl ⊢
  have hl : lv_has ls 2 [(0, .ref aM), (1, .int a1)] := hl
  unfold wqM_count at h
  refine lv_aload_n hx hb d_M_count_0 rfl (lv_at hl 0 rfl) ?_
  refine va_get (D := (dC, dI)) (ci := 1) (v := .ref aW) (C := R_M) (T := T_M) (N := 11) hx hb hw in_M hown hK hP 2 rfl rfl 0 (by decide) (hw _ wd_63) (fun _ h9 => h9) rfl d_M_count_1 ?_
  refine lv_aload_n hx hb d_M_count_4 rfl (lv_at hl 0 rfl) ?_
  refine lv_iload_n hx hb d_M_count_5 rfl (lv_at hl 1 rfl) ?_
  refine rq_calli (W.runV (As := [.int a1]) (rest := [.ref aW]) ⟨hx, hb, hml, hown, hw⟩ (mM_place l dC dI cA a0 aR aM aW aP aS aC aO nW nE R f us P S sc li rc rn ro rd st a1 _ h) (cwV 1 hw g_M_46 rfl rfl rfl (by decide +kernel) ⟨Nat.le_of_ble_eq_true rfl, Nat.le_of_ble_eq_true rfl⟩) (ro_PV (ci := 1) (q0 := 2) hK hP rfl rfl) rfl rfl hl.1 rfl (lv_room (Nat.le_of_ble_eq_true rfl)) d_M_count_6 ⟨Nat.le_of_ble_eq_true rfl, Nat.le_of_ble_eq_true rfl⟩) (fun r6 h => ?_)
  refine lv_iconst (v := (3 : Int32)) hx hb d_M_count_9 (by decide) ?_
  refine lv_iadd hx hb d_M_count_10 ?_
  refine va_iald hx hb hK hP 3 0 rfl rfl h.1 d_M_count_11 ?_
  have h := h.2
  refine lv_iconst (v := (1 : Int32)) hx hb d_M_count_12 (by decide) ?_
  refine lv_ishr hx hb d_M_count_13 ?_
  exact W.iret (v := (f (r6 + (3 : Int32)).toNatClampNeg) >>> ((1 : Int32) &&& 31)) hx hb hr9 (fun t ht hW => ⟨_, rfl, h, ht⟩) (fun _ h9 => nomatch h9) d_M_count_14
def wqM_identity (nW : Nat) (nE : Nat) (f : Nat → Int32) (P : Nat → Int32) (a1 : Int32) (post : Int32 → Prop) : Prop :=
  wqM_place nW nE P a1 (fun r6 => vp_in (r6 + (1 : Int32)) nW ∧ (post (f (r6 + (1 : Int32)).toNatClampNeg)))
set_option maxHeartbeats 4000000 in
set_option maxRecDepth 100000 in
theorem mM_identity (l : Launch) (dC : Nat → ClassId) (dI : Nat → Nat → Nat) (cA : ClassId) (a0 : Nat) (aR : Nat) (aM : Nat) (aW : Nat) (aP : Nat) (aS : Nat) (aC : Nat) (aO : Nat) (nW : Nat) (nE : Nat) (R : Nat → Int32) (f : Nat → Int32) (us : Int32) (P : Nat → Int32) (S : Nat → Int32) (sc : Int32) (li : Int32) (rc : Nat → Int32) (rn : Int32) (ro : Nat → Int32) (rd : Int32) (st : Int32) (a1 : Int32) (post : Int32 → Prop) (h : wqM_identity nW nE f P a1 post) : Met l y_M_identity ws_M_identity ({ frames := 2, cells := 0, slots := 0, locals := 41 }) (ro_P (dC, dI) vwCl (TSw cA a0 aR aM aW aP aS aC aO nW nE R f us P S sc li rc rn ro rd st) [(cA, .int)] [.ref aM, .int a1]) (rq_i post) 0 0 (fun _ => False) := by
  refine Met.ofW (cc := c_M_identity) (maxL := 2) (ret := (some .int)) (by decide) rfl ?_
  intro p e s m args below meth c s₁ B hml hv
  obtain ⟨rfl, hP, hK⟩ := hv
  have hx := B.exec
  have hb := B.bytes
  have hr9 := B.returns
  have hts := atoms_spec (ws := ws_M_identity) B.pre
  have hw : ∀ w ∈ WB_, w.before _ s = true := fun w h => hts w (List.mem_cons_of_mem _ h)
  have hown : s.vm.findClass R_M = some m.cls := findClass_of_methodNamed B.named
  have hlocks := B.notSynchronized
  have hl := lv_entry ([.ref aM, .int a1]) (n := 2) (Nat.le_of_ble_eq_true rfl)
  rw [lg_entry_eq]
  generalize (lg_sl ([.ref aM, .int a1]) ++ List.replicate (2 - (lg_sl ([.ref aM, .int a1])).length) Slot.unset).toArray = ls at hl ⊢
  have hl : lv_has ls 2 [(0, .ref aM), (1, .int a1)] := hl
  unfold wqM_identity at h
  refine lv_aload_n hx hb d_M_identity_0 rfl (lv_at hl 0 rfl) ?_
  refine va_get (D := (dC, dI)) (ci := 1) (v := .ref aW) (C := R_M) (T := T_M) (N := 11) hx hb hw in_M hown hK hP 2 rfl rfl 0 (by decide) (hw _ wd_63) (fun _ h9 => h9) rfl d_M_identity_1 ?_
  refine lv_aload_n hx hb d_M_identity_4 rfl (lv_at hl 0 rfl) ?_
  refine lv_iload_n hx hb d_M_identity_5 rfl (lv_at hl 1 rfl) ?_
  refine rq_calli (W.runV (As := [.int a1]) (rest := [.ref aW]) ⟨hx, hb, hml, hown, hw⟩ (mM_place l dC dI cA a0 aR aM aW aP aS aC aO nW nE R f us P S sc li rc rn ro rd st a1 _ h) (cwV 1 hw g_M_46 rfl rfl rfl (by decide +kernel) ⟨Nat.le_of_ble_eq_true rfl, Nat.le_of_ble_eq_true rfl⟩) (ro_PV (ci := 1) (q0 := 2) hK hP rfl rfl) rfl rfl hl.1 rfl (lv_room (Nat.le_of_ble_eq_true rfl)) d_M_identity_6 ⟨Nat.le_of_ble_eq_true rfl, Nat.le_of_ble_eq_true rfl⟩) (fun r6 h => ?_)
  refine lv_iconst (v := (1 : Int32)) hx hb d_M_identity_9 (by decide) ?_
  refine lv_iadd hx hb d_M_identity_10 ?_
  refine va_iald hx hb hK hP 3 0 rfl rfl h.1 d_M_identity_11 ?_
  have h := h.2
  exact W.iret (v := f (r6 + (1 : Int32)).toNatClampNeg) hx hb hr9 (fun t ht hW => ⟨_, rfl, h, ht⟩) (fun _ h9 => nomatch h9) d_M_identity_12
def wqM_itsClass (nW : Nat) (nE : Nat) (f : Nat → Int32) (P : Nat → Int32) (a1 : Int32) (post : Int32 → Prop) : Prop :=
  wqM_place nW nE P a1 (fun r6 => vp_in (r6 + (2 : Int32)) nW ∧ (post (f (r6 + (2 : Int32)).toNatClampNeg)))
set_option maxHeartbeats 4000000 in
set_option maxRecDepth 100000 in
theorem mM_itsClass (l : Launch) (dC : Nat → ClassId) (dI : Nat → Nat → Nat) (cA : ClassId) (a0 : Nat) (aR : Nat) (aM : Nat) (aW : Nat) (aP : Nat) (aS : Nat) (aC : Nat) (aO : Nat) (nW : Nat) (nE : Nat) (R : Nat → Int32) (f : Nat → Int32) (us : Int32) (P : Nat → Int32) (S : Nat → Int32) (sc : Int32) (li : Int32) (rc : Nat → Int32) (rn : Int32) (ro : Nat → Int32) (rd : Int32) (st : Int32) (a1 : Int32) (post : Int32 → Prop) (h : wqM_itsClass nW nE f P a1 post) : Met l y_M_itsClass ws_M_itsClass ({ frames := 2, cells := 0, slots := 0, locals := 41 }) (ro_P (dC, dI) vwCl (TSw cA a0 aR aM aW aP aS aC aO nW nE R f us P S sc li rc rn ro rd st) [(cA, .int)] [.ref aM, .int a1]) (rq_i post) 0 0 (fun _ => False) := by
  refine Met.ofW (cc := c_M_itsClass) (maxL := 2) (ret := (some .int)) (by decide) rfl ?_
  intro p e s m args below meth c s₁ B hml hv
  obtain ⟨rfl, hP, hK⟩ := hv
  have hx := B.exec
  have hb := B.bytes
  have hr9 := B.returns
  have hts := atoms_spec (ws := ws_M_itsClass) B.pre
  have hw : ∀ w ∈ WB_, w.before _ s = true := fun w h => hts w (List.mem_cons_of_mem _ h)
  have hown : s.vm.findClass R_M = some m.cls := findClass_of_methodNamed B.named
  have hlocks := B.notSynchronized
  have hl := lv_entry ([.ref aM, .int a1]) (n := 2) (Nat.le_of_ble_eq_true rfl)
  rw [lg_entry_eq]
  generalize (lg_sl ([.ref aM, .int a1]) ++ List.replicate (2 - (lg_sl ([.ref aM, .int a1])).length) Slot.unset).toArray = ls at hl ⊢
  have hl : lv_has ls 2 [(0, .ref aM), (1, .int a1)] := hl
  unfold wqM_itsClass at h
  refine lv_aload_n hx hb d_M_itsClass_0 rfl (lv_at hl 0 rfl) ?_
  refine va_get (D := (dC, dI)) (ci := 1) (v := .ref aW) (C := R_M) (T := T_M) (N := 11) hx hb hw in_M hown hK hP 2 rfl rfl 0 (by decide) (hw _ wd_63) (fun _ h9 => h9) rfl d_M_itsClass_1 ?_
  refine lv_aload_n hx hb d_M_itsClass_4 rfl (lv_at hl 0 rfl) ?_
  refine lv_iload_n hx hb d_M_itsClass_5 rfl (lv_at hl 1 rfl) ?_
  refine rq_calli (W.runV (As := [.int a1]) (rest := [.ref aW]) ⟨hx, hb, hml, hown, hw⟩ (mM_place l dC dI cA a0 aR aM aW aP aS aC aO nW nE R f us P S sc li rc rn ro rd st a1 _ h) (cwV 1 hw g_M_46 rfl rfl rfl (by decide +kernel) ⟨Nat.le_of_ble_eq_true rfl, Nat.le_of_ble_eq_true rfl⟩) (ro_PV (ci := 1) (q0 := 2) hK hP rfl rfl) rfl rfl hl.1 rfl (lv_room (Nat.le_of_ble_eq_true rfl)) d_M_itsClass_6 ⟨Nat.le_of_ble_eq_true rfl, Nat.le_of_ble_eq_true rfl⟩) (fun r6 h => ?_)
  refine lv_iconst (v := (2 : Int32)) hx hb d_M_itsClass_9 (by decide) ?_
  refine lv_iadd hx hb d_M_itsClass_10 ?_
  refine va_iald hx hb hK hP 3 0 rfl rfl h.1 d_M_itsClass_11 ?_
  have h := h.2
  exact W.iret (v := f (r6 + (2 : Int32)).toNatClampNeg) hx hb hr9 (fun t ht hW => ⟨_, rfl, h, ht⟩) (fun _ h9 => nomatch h9) d_M_itsClass_12
def wqM_slot (nW : Nat) (nE : Nat) (f : Nat → Int32) (P : Nat → Int32) (a1 : Int32) (a2 : Int32) (post : Int32 → Prop) : Prop :=
  wqM_place nW nE P a1 (fun r6 => vp_in ((r6 + (4 : Int32)) + a2) nW ∧ (post (f ((r6 + (4 : Int32)) + a2).toNatClampNeg)))
set_option maxHeartbeats 4000000 in
set_option maxRecDepth 100000 in
theorem mM_slot (l : Launch) (dC : Nat → ClassId) (dI : Nat → Nat → Nat) (cA : ClassId) (a0 : Nat) (aR : Nat) (aM : Nat) (aW : Nat) (aP : Nat) (aS : Nat) (aC : Nat) (aO : Nat) (nW : Nat) (nE : Nat) (R : Nat → Int32) (f : Nat → Int32) (us : Int32) (P : Nat → Int32) (S : Nat → Int32) (sc : Int32) (li : Int32) (rc : Nat → Int32) (rn : Int32) (ro : Nat → Int32) (rd : Int32) (st : Int32) (a1 : Int32) (a2 : Int32) (post : Int32 → Prop) (h : wqM_slot nW nE f P a1 a2 post) : Met l y_M_slot ws_M_slot ({ frames := 2, cells := 0, slots := 0, locals := 41 }) (ro_P (dC, dI) vwCl (TSw cA a0 aR aM aW aP aS aC aO nW nE R f us P S sc li rc rn ro rd st) [(cA, .int)] [.ref aM, .int a1, .int a2]) (rq_i post) 0 0 (fun _ => False) := by
  refine Met.ofW (cc := c_M_slot) (maxL := 3) (ret := (some .int)) (by decide) rfl ?_
  intro p e s m args below meth c s₁ B hml hv
  obtain ⟨rfl, hP, hK⟩ := hv
  have hx := B.exec
  have hb := B.bytes
  have hr9 := B.returns
  have hts := atoms_spec (ws := ws_M_slot) B.pre
  have hw : ∀ w ∈ WB_, w.before _ s = true := fun w h => hts w (List.mem_cons_of_mem _ h)
  have hown : s.vm.findClass R_M = some m.cls := findClass_of_methodNamed B.named
  have hlocks := B.notSynchronized
  have hl := lv_entry ([.ref aM, .int a1, .int a2]) (n := 3) (Nat.le_of_ble_eq_true rfl)
  rw [lg_entry_eq]
  generalize (lg_sl ([.ref aM, .int a1, .int a2]) ++ List.replicate (3 - (lg_sl ([.ref aM, .int a1, .int a2])).length) Slot.unset).toArray = ls at hl ⊢
  have hl : lv_has ls 3 [(0, .ref aM), (1, .int a1), (2, .int a2)] := hl
  unfold wqM_slot at h
  refine lv_aload_n hx hb d_M_slot_0 rfl (lv_at hl 0 rfl) ?_
  refine va_get (D := (dC, dI)) (ci := 1) (v := .ref aW) (C := R_M) (T := T_M) (N := 11) hx hb hw in_M hown hK hP 2 rfl rfl 0 (by decide) (hw _ wd_63) (fun _ h9 => h9) rfl d_M_slot_1 ?_
  refine lv_aload_n hx hb d_M_slot_4 rfl (lv_at hl 0 rfl) ?_
  refine lv_iload_n hx hb d_M_slot_5 rfl (lv_at hl 1 rfl) ?_
  refine rq_calli (W.runV (As := [.int a1]) (rest := [.ref aW]) ⟨hx, hb, hml, hown, hw⟩ (mM_place l dC dI cA a0 aR aM aW aP aS aC aO nW nE R f us P S sc li rc rn ro rd st a1 _ h) (cwV 1 hw g_M_46 rfl rfl rfl (by decide +kernel) ⟨Nat.le_of_ble_eq_true rfl, Nat.le_of_ble_eq_true rfl⟩) (ro_PV (ci := 1) (q0 := 2) hK hP rfl rfl) rfl rfl hl.1 rfl (lv_room (Nat.le_of_ble_eq_true rfl)) d_M_slot_6 ⟨Nat.le_of_ble_eq_true rfl, Nat.le_of_ble_eq_true rfl⟩) (fun r6 h => ?_)
  refine lv_iconst (v := (4 : Int32)) hx hb d_M_slot_9 (by decide) ?_
  refine lv_iadd hx hb d_M_slot_10 ?_
  refine lv_iload_n hx hb d_M_slot_11 rfl (lv_at hl 2 rfl) ?_
  refine lv_iadd hx hb d_M_slot_12 ?_
  refine va_iald hx hb hK hP 3 0 rfl rfl h.1 d_M_slot_13 ?_
  have h := h.2
  exact W.iret (v := f ((r6 + (4 : Int32)) + a2).toNatClampNeg) hx hb hr9 (fun t ht hW => ⟨_, rfl, h, ht⟩) (fun _ h9 => nomatch h9) d_M_slot_14
def wqM_oneByte (nW : Nat) (nE : Nat) (f : Nat → Int32) (P : Nat → Int32) (a1 : Int32) (a2 : Int32) (post : Int32 → Prop) : Prop :=
  wqM_place nW nE P a1 (fun r6 => vp_in ((r6 + (4 : Int32)) + (a2 >>> ((2 : Int32) &&& 31))) nW ∧ (wqM_shiftOf a2 (fun r19 => post ((((f ((r6 + (4 : Int32)) + (a2 >>> ((2 : Int32) &&& 31))).toNatClampNeg).toUInt32 >>> (r19.toUInt32 &&& Int32.toUInt32 31)).toInt32) &&& (255 : Int32)))))
set_option maxHeartbeats 4000000 in
set_option maxRecDepth 100000 in
theorem mM_oneByte (l : Launch) (dC : Nat → ClassId) (dI : Nat → Nat → Nat) (cA : ClassId) (a0 : Nat) (aR : Nat) (aM : Nat) (aW : Nat) (aP : Nat) (aS : Nat) (aC : Nat) (aO : Nat) (nW : Nat) (nE : Nat) (R : Nat → Int32) (f : Nat → Int32) (us : Int32) (P : Nat → Int32) (S : Nat → Int32) (sc : Int32) (li : Int32) (rc : Nat → Int32) (rn : Int32) (ro : Nat → Int32) (rd : Int32) (st : Int32) (a1 : Int32) (a2 : Int32) (post : Int32 → Prop) (h : wqM_oneByte nW nE f P a1 a2 post) : Met l y_M_oneByte ws_M_oneByte ({ frames := 2, cells := 0, slots := 0, locals := 41 }) (ro_P (dC, dI) vwCl (TSw cA a0 aR aM aW aP aS aC aO nW nE R f us P S sc li rc rn ro rd st) [(cA, .int)] [.ref aM, .int a1, .int a2]) (rq_i post) 0 0 (fun _ => False) := by
  refine Met.ofW (cc := c_M_oneByte) (maxL := 4) (ret := (some .int)) (by decide) rfl ?_
  intro p e s m args below meth c s₁ B hml hv
  obtain ⟨rfl, hP, hK⟩ := hv
  have hx := B.exec
  have hb := B.bytes
  have hr9 := B.returns
  have hts := atoms_spec (ws := ws_M_oneByte) B.pre
  have hw : ∀ w ∈ WB_, w.before _ s = true := fun w h => hts w (List.mem_cons_of_mem _ h)
  have hown : s.vm.findClass R_M = some m.cls := findClass_of_methodNamed B.named
  have hlocks := B.notSynchronized
  have hl := lv_entry ([.ref aM, .int a1, .int a2]) (n := 4) (Nat.le_of_ble_eq_true rfl)
  rw [lg_entry_eq]
  generalize (lg_sl ([.ref aM, .int a1, .int a2]) ++ List.replicate (4 - (lg_sl ([.ref aM, .int a1, .int a2])).length) Slot.unset).toArray = ls at hl ⊢
  have hl : lv_has ls 4 [(0, .ref aM), (1, .int a1), (2, .int a2)] := hl
  unfold wqM_oneByte at h
  refine lv_aload_n hx hb d_M_oneByte_0 rfl (lv_at hl 0 rfl) ?_
  refine va_get (D := (dC, dI)) (ci := 1) (v := .ref aW) (C := R_M) (T := T_M) (N := 11) hx hb hw in_M hown hK hP 2 rfl rfl 0 (by decide) (hw _ wd_63) (fun _ h9 => h9) rfl d_M_oneByte_1 ?_
  refine lv_aload_n hx hb d_M_oneByte_4 rfl (lv_at hl 0 rfl) ?_
  refine lv_iload_n hx hb d_M_oneByte_5 rfl (lv_at hl 1 rfl) ?_
  refine rq_calli (W.runV (As := [.int a1]) (rest := [.ref aW]) ⟨hx, hb, hml, hown, hw⟩ (mM_place l dC dI cA a0 aR aM aW aP aS aC aO nW nE R f us P S sc li rc rn ro rd st a1 _ h) (cwV 1 hw g_M_46 rfl rfl rfl (by decide +kernel) ⟨Nat.le_of_ble_eq_true rfl, Nat.le_of_ble_eq_true rfl⟩) (ro_PV (ci := 1) (q0 := 2) hK hP rfl rfl) rfl rfl hl.1 rfl (lv_room (Nat.le_of_ble_eq_true rfl)) d_M_oneByte_6 ⟨Nat.le_of_ble_eq_true rfl, Nat.le_of_ble_eq_true rfl⟩) (fun r6 h => ?_)
  refine lv_iconst (v := (4 : Int32)) hx hb d_M_oneByte_9 (by decide) ?_
  refine lv_iadd hx hb d_M_oneByte_10 ?_
  refine lv_iload_n hx hb d_M_oneByte_11 rfl (lv_at hl 2 rfl) ?_
  refine lv_iconst (v := (2 : Int32)) hx hb d_M_oneByte_12 (by decide) ?_
  refine lv_ishr hx hb d_M_oneByte_13 ?_
  refine lv_iadd hx hb d_M_oneByte_14 ?_
  refine va_iald hx hb hK hP 3 0 rfl rfl h.1 d_M_oneByte_15 ?_
  have h := h.2
  refine lv_istore_n (lv' := [(3, .int (f ((r6 + (4 : Int32)) + (a2 >>> ((2 : Int32) &&& 31))).toNatClampNeg)), (0, .ref aM), (1, .int a1), (2, .int a2)]) hx hb d_M_oneByte_16 rfl hl (by decide) rfl (fun ls hl => ?_)
  refine lv_iload_n hx hb d_M_oneByte_17 rfl (lv_at hl 0 rfl) ?_
  refine lv_iload_n hx hb d_M_oneByte_18 rfl (lv_at hl 3 rfl) ?_
  refine rq_calli (W.runS (As := [.int a2]) (rest := [.int (f ((r6 + (4 : Int32)) + (a2 >>> ((2 : Int32) &&& 31))).toNatClampNeg)]) ⟨hx, hb, hml, hown, hw⟩ (mM_shiftOf l a2 _ h) (va_cwS 1 hw g_M_53 rfl rfl rfl (by decide +kernel) ⟨Nat.le_of_ble_eq_true rfl, Nat.le_of_ble_eq_true rfl⟩) preEq rfl rfl hl.1 rfl (lv_room (Nat.le_of_ble_eq_true rfl)) d_M_oneByte_19 ⟨Nat.le_of_ble_eq_true rfl, Nat.le_of_ble_eq_true rfl⟩) (fun r19 h => ?_)
  refine lv_iushr (v := ((f ((r6 + (4 : Int32)) + (a2 >>> ((2 : Int32) &&& 31))).toNatClampNeg).toUInt32 >>> (r19.toUInt32 &&& Int32.toUInt32 31)).toInt32) hx hb d_M_oneByte_22 rfl ?_
  refine lv_sipush (v := (255 : Int32)) hx hb d_M_oneByte_23 (by decide) ?_
  refine lv_iand hx hb d_M_oneByte_26 ?_
  exact W.iret (v := (((f ((r6 + (4 : Int32)) + (a2 >>> ((2 : Int32) &&& 31))).toNatClampNeg).toUInt32 >>> (r19.toUInt32 &&& Int32.toUInt32 31)).toInt32) &&& (255 : Int32)) hx hb hr9 (fun t ht hW => ⟨_, rfl, h, ht⟩) (fun _ h9 => nomatch h9) d_M_oneByte_27
def wqM_freeWords (nW : Nat) (nE : Nat) (us : Int32) (post : Int32 → Prop) : Prop :=
  post ((nI nW) - us)
set_option maxHeartbeats 4000000 in
set_option maxRecDepth 100000 in
theorem mM_freeWords (l : Launch) (dC : Nat → ClassId) (dI : Nat → Nat → Nat) (cA : ClassId) (a0 : Nat) (aR : Nat) (aM : Nat) (aW : Nat) (aP : Nat) (aS : Nat) (aC : Nat) (aO : Nat) (nW : Nat) (nE : Nat) (R : Nat → Int32) (f : Nat → Int32) (us : Int32) (P : Nat → Int32) (S : Nat → Int32) (sc : Int32) (li : Int32) (rc : Nat → Int32) (rn : Int32) (ro : Nat → Int32) (rd : Int32) (st : Int32) (post : Int32 → Prop) (h : wqM_freeWords nW nE us post) : Met l y_M_freeWords ws_M_freeWords ({ frames := 0, cells := 0, slots := 0, locals := 0 }) (ro_P (dC, dI) vwCl (TSw cA a0 aR aM aW aP aS aC aO nW nE R f us P S sc li rc rn ro rd st) [(cA, .int)] [.ref aM]) (rq_i post) 0 0 (fun _ => False) := by
  refine Met.ofW (cc := c_M_freeWords) (maxL := 1) (ret := (some .int)) (by decide) rfl ?_
  intro p e s m args below meth c s₁ B hml hv
  obtain ⟨rfl, hP, hK⟩ := hv
  have hx := B.exec
  have hb := B.bytes
  have hr9 := B.returns
  have hts := atoms_spec (ws := ws_M_freeWords) B.pre
  have hw : ∀ w ∈ WB_, w.before _ s = true := fun w h => hts w (List.mem_cons_of_mem _ h)
  have hown : s.vm.findClass R_M = some m.cls := findClass_of_methodNamed B.named
  have hlocks := B.notSynchronized
  have hl := lv_entry ([.ref aM]) (n := 1) (Nat.le_of_ble_eq_true rfl)
  rw [lg_entry_eq]
  generalize (lg_sl ([.ref aM]) ++ List.replicate (1 - (lg_sl ([.ref aM])).length) Slot.unset).toArray = ls at hl ⊢
  have hl : lv_has ls 1 [(0, .ref aM)] := hl
  unfold wqM_freeWords at h
  refine lv_aload_n hx hb d_M_freeWords_0 rfl (lv_at hl 0 rfl) ?_
  refine va_get (D := (dC, dI)) (ci := 1) (v := .ref aW) (C := R_M) (T := T_M) (N := 11) hx hb hw in_M hown hK hP 2 rfl rfl 0 (by decide) (hw _ wd_63) (fun _ h9 => h9) rfl d_M_freeWords_1 ?_
  refine va_alen (v := nI nW) hx hb hK hP 3 0 rfl rfl rfl d_M_freeWords_4 ?_
  refine lv_aload_n hx hb d_M_freeWords_5 rfl (lv_at hl 0 rfl) ?_
  refine va_get (D := (dC, dI)) (ci := 1) (v := .int us) (C := R_M) (T := T_M) (N := 11) hx hb hw in_M hown hK hP 2 rfl rfl 1 (by decide) (hw _ wd_64) (fun _ h9 => h9) rfl d_M_freeWords_6 ?_
  refine lv_isub hx hb d_M_freeWords_9 ?_
  exact W.iret (v := (nI nW) - us) hx hb hr9 (fun t ht hW => ⟨_, rfl, h, ht⟩) (fun _ h9 => nomatch h9) d_M_freeWords_10
def wqM_freeEntries (nW : Nat) (nE : Nat) (sc : Int32) (post : Int32 → Prop) : Prop :=
  post sc
set_option maxHeartbeats 4000000 in
set_option maxRecDepth 100000 in
theorem mM_freeEntries (l : Launch) (dC : Nat → ClassId) (dI : Nat → Nat → Nat) (cA : ClassId) (a0 : Nat) (aR : Nat) (aM : Nat) (aW : Nat) (aP : Nat) (aS : Nat) (aC : Nat) (aO : Nat) (nW : Nat) (nE : Nat) (R : Nat → Int32) (f : Nat → Int32) (us : Int32) (P : Nat → Int32) (S : Nat → Int32) (sc : Int32) (li : Int32) (rc : Nat → Int32) (rn : Int32) (ro : Nat → Int32) (rd : Int32) (st : Int32) (post : Int32 → Prop) (h : wqM_freeEntries nW nE sc post) : Met l y_M_freeEntries ws_M_freeEntries ({ frames := 0, cells := 0, slots := 0, locals := 0 }) (ro_P (dC, dI) vwCl (TSw cA a0 aR aM aW aP aS aC aO nW nE R f us P S sc li rc rn ro rd st) [(cA, .int)] [.ref aM]) (rq_i post) 0 0 (fun _ => False) := by
  refine Met.ofW (cc := c_M_freeEntries) (maxL := 1) (ret := (some .int)) (by decide) rfl ?_
  intro p e s m args below meth c s₁ B hml hv
  obtain ⟨rfl, hP, hK⟩ := hv
  have hx := B.exec
  have hb := B.bytes
  have hr9 := B.returns
  have hts := atoms_spec (ws := ws_M_freeEntries) B.pre
  have hw : ∀ w ∈ WB_, w.before _ s = true := fun w h => hts w (List.mem_cons_of_mem _ h)
  have hown : s.vm.findClass R_M = some m.cls := findClass_of_methodNamed B.named
  have hlocks := B.notSynchronized
  have hl := lv_entry ([.ref aM]) (n := 1) (Nat.le_of_ble_eq_true rfl)
  rw [lg_entry_eq]
  generalize (lg_sl ([.ref aM]) ++ List.replicate (1 - (lg_sl ([.ref aM])).length) Slot.unset).toArray = ls at hl ⊢
  have hl : lv_has ls 1 [(0, .ref aM)] := hl
  unfold wqM_freeEntries at h
  refine lv_aload_n hx hb d_M_freeEntries_0 rfl (lv_at hl 0 rfl) ?_
  refine va_get (D := (dC, dI)) (ci := 1) (v := .int sc) (C := R_M) (T := T_M) (N := 11) hx hb hw in_M hown hK hP 2 rfl rfl 4 (by decide) (hw _ wd_67) (fun _ h9 => h9) rfl d_M_freeEntries_1 ?_
  exact W.iret (v := sc) hx hb hr9 (fun t ht hW => ⟨_, rfl, h, ht⟩) (fun _ h9 => nomatch h9) d_M_freeEntries_4
def wqM_fits (nW : Nat) (nE : Nat) (us : Int32) (sc : Int32) (a1 : Int32) (post : Int32 → Prop) : Prop :=
  (sc ≤ 0 → (post (0 : Int32))) ∧ (¬ (sc ≤ 0) → (wqM_freeWords nW nE us (fun r9 => (r9 < a1 → (post (0 : Int32))) ∧ (¬ (r9 < a1) → (post (1 : Int32))))))
set_option maxHeartbeats 4000000 in
set_option maxRecDepth 100000 in
theorem mM_fits (l : Launch) (dC : Nat → ClassId) (dI : Nat → Nat → Nat) (cA : ClassId) (a0 : Nat) (aR : Nat) (aM : Nat) (aW : Nat) (aP : Nat) (aS : Nat) (aC : Nat) (aO : Nat) (nW : Nat) (nE : Nat) (R : Nat → Int32) (f : Nat → Int32) (us : Int32) (P : Nat → Int32) (S : Nat → Int32) (sc : Int32) (li : Int32) (rc : Nat → Int32) (rn : Int32) (ro : Nat → Int32) (rd : Int32) (st : Int32) (a1 : Int32) (post : Int32 → Prop) (h : wqM_fits nW nE us sc a1 post) : Met l y_M_fits ws_M_fits ({ frames := 1, cells := 0, slots := 0, locals := 20 }) (ro_P (dC, dI) vwCl (TSw cA a0 aR aM aW aP aS aC aO nW nE R f us P S sc li rc rn ro rd st) [(cA, .int)] [.ref aM, .int a1]) (rq_i post) 0 0 (fun _ => False) := by
  refine Met.ofW (cc := c_M_fits) (maxL := 2) (ret := (some .boolean)) (by decide) rfl ?_
  intro p e s m args below meth c s₁ B hml hv
  obtain ⟨rfl, hP, hK⟩ := hv
  have hx := B.exec
  have hb := B.bytes
  have hr9 := B.returns
  have hts := atoms_spec (ws := ws_M_fits) B.pre
  have hw : ∀ w ∈ WB_, w.before _ s = true := fun w h => hts w (List.mem_cons_of_mem _ h)
  have hown : s.vm.findClass R_M = some m.cls := findClass_of_methodNamed B.named
  have hlocks := B.notSynchronized
  have hl := lv_entry ([.ref aM, .int a1]) (n := 2) (Nat.le_of_ble_eq_true rfl)
  rw [lg_entry_eq]
  generalize (lg_sl ([.ref aM, .int a1]) ++ List.replicate (2 - (lg_sl ([.ref aM, .int a1])).length) Slot.unset).toArray = ls at hl ⊢
  have hl : lv_has ls 2 [(0, .ref aM), (1, .int a1)] := hl
  unfold wqM_fits at h
  refine lv_aload_n hx hb d_M_fits_0 rfl (lv_at hl 0 rfl) ?_
  refine va_get (D := (dC, dI)) (ci := 1) (v := .int sc) (C := R_M) (T := T_M) (N := 11) hx hb hw in_M hown hK hP 2 rfl rfl 4 (by decide) (hw _ wd_67) (fun _ h9 => h9) rfl d_M_fits_1 ?_
  refine lv_if_le (tgt := 19) hx hb d_M_fits_4 (by decide) (fun c_4 => ?_) (fun c_4 => ?_)
  · have h := h.1 c_4
    refine lv_iconst (v := (0 : Int32)) hx hb d_M_fits_19 (by decide) ?_
    exact W.zret (v := (0 : Int32)) (ty := .boolean) hx hb hr9 rfl (fun t ht hW => ⟨_, rfl, h, ht⟩) (fun _ h9 => nomatch h9) d_M_fits_20
  · have h := h.2 c_4
    refine lv_iload_n hx hb d_M_fits_7 rfl (lv_at hl 1 rfl) ?_
    refine lv_aload_n hx hb d_M_fits_8 rfl (lv_at hl 0 rfl) ?_
    refine rq_calli (W.runV (As := []) (rest := [.int a1]) ⟨hx, hb, hml, hown, hw⟩ (mM_freeWords l dC dI cA a0 aR aM aW aP aS aC aO nW nE R f us P S sc li rc rn ro rd st _ h) (cwV 0 hw g_M_92 rfl rfl rfl (by decide +kernel) ⟨Nat.le_of_ble_eq_true rfl, Nat.le_of_ble_eq_true rfl⟩) (ro_PV (ci := 1) (q0 := 2) hK hP rfl rfl) rfl rfl hl.1 rfl (lv_room (Nat.le_of_ble_eq_true rfl)) d_M_fits_9 ⟨Nat.le_of_ble_eq_true rfl, Nat.le_of_ble_eq_true rfl⟩) (fun r9 h => ?_)
    refine lv_icmp_gt (tgt := 19) hx hb d_M_fits_12 (by decide) (fun c_12 => ?_) (fun c_12 => ?_)
    · have h := h.1 c_12
      refine lv_iconst (v := (0 : Int32)) hx hb d_M_fits_19 (by decide) ?_
      exact W.zret (v := (0 : Int32)) (ty := .boolean) hx hb hr9 rfl (fun t ht hW => ⟨_, rfl, h, ht⟩) (fun _ h9 => nomatch h9) d_M_fits_20
    · have h := h.2 c_12
      refine lv_iconst (v := (1 : Int32)) hx hb d_M_fits_15 (by decide) ?_
      refine lv_goto (tgt := 20) hx hb d_M_fits_16 (by decide) ?_
      exact W.zret (v := (1 : Int32)) (ty := .boolean) hx hb hr9 rfl (fun t ht hW => ⟨_, rfl, h, ht⟩) (fun _ h9 => nomatch h9) d_M_fits_20
def wqM_isReached (nW : Nat) (nE : Nat) (ro : Nat → Int32) (rd : Int32) (a1 : Int32) (post : Int32 → Prop) : Prop :=
  vp_in a1 nE ∧ (((ro a1.toNatClampNeg) = rd → (post (1 : Int32))) ∧ (¬ ((ro a1.toNatClampNeg) = rd) → (post (0 : Int32))))
set_option maxHeartbeats 4000000 in
set_option maxRecDepth 100000 in
theorem mM_isReached (l : Launch) (dC : Nat → ClassId) (dI : Nat → Nat → Nat) (cA : ClassId) (a0 : Nat) (aR : Nat) (aM : Nat) (aW : Nat) (aP : Nat) (aS : Nat) (aC : Nat) (aO : Nat) (nW : Nat) (nE : Nat) (R : Nat → Int32) (f : Nat → Int32) (us : Int32) (P : Nat → Int32) (S : Nat → Int32) (sc : Int32) (li : Int32) (rc : Nat → Int32) (rn : Int32) (ro : Nat → Int32) (rd : Int32) (st : Int32) (a1 : Int32) (post : Int32 → Prop) (h : wqM_isReached nW nE ro rd a1 post) : Met l y_M_isReached ws_M_isReached ({ frames := 0, cells := 0, slots := 0, locals := 0 }) (ro_P (dC, dI) vwCl (TSw cA a0 aR aM aW aP aS aC aO nW nE R f us P S sc li rc rn ro rd st) [(cA, .int)] [.ref aM, .int a1]) (rq_i post) 0 0 (fun _ => False) := by
  refine Met.ofW (cc := c_M_isReached) (maxL := 2) (ret := (some .boolean)) (by decide) rfl ?_
  intro p e s m args below meth c s₁ B hml hv
  obtain ⟨rfl, hP, hK⟩ := hv
  have hx := B.exec
  have hb := B.bytes
  have hr9 := B.returns
  have hts := atoms_spec (ws := ws_M_isReached) B.pre
  have hw : ∀ w ∈ WB_, w.before _ s = true := fun w h => hts w (List.mem_cons_of_mem _ h)
  have hown : s.vm.findClass R_M = some m.cls := findClass_of_methodNamed B.named
  have hlocks := B.notSynchronized
  have hl := lv_entry ([.ref aM, .int a1]) (n := 2) (Nat.le_of_ble_eq_true rfl)
  rw [lg_entry_eq]
  generalize (lg_sl ([.ref aM, .int a1]) ++ List.replicate (2 - (lg_sl ([.ref aM, .int a1])).length) Slot.unset).toArray = ls at hl ⊢
  have hl : lv_has ls 2 [(0, .ref aM), (1, .int a1)] := hl
  unfold wqM_isReached at h
  refine lv_aload_n hx hb d_M_isReached_0 rfl (lv_at hl 0 rfl) ?_
  refine va_get (D := (dC, dI)) (ci := 1) (v := .ref aO) (C := R_M) (T := T_M) (N := 11) hx hb hw in_M hown hK hP 2 rfl rfl 8 (by decide) (hw _ wd_71) (fun _ h9 => h9) rfl d_M_isReached_1 ?_
  refine lv_iload_n hx hb d_M_isReached_4 rfl (lv_at hl 1 rfl) ?_
  refine va_iald hx hb hK hP 7 0 rfl rfl h.1 d_M_isReached_5 ?_
  have h := h.2
  refine lv_aload_n hx hb d_M_isReached_6 rfl (lv_at hl 0 rfl) ?_
  refine va_get (D := (dC, dI)) (ci := 1) (v := .int rd) (C := R_M) (T := T_M) (N := 11) hx hb hw in_M hown hK hP 2 rfl rfl 9 (by decide) (hw _ wd_72) (fun _ h9 => h9) rfl d_M_isReached_7 ?_
  refine lv_icmp_ne (tgt := 17) hx hb d_M_isReached_10 (by decide) (fun c_10 => ?_) (fun c_10 => ?_)
  · have h := h.2 c_10
    refine lv_iconst (v := (0 : Int32)) hx hb d_M_isReached_17 (by decide) ?_
    exact W.zret (v := (0 : Int32)) (ty := .boolean) hx hb hr9 rfl (fun t ht hW => ⟨_, rfl, h, ht⟩) (fun _ h9 => nomatch h9) d_M_isReached_18
  · have h := h.1 c_10
    refine lv_iconst (v := (1 : Int32)) hx hb d_M_isReached_13 (by decide) ?_
    refine lv_goto (tgt := 18) hx hb d_M_isReached_14 (by decide) ?_
    exact W.zret (v := (1 : Int32)) (ty := .boolean) hx hb hr9 rfl (fun t ht hW => ⟨_, rfl, h, ht⟩) (fun _ h9 => nomatch h9) d_M_isReached_18
def wqM_endOfSlots (nW : Nat) (nE : Nat) (f : Nat → Int32) (a1 : Int32) (post : Int32 → Prop) : Prop :=
  vp_in (a1 + (3 : Int32)) nW ∧ (wqM_isOfBytes (f (a1 + (3 : Int32)).toNatClampNeg) (fun r13 => (r13 = 0 → (wqM_bodyWords (f (a1 + (3 : Int32)).toNatClampNeg) (fun r24 => post ((a1 + (4 : Int32)) + r24)))) ∧ (¬ (r13 = 0) → (post ((a1 + (4 : Int32)) + (0 : Int32))))))
set_option maxHeartbeats 4000000 in
set_option maxRecDepth 100000 in
theorem mM_endOfSlots (l : Launch) (dC : Nat → ClassId) (dI : Nat → Nat → Nat) (cA : ClassId) (a0 : Nat) (aR : Nat) (aM : Nat) (aW : Nat) (aP : Nat) (aS : Nat) (aC : Nat) (aO : Nat) (nW : Nat) (nE : Nat) (R : Nat → Int32) (f : Nat → Int32) (us : Int32) (P : Nat → Int32) (S : Nat → Int32) (sc : Int32) (li : Int32) (rc : Nat → Int32) (rn : Int32) (ro : Nat → Int32) (rd : Int32) (st : Int32) (a1 : Int32) (post : Int32 → Prop) (h : wqM_endOfSlots nW nE f a1 post) : Met l y_M_endOfSlots ws_M_endOfSlots ({ frames := 2, cells := 0, slots := 0, locals := 41 }) (ro_P (dC, dI) vwCl (TSw cA a0 aR aM aW aP aS aC aO nW nE R f us P S sc li rc rn ro rd st) [(cA, .int)] [.ref aM, .int a1]) (rq_i post) 0 0 (fun _ => False) := by
  refine Met.ofW (cc := c_M_endOfSlots) (maxL := 3) (ret := (some .int)) (by decide) rfl ?_
  intro p e s m args below meth c s₁ B hml hv
  obtain ⟨rfl, hP, hK⟩ := hv
  have hx := B.exec
  have hb := B.bytes
  have hr9 := B.returns
  have hts := atoms_spec (ws := ws_M_endOfSlots) B.pre
  have hw : ∀ w ∈ WB_, w.before _ s = true := fun w h => hts w (List.mem_cons_of_mem _ h)
  have hown : s.vm.findClass R_M = some m.cls := findClass_of_methodNamed B.named
  have hlocks := B.notSynchronized
  have hl := lv_entry ([.ref aM, .int a1]) (n := 3) (Nat.le_of_ble_eq_true rfl)
  rw [lg_entry_eq]
  generalize (lg_sl ([.ref aM, .int a1]) ++ List.replicate (3 - (lg_sl ([.ref aM, .int a1])).length) Slot.unset).toArray = ls at hl ⊢
  have hl : lv_has ls 3 [(0, .ref aM), (1, .int a1)] := hl
  unfold wqM_endOfSlots at h
  refine lv_aload_n hx hb d_M_endOfSlots_0 rfl (lv_at hl 0 rfl) ?_
  refine va_get (D := (dC, dI)) (ci := 1) (v := .ref aW) (C := R_M) (T := T_M) (N := 11) hx hb hw in_M hown hK hP 2 rfl rfl 0 (by decide) (hw _ wd_63) (fun _ h9 => h9) rfl d_M_endOfSlots_1 ?_
  refine lv_iload_n hx hb d_M_endOfSlots_4 rfl (lv_at hl 1 rfl) ?_
  refine lv_iconst (v := (3 : Int32)) hx hb d_M_endOfSlots_5 (by decide) ?_
  refine lv_iadd hx hb d_M_endOfSlots_6 ?_
  refine va_iald hx hb hK hP 3 0 rfl rfl h.1 d_M_endOfSlots_7 ?_
  have h := h.2
  refine lv_istore_n (lv' := [(2, .int (f (a1 + (3 : Int32)).toNatClampNeg)), (0, .ref aM), (1, .int a1)]) hx hb d_M_endOfSlots_8 rfl hl (by decide) rfl (fun ls hl => ?_)
  refine lv_iload_n hx hb d_M_endOfSlots_9 rfl (lv_at hl 2 rfl) ?_
  refine lv_iconst (v := (4 : Int32)) hx hb d_M_endOfSlots_10 (by decide) ?_
  refine lv_iadd hx hb d_M_endOfSlots_11 ?_
  refine lv_iload_n hx hb d_M_endOfSlots_12 rfl (lv_at hl 0 rfl) ?_
  refine rq_calli (W.runS (As := [.int (f (a1 + (3 : Int32)).toNatClampNeg)]) (rest := [.int (a1 + (4 : Int32))]) ⟨hx, hb, hml, hown, hw⟩ (mM_isOfBytes l (f (a1 + (3 : Int32)).toNatClampNeg) _ h) (va_cwS 1 hw g_M_33 rfl rfl rfl (by decide +kernel) ⟨Nat.le_of_ble_eq_true rfl, Nat.le_of_ble_eq_true rfl⟩) preEq rfl rfl hl.1 rfl (lv_room (Nat.le_of_ble_eq_true rfl)) d_M_endOfSlots_13 ⟨Nat.le_of_ble_eq_true rfl, Nat.le_of_ble_eq_true rfl⟩) (fun r13 h => ?_)
  refine lv_if_eq (tgt := 23) hx hb d_M_endOfSlots_16 (by decide) (fun c_16 => ?_) (fun c_16 => ?_)
  · have h := h.1 c_16
    refine lv_iload_n hx hb d_M_endOfSlots_23 rfl (lv_at hl 0 rfl) ?_
    refine rq_calli (W.runS (As := [.int (f (a1 + (3 : Int32)).toNatClampNeg)]) (rest := [.int (a1 + (4 : Int32))]) ⟨hx, hb, hml, hown, hw⟩ (mM_bodyWords l (f (a1 + (3 : Int32)).toNatClampNeg) _ h) (va_cwS 1 hw g_M_63 rfl rfl rfl (by decide +kernel) ⟨Nat.le_of_ble_eq_true rfl, Nat.le_of_ble_eq_true rfl⟩) preEq rfl rfl hl.1 rfl (lv_room (Nat.le_of_ble_eq_true rfl)) d_M_endOfSlots_24 ⟨Nat.le_of_ble_eq_true rfl, Nat.le_of_ble_eq_true rfl⟩) (fun r24 h => ?_)
    refine lv_iadd hx hb d_M_endOfSlots_27 ?_
    exact W.iret (v := (a1 + (4 : Int32)) + r24) hx hb hr9 (fun t ht hW => ⟨_, rfl, h, ht⟩) (fun _ h9 => nomatch h9) d_M_endOfSlots_28
  · have h := h.2 c_16
    refine lv_iconst (v := (0 : Int32)) hx hb d_M_endOfSlots_19 (by decide) ?_
    refine lv_goto (tgt := 27) hx hb d_M_endOfSlots_20 (by decide) ?_
    refine lv_iadd hx hb d_M_endOfSlots_27 ?_
    exact W.iret (v := (a1 + (4 : Int32)) + (0 : Int32)) hx hb hr9 (fun t ht hW => ⟨_, rfl, h, ht⟩) (fun _ h9 => nomatch h9) d_M_endOfSlots_28
def wqM_bodyWordsAt (nW : Nat) (nE : Nat) (f : Nat → Int32) (a1 : Int32) (post : Int32 → Prop) : Prop :=
  vp_in (a1 + (3 : Int32)) nW ∧ (wqM_bodyWords (f (a1 + (3 : Int32)).toNatClampNeg) (fun r8 => post r8))
set_option maxHeartbeats 4000000 in
set_option maxRecDepth 100000 in
theorem mM_bodyWordsAt (l : Launch) (dC : Nat → ClassId) (dI : Nat → Nat → Nat) (cA : ClassId) (a0 : Nat) (aR : Nat) (aM : Nat) (aW : Nat) (aP : Nat) (aS : Nat) (aC : Nat) (aO : Nat) (nW : Nat) (nE : Nat) (R : Nat → Int32) (f : Nat → Int32) (us : Int32) (P : Nat → Int32) (S : Nat → Int32) (sc : Int32) (li : Int32) (rc : Nat → Int32) (rn : Int32) (ro : Nat → Int32) (rd : Int32) (st : Int32) (a1 : Int32) (post : Int32 → Prop) (h : wqM_bodyWordsAt nW nE f a1 post) : Met l y_M_bodyWordsAt ws_M_bodyWordsAt ({ frames := 2, cells := 0, slots := 0, locals := 41 }) (ro_P (dC, dI) vwCl (TSw cA a0 aR aM aW aP aS aC aO nW nE R f us P S sc li rc rn ro rd st) [(cA, .int)] [.ref aM, .int a1]) (rq_i post) 0 0 (fun _ => False) := by
  refine Met.ofW (cc := c_M_bodyWordsAt) (maxL := 2) (ret := (some .int)) (by decide) rfl ?_
  intro p e s m args below meth c s₁ B hml hv
  obtain ⟨rfl, hP, hK⟩ := hv
  have hx := B.exec
  have hb := B.bytes
  have hr9 := B.returns
  have hts := atoms_spec (ws := ws_M_bodyWordsAt) B.pre
  have hw : ∀ w ∈ WB_, w.before _ s = true := fun w h => hts w (List.mem_cons_of_mem _ h)
  have hown : s.vm.findClass R_M = some m.cls := findClass_of_methodNamed B.named
  have hlocks := B.notSynchronized
  have hl := lv_entry ([.ref aM, .int a1]) (n := 2) (Nat.le_of_ble_eq_true rfl)
  rw [lg_entry_eq]
  generalize (lg_sl ([.ref aM, .int a1]) ++ List.replicate (2 - (lg_sl ([.ref aM, .int a1])).length) Slot.unset).toArray = ls at hl ⊢
  have hl : lv_has ls 2 [(0, .ref aM), (1, .int a1)] := hl
  unfold wqM_bodyWordsAt at h
  refine lv_aload_n hx hb d_M_bodyWordsAt_0 rfl (lv_at hl 0 rfl) ?_
  refine va_get (D := (dC, dI)) (ci := 1) (v := .ref aW) (C := R_M) (T := T_M) (N := 11) hx hb hw in_M hown hK hP 2 rfl rfl 0 (by decide) (hw _ wd_63) (fun _ h9 => h9) rfl d_M_bodyWordsAt_1 ?_
  refine lv_iload_n hx hb d_M_bodyWordsAt_4 rfl (lv_at hl 1 rfl) ?_
  refine lv_iconst (v := (3 : Int32)) hx hb d_M_bodyWordsAt_5 (by decide) ?_
  refine lv_iadd hx hb d_M_bodyWordsAt_6 ?_
  refine va_iald hx hb hK hP 3 0 rfl rfl h.1 d_M_bodyWordsAt_7 ?_
  have h := h.2
  refine rq_calli (W.runS (As := [.int (f (a1 + (3 : Int32)).toNatClampNeg)]) (rest := []) ⟨hx, hb, hml, hown, hw⟩ (mM_bodyWords l (f (a1 + (3 : Int32)).toNatClampNeg) _ h) (va_cwS 1 hw g_M_63 rfl rfl rfl (by decide +kernel) ⟨Nat.le_of_ble_eq_true rfl, Nat.le_of_ble_eq_true rfl⟩) preEq rfl rfl hl.1 rfl (lv_room (Nat.le_of_ble_eq_true rfl)) d_M_bodyWordsAt_8 ⟨Nat.le_of_ble_eq_true rfl, Nat.le_of_ble_eq_true rfl⟩) (fun r8 h => ?_)
  exact W.iret (v := r8) hx hb hr9 (fun t ht hW => ⟨_, rfl, h, ht⟩) (fun _ h9 => nomatch h9) d_M_bodyWordsAt_11
def wqM_findOfClass_5 (nW : Nat) (nE : Nat) (f : Nat → Int32) (us : Int32) (y1_5 : Int32) (y2_5 : Int32) (post : Int32 → Prop) (kx : Int32 → Int32 → Prop) : Nat → Int32 → Int32 → Prop
  | 0, _, _ => False
  | n + 1, x3_5, x4_5 =>
    (us ≤ x4_5 → (kx x3_5 x4_5)) ∧ (¬ (us ≤ x4_5) → (vp_in (x4_5 + (2 : Int32)) nW ∧ (((f (x4_5 + (2 : Int32)).toNatClampNeg) = y1_5 → ((x3_5 = y2_5 → (vp_in (x4_5 + (0 : Int32)) nW ∧ (wqV_ofEntry (f (x4_5 + (0 : Int32)).toNatClampNeg) (fun r41 => post r41)))) ∧ (¬ (x3_5 = y2_5) → (wqM_bodyWordsAt nW nE f x4_5 (fun r54 => wqM_findOfClass_5 nW nE f us y1_5 y2_5 post kx n (x3_5 + (1 : Int32)) (x4_5 + ((4 : Int32) + r54))))))) ∧ (¬ ((f (x4_5 + (2 : Int32)).toNatClampNeg) = y1_5) → (wqM_bodyWordsAt nW nE f x4_5 (fun r54 => wqM_findOfClass_5 nW nE f us y1_5 y2_5 post kx n x3_5 (x4_5 + ((4 : Int32) + r54))))))))
def wqM_findOfClass (nW : Nat) (nE : Nat) (f : Nat → Int32) (us : Int32) (a1 : Int32) (a2 : Int32) (post : Int32 → Prop) : Prop :=
  ∃ k_5, wqM_findOfClass_5 nW nE f us a1 a2 post (fun z3_5 z4_5 => post (0 : Int32)) k_5 (0 : Int32) (0 : Int32)
set_option maxHeartbeats 4000000 in
set_option maxRecDepth 100000 in
theorem mM_findOfClass (l : Launch) (dC : Nat → ClassId) (dI : Nat → Nat → Nat) (cA : ClassId) (a0 : Nat) (aR : Nat) (aM : Nat) (aW : Nat) (aP : Nat) (aS : Nat) (aC : Nat) (aO : Nat) (nW : Nat) (nE : Nat) (R : Nat → Int32) (f : Nat → Int32) (us : Int32) (P : Nat → Int32) (S : Nat → Int32) (sc : Int32) (li : Int32) (rc : Nat → Int32) (rn : Int32) (ro : Nat → Int32) (rd : Int32) (st : Int32) (a1 : Int32) (a2 : Int32) (post : Int32 → Prop) (h : wqM_findOfClass nW nE f us a1 a2 post) : Met l y_M_findOfClass ws_M_findOfClass ({ frames := 3, cells := 0, slots := 0, locals := 62 }) (ro_P (dC, dI) vwCl (TSw cA a0 aR aM aW aP aS aC aO nW nE R f us P S sc li rc rn ro rd st) [(cA, .int)] [.ref aM, .int a1, .int a2]) (rq_i post) 0 0 (fun _ => False) := by
  refine Met.ofW (cc := c_M_findOfClass) (maxL := 5) (ret := (some .int)) (by decide) rfl ?_
  intro p e s m args below meth c s₁ B hml hv
  obtain ⟨rfl, hP, hK⟩ := hv
  have hx := B.exec
  have hb := B.bytes
  have hr9 := B.returns
  have hts := atoms_spec (ws := ws_M_findOfClass) B.pre
  have hw : ∀ w ∈ WB_, w.before _ s = true := fun w h => hts w (List.mem_cons_of_mem _ h)
  have hown : s.vm.findClass R_M = some m.cls := findClass_of_methodNamed B.named
  have hlocks := B.notSynchronized
  have hl := lv_entry ([.ref aM, .int a1, .int a2]) (n := 5) (Nat.le_of_ble_eq_true rfl)
  rw [lg_entry_eq]
  generalize (lg_sl ([.ref aM, .int a1, .int a2]) ++ List.replicate (5 - (lg_sl ([.ref aM, .int a1, .int a2])).length) Slot.unset).toArray = ls at hl ⊢
  have hl : lv_has ls 5 [(0, .ref aM), (1, .int a1), (2, .int a2)] := hl
  have lp_5 : ∀ (y1_5 : Int32) (y2_5 : Int32) (kx : Int32 → Int32 → Prop), (∀ (z3_5 : Int32) (z4_5 : Int32) (ls : Array Slot), lv_has ls 5 [(0, .ref aM), (1, .int y1_5), (2, .int y2_5), (3, .int z3_5), (4, .int z4_5)] → kx z3_5 z4_5 → W p l e (headSpec ws_M_findOfClass ({ frames := 3, cells := 0, slots := 0, locals := 62 })).room s m ([.ref aM, .int a1, .int a2] : List Value).toArray below meth c s.heap [] 0 0 (MQ below (rq_i post) ([.ref aM, .int a1, .int a2] : List Value).toArray s 0 0 (fun _ => False)) (F0 m 64 ls [])) → ∀ (n : Nat) (x3_5 : Int32) (x4_5 : Int32) (ls : Array Slot), lv_has ls 5 [(0, .ref aM), (1, .int y1_5), (2, .int y2_5), (3, .int x3_5), (4, .int x4_5)] → wqM_findOfClass_5 nW nE f us y1_5 y2_5 post kx n x3_5 x4_5 → W p l e (headSpec ws_M_findOfClass ({ frames := 3, cells := 0, slots := 0, locals := 62 })).room s m ([.ref aM, .int a1, .int a2] : List Value).toArray below meth c s.heap [] 0 0 (MQ below (rq_i post) ([.ref aM, .int a1, .int a2] : List Value).toArray s 0 0 (fun _ => False)) (F0 m 5 ls []) := by
    intro y1_5 y2_5 kx K n
    induction n with
    | zero => intro x3_5 x4_5 ls hl h; exact h.elim
    | succ n ih =>
      intro x3_5 x4_5 ls hl h
      refine lv_iload hx hb d_M_findOfClass_5 (lv_at hl 4 rfl) ?_
      refine lv_aload_n hx hb d_M_findOfClass_7 rfl (lv_at hl 0 rfl) ?_
      refine va_get (D := (dC, dI)) (ci := 1) (v := .int us) (C := R_M) (T := T_M) (N := 11) hx hb hw in_M hown hK hP 2 rfl rfl 1 (by decide) (hw _ wd_64) (fun _ h9 => h9) rfl d_M_findOfClass_8 ?_
      refine lv_icmp_ge (tgt := 64) hx hb d_M_findOfClass_11 (by decide) (fun c_11 => ?_) (fun c_11 => ?_)
      · have h := h.1 c_11
        exact K x3_5 x4_5 ls (lv_sub hl [0, 1, 2, 3, 4] rfl) h
      · have h := h.2 c_11
        refine lv_aload_n hx hb d_M_findOfClass_14 rfl (lv_at hl 0 rfl) ?_
        refine va_get (D := (dC, dI)) (ci := 1) (v := .ref aW) (C := R_M) (T := T_M) (N := 11) hx hb hw in_M hown hK hP 2 rfl rfl 0 (by decide) (hw _ wd_63) (fun _ h9 => h9) rfl d_M_findOfClass_15 ?_
        refine lv_iload hx hb d_M_findOfClass_18 (lv_at hl 4 rfl) ?_
        refine lv_iconst (v := (2 : Int32)) hx hb d_M_findOfClass_20 (by decide) ?_
        refine lv_iadd hx hb d_M_findOfClass_21 ?_
        refine va_iald hx hb hK hP 3 0 rfl rfl h.1 d_M_findOfClass_22 ?_
        have h := h.2
        refine lv_iload_n hx hb d_M_findOfClass_23 rfl (lv_at hl 1 rfl) ?_
        refine lv_icmp_ne (tgt := 48) hx hb d_M_findOfClass_24 (by decide) (fun c_24 => ?_) (fun c_24 => ?_)
        · have h := h.2 c_24
          refine lv_iload hx hb d_M_findOfClass_48 (lv_at hl 4 rfl) ?_
          refine lv_iconst (v := (4 : Int32)) hx hb d_M_findOfClass_50 (by decide) ?_
          refine lv_aload_n hx hb d_M_findOfClass_51 rfl (lv_at hl 0 rfl) ?_
          refine lv_iload hx hb d_M_findOfClass_52 (lv_at hl 4 rfl) ?_
          refine rq_calli (W.runV (As := [.int x4_5]) (rest := [.int (4 : Int32), .int x4_5]) ⟨hx, hb, hml, hown, hw⟩ (mM_bodyWordsAt l dC dI cA a0 aR aM aW aP aS aC aO nW nE R f us P S sc li rc rn ro rd st x4_5 _ h) (cwV 1 hw g_M_123 rfl rfl rfl (by decide +kernel) ⟨Nat.le_of_ble_eq_true rfl, Nat.le_of_ble_eq_true rfl⟩) (ro_PV (ci := 1) (q0 := 2) hK hP rfl rfl) rfl rfl hl.1 rfl (lv_room (Nat.le_of_ble_eq_true rfl)) d_M_findOfClass_54 ⟨Nat.le_of_ble_eq_true rfl, Nat.le_of_ble_eq_true rfl⟩) (fun r54 h => ?_)
          refine lv_iadd hx hb d_M_findOfClass_57 ?_
          refine lv_iadd hx hb d_M_findOfClass_58 ?_
          refine lv_istore (lv' := [(4, .int (x4_5 + ((4 : Int32) + r54))), (0, .ref aM), (1, .int y1_5), (2, .int y2_5), (3, .int x3_5)]) hx hb d_M_findOfClass_59 hl (by decide) rfl (fun ls hl => ?_)
          refine lv_goto (tgt := 5) hx hb d_M_findOfClass_61 (by decide) ?_
          exact ih x3_5 (x4_5 + ((4 : Int32) + r54)) ls (lv_sub hl [1, 2, 3, 4, 0] rfl) h
        · have h := h.1 c_24
          refine lv_iload_n hx hb d_M_findOfClass_27 rfl (lv_at hl 3 rfl) ?_
          refine lv_iload_n hx hb d_M_findOfClass_28 rfl (lv_at hl 2 rfl) ?_
          refine lv_icmp_ne (tgt := 45) hx hb d_M_findOfClass_29 (by decide) (fun c_29 => ?_) (fun c_29 => ?_)
          · have h := h.2 c_29
            refine lv_iinc (v := x3_5 + (1 : Int32)) (lv' := [(3, .int (x3_5 + (1 : Int32))), (0, .ref aM), (1, .int y1_5), (2, .int y2_5), (4, .int x4_5)]) hx hb d_M_findOfClass_45 hl (k := 3) rfl rfl (by decide) rfl (fun ls hl => ?_)
            refine lv_iload hx hb d_M_findOfClass_48 (lv_at hl 4 rfl) ?_
            refine lv_iconst (v := (4 : Int32)) hx hb d_M_findOfClass_50 (by decide) ?_
            refine lv_aload_n hx hb d_M_findOfClass_51 rfl (lv_at hl 1 rfl) ?_
            refine lv_iload hx hb d_M_findOfClass_52 (lv_at hl 4 rfl) ?_
            refine rq_calli (W.runV (As := [.int x4_5]) (rest := [.int (4 : Int32), .int x4_5]) ⟨hx, hb, hml, hown, hw⟩ (mM_bodyWordsAt l dC dI cA a0 aR aM aW aP aS aC aO nW nE R f us P S sc li rc rn ro rd st x4_5 _ h) (cwV 1 hw g_M_123 rfl rfl rfl (by decide +kernel) ⟨Nat.le_of_ble_eq_true rfl, Nat.le_of_ble_eq_true rfl⟩) (ro_PV (ci := 1) (q0 := 2) hK hP rfl rfl) rfl rfl hl.1 rfl (lv_room (Nat.le_of_ble_eq_true rfl)) d_M_findOfClass_54 ⟨Nat.le_of_ble_eq_true rfl, Nat.le_of_ble_eq_true rfl⟩) (fun r54 h => ?_)
            refine lv_iadd hx hb d_M_findOfClass_57 ?_
            refine lv_iadd hx hb d_M_findOfClass_58 ?_
            refine lv_istore (lv' := [(4, .int (x4_5 + ((4 : Int32) + r54))), (3, .int (x3_5 + (1 : Int32))), (0, .ref aM), (1, .int y1_5), (2, .int y2_5)]) hx hb d_M_findOfClass_59 hl (by decide) rfl (fun ls hl => ?_)
            refine lv_goto (tgt := 5) hx hb d_M_findOfClass_61 (by decide) ?_
            exact ih (x3_5 + (1 : Int32)) (x4_5 + ((4 : Int32) + r54)) ls (lv_sub hl [2, 3, 4, 1, 0] rfl) h
          · have h := h.1 c_29
            refine lv_aload_n hx hb d_M_findOfClass_32 rfl (lv_at hl 0 rfl) ?_
            refine va_get (D := (dC, dI)) (ci := 1) (v := .ref aW) (C := R_M) (T := T_M) (N := 11) hx hb hw in_M hown hK hP 2 rfl rfl 0 (by decide) (hw _ wd_63) (fun _ h9 => h9) rfl d_M_findOfClass_33 ?_
            refine lv_iload hx hb d_M_findOfClass_36 (lv_at hl 4 rfl) ?_
            refine lv_iconst (v := (0 : Int32)) hx hb d_M_findOfClass_38 (by decide) ?_
            refine lv_iadd hx hb d_M_findOfClass_39 ?_
            refine va_iald hx hb hK hP 3 0 rfl rfl h.1 d_M_findOfClass_40 ?_
            have h := h.2
            refine rq_calli (W.runS (As := [.int (f (x4_5 + (0 : Int32)).toNatClampNeg)]) (rest := []) ⟨hx, hb, hml, hown, hw⟩ (mV_ofEntry l (f (x4_5 + (0 : Int32)).toNatClampNeg) _ h) (va_cwS 1 hw g_M_76 rfl rfl rfl (by decide +kernel) ⟨Nat.le_of_ble_eq_true rfl, Nat.le_of_ble_eq_true rfl⟩) preEq rfl rfl hl.1 rfl (lv_room (Nat.le_of_ble_eq_true rfl)) d_M_findOfClass_41 ⟨Nat.le_of_ble_eq_true rfl, Nat.le_of_ble_eq_true rfl⟩) (fun r41 h => ?_)
            exact W.iret (v := r41) hx hb hr9 (fun t ht hW => ⟨_, rfl, h, ht⟩) (fun _ h9 => nomatch h9) d_M_findOfClass_44
  unfold wqM_findOfClass at h
  refine lv_iconst (v := (0 : Int32)) hx hb d_M_findOfClass_0 (by decide) ?_
  refine lv_istore_n (lv' := [(3, .int (0 : Int32)), (0, .ref aM), (1, .int a1), (2, .int a2)]) hx hb d_M_findOfClass_1 rfl hl (by decide) rfl (fun ls hl => ?_)
  refine lv_iconst (v := (0 : Int32)) hx hb d_M_findOfClass_2 (by decide) ?_
  refine lv_istore (lv' := [(4, .int (0 : Int32)), (3, .int (0 : Int32)), (0, .ref aM), (1, .int a1), (2, .int a2)]) hx hb d_M_findOfClass_3 hl (by decide) rfl (fun ls hl => ?_)
  obtain ⟨n_5, h⟩ := h
  refine lp_5 a1 a2 _ (fun z3_5 z4_5 ls hl h => ?_) n_5 (0 : Int32) (0 : Int32) ls (lv_sub hl [2, 3, 4, 1, 0] rfl) h
  refine lv_iconst (v := (0 : Int32)) hx hb d_M_findOfClass_64 (by decide) ?_
  exact W.iret (v := (0 : Int32)) hx hb hr9 (fun t ht hW => ⟨_, rfl, h, ht⟩) (fun _ h9 => nomatch h9) d_M_findOfClass_65
def wqM_countHolders_39 (nW : Nat) (nE : Nat) (f : Nat → Int32) (us : Int32) (y1_39 : Int32) (y3_39 : Int32) (y4_39 : Int32) (post : Int32 → Prop) (kx : Int32 → Int32 → Prop) : Nat → Int32 → Int32 → Prop
  | 0, _, _ => False
  | n + 1, x2_39, x5_39 =>
    (y4_39 ≤ x5_39 → (kx x2_39 x5_39)) ∧ (¬ (y4_39 ≤ x5_39) → (vp_in x5_39 nW ∧ (((f x5_39.toNatClampNeg) = y1_39 → (wqM_countHolders_39 nW nE f us y1_39 y3_39 y4_39 post kx n (x2_39 + (1 : Int32)) (x5_39 + (1 : Int32)))) ∧ (¬ ((f x5_39.toNatClampNeg) = y1_39) → (wqM_countHolders_39 nW nE f us y1_39 y3_39 y4_39 post kx n x2_39 (x5_39 + (1 : Int32)))))))
def wqM_countHolders_4 (nW : Nat) (nE : Nat) (f : Nat → Int32) (us : Int32) (y1_4 : Int32) (post : Int32 → Prop) (kx : Int32 → Int32 → Prop) : Nat → Int32 → Int32 → Prop
  | 0, _, _ => False
  | n + 1, x2_4, x3_4 =>
    (us ≤ x3_4 → (kx x2_4 x3_4)) ∧ (¬ (us ≤ x3_4) → (vp_in (x3_4 + (2 : Int32)) nW ∧ (((f (x3_4 + (2 : Int32)).toNatClampNeg) = y1_4 → (wqM_endOfSlots nW nE f x3_4 (fun r29 => ∃ k_39, wqM_countHolders_39 nW nE f us y1_4 x3_4 r29 post (fun z2_39 z5_39 => wqM_bodyWordsAt nW nE f x3_4 (fun r70 => wqM_countHolders_4 nW nE f us y1_4 post kx n z2_39 (x3_4 + ((4 : Int32) + r70)))) k_39 (x2_4 + (1 : Int32)) (x3_4 + (4 : Int32))))) ∧ (¬ ((f (x3_4 + (2 : Int32)).toNatClampNeg) = y1_4) → (wqM_endOfSlots nW nE f x3_4 (fun r29 => ∃ k_39, wqM_countHolders_39 nW nE f us y1_4 x3_4 r29 post (fun z2_39 z5_39 => wqM_bodyWordsAt nW nE f x3_4 (fun r70 => wqM_countHolders_4 nW nE f us y1_4 post kx n z2_39 (x3_4 + ((4 : Int32) + r70)))) k_39 x2_4 (x3_4 + (4 : Int32))))))))
def wqM_countHolders (nW : Nat) (nE : Nat) (f : Nat → Int32) (us : Int32) (a1 : Int32) (post : Int32 → Prop) : Prop :=
  ∃ k_4, wqM_countHolders_4 nW nE f us a1 post (fun z2_4 z3_4 => post z2_4) k_4 (0 : Int32) (0 : Int32)
set_option maxHeartbeats 4000000 in
set_option maxRecDepth 100000 in
theorem mM_countHolders (l : Launch) (dC : Nat → ClassId) (dI : Nat → Nat → Nat) (cA : ClassId) (a0 : Nat) (aR : Nat) (aM : Nat) (aW : Nat) (aP : Nat) (aS : Nat) (aC : Nat) (aO : Nat) (nW : Nat) (nE : Nat) (R : Nat → Int32) (f : Nat → Int32) (us : Int32) (P : Nat → Int32) (S : Nat → Int32) (sc : Int32) (li : Int32) (rc : Nat → Int32) (rn : Int32) (ro : Nat → Int32) (rd : Int32) (st : Int32) (a1 : Int32) (post : Int32 → Prop) (h : wqM_countHolders nW nE f us a1 post) : Met l y_M_countHolders ws_M_countHolders ({ frames := 3, cells := 0, slots := 0, locals := 63 }) (ro_P (dC, dI) vwCl (TSw cA a0 aR aM aW aP aS aC aO nW nE R f us P S sc li rc rn ro rd st) [(cA, .int)] [.ref aM, .int a1]) (rq_i post) 0 0 (fun _ => False) := by
  refine Met.ofW (cc := c_M_countHolders) (maxL := 6) (ret := (some .int)) (by decide) rfl ?_
  intro p e s m args below meth c s₁ B hml hv
  obtain ⟨rfl, hP, hK⟩ := hv
  have hx := B.exec
  have hb := B.bytes
  have hr9 := B.returns
  have hts := atoms_spec (ws := ws_M_countHolders) B.pre
  have hw : ∀ w ∈ WB_, w.before _ s = true := fun w h => hts w (List.mem_cons_of_mem _ h)
  have hown : s.vm.findClass R_M = some m.cls := findClass_of_methodNamed B.named
  have hlocks := B.notSynchronized
  have hl := lv_entry ([.ref aM, .int a1]) (n := 6) (Nat.le_of_ble_eq_true rfl)
  rw [lg_entry_eq]
  generalize (lg_sl ([.ref aM, .int a1]) ++ List.replicate (6 - (lg_sl ([.ref aM, .int a1])).length) Slot.unset).toArray = ls at hl ⊢
  have hl : lv_has ls 6 [(0, .ref aM), (1, .int a1)] := hl
  have lp_39 : ∀ (y1_39 : Int32) (y3_39 : Int32) (y4_39 : Int32) (kx : Int32 → Int32 → Prop), (∀ (z2_39 : Int32) (z5_39 : Int32) (ls : Array Slot), lv_has ls 6 [(0, .ref aM), (1, .int y1_39), (2, .int z2_39), (3, .int y3_39), (4, .int y4_39), (5, .int z5_39)] → kx z2_39 z5_39 → W p l e (headSpec ws_M_countHolders ({ frames := 3, cells := 0, slots := 0, locals := 63 })).room s m ([.ref aM, .int a1] : List Value).toArray below meth c s.heap [] 0 0 (MQ below (rq_i post) ([.ref aM, .int a1] : List Value).toArray s 0 0 (fun _ => False)) (F0 m 66 ls [])) → ∀ (n : Nat) (x2_39 : Int32) (x5_39 : Int32) (ls : Array Slot), lv_has ls 6 [(0, .ref aM), (1, .int y1_39), (2, .int x2_39), (3, .int y3_39), (4, .int y4_39), (5, .int x5_39)] → wqM_countHolders_39 nW nE f us y1_39 y3_39 y4_39 post kx n x2_39 x5_39 → W p l e (headSpec ws_M_countHolders ({ frames := 3, cells := 0, slots := 0, locals := 63 })).room s m ([.ref aM, .int a1] : List Value).toArray below meth c s.heap [] 0 0 (MQ below (rq_i post) ([.ref aM, .int a1] : List Value).toArray s 0 0 (fun _ => False)) (F0 m 39 ls []) := by
    intro y1_39 y3_39 y4_39 kx K n
    induction n with
    | zero => intro x2_39 x5_39 ls hl h; exact h.elim
    | succ n ih =>
      intro x2_39 x5_39 ls hl h
      refine lv_iload hx hb d_M_countHolders_39 (lv_at hl 5 rfl) ?_
      refine lv_iload hx hb d_M_countHolders_41 (lv_at hl 4 rfl) ?_
      refine lv_icmp_ge (tgt := 66) hx hb d_M_countHolders_43 (by decide) (fun c_43 => ?_) (fun c_43 => ?_)
      · have h := h.1 c_43
        exact K x2_39 x5_39 ls (lv_sub hl [0, 1, 2, 3, 4, 5] rfl) h
      · have h := h.2 c_43
        refine lv_aload_n hx hb d_M_countHolders_46 rfl (lv_at hl 0 rfl) ?_
        refine va_get (D := (dC, dI)) (ci := 1) (v := .ref aW) (C := R_M) (T := T_M) (N := 11) hx hb hw in_M hown hK hP 2 rfl rfl 0 (by decide) (hw _ wd_63) (fun _ h9 => h9) rfl d_M_countHolders_47 ?_
        refine lv_iload hx hb d_M_countHolders_50 (lv_at hl 5 rfl) ?_
        refine va_iald hx hb hK hP 3 0 rfl rfl h.1 d_M_countHolders_52 ?_
        have h := h.2
        refine lv_iload_n hx hb d_M_countHolders_53 rfl (lv_at hl 1 rfl) ?_
        refine lv_icmp_ne (tgt := 60) hx hb d_M_countHolders_54 (by decide) (fun c_54 => ?_) (fun c_54 => ?_)
        · have h := h.2 c_54
          refine lv_iinc (v := x5_39 + (1 : Int32)) (lv' := [(5, .int (x5_39 + (1 : Int32))), (0, .ref aM), (1, .int y1_39), (2, .int x2_39), (3, .int y3_39), (4, .int y4_39)]) hx hb d_M_countHolders_60 hl (k := 5) rfl rfl (by decide) rfl (fun ls hl => ?_)
          refine lv_goto (tgt := 39) hx hb d_M_countHolders_63 (by decide) ?_
          exact ih x2_39 (x5_39 + (1 : Int32)) ls (lv_sub hl [1, 2, 3, 4, 5, 0] rfl) h
        · have h := h.1 c_54
          refine lv_iinc (v := x2_39 + (1 : Int32)) (lv' := [(2, .int (x2_39 + (1 : Int32))), (0, .ref aM), (1, .int y1_39), (3, .int y3_39), (4, .int y4_39), (5, .int x5_39)]) hx hb d_M_countHolders_57 hl (k := 2) rfl rfl (by decide) rfl (fun ls hl => ?_)
          refine lv_iinc (v := x5_39 + (1 : Int32)) (lv' := [(5, .int (x5_39 + (1 : Int32))), (2, .int (x2_39 + (1 : Int32))), (0, .ref aM), (1, .int y1_39), (3, .int y3_39), (4, .int y4_39)]) hx hb d_M_countHolders_60 hl (k := 5) rfl rfl (by decide) rfl (fun ls hl => ?_)
          refine lv_goto (tgt := 39) hx hb d_M_countHolders_63 (by decide) ?_
          exact ih (x2_39 + (1 : Int32)) (x5_39 + (1 : Int32)) ls (lv_sub hl [2, 3, 1, 4, 5, 0] rfl) h
  have lp_4 : ∀ (y1_4 : Int32) (kx : Int32 → Int32 → Prop), (∀ (z2_4 : Int32) (z3_4 : Int32) (ls : Array Slot), lv_has ls 6 [(0, .ref aM), (1, .int y1_4), (2, .int z2_4), (3, .int z3_4)] → kx z2_4 z3_4 → W p l e (headSpec ws_M_countHolders ({ frames := 3, cells := 0, slots := 0, locals := 63 })).room s m ([.ref aM, .int a1] : List Value).toArray below meth c s.heap [] 0 0 (MQ below (rq_i post) ([.ref aM, .int a1] : List Value).toArray s 0 0 (fun _ => False)) (F0 m 79 ls [])) → ∀ (n : Nat) (x2_4 : Int32) (x3_4 : Int32) (ls : Array Slot), lv_has ls 6 [(0, .ref aM), (1, .int y1_4), (2, .int x2_4), (3, .int x3_4)] → wqM_countHolders_4 nW nE f us y1_4 post kx n x2_4 x3_4 → W p l e (headSpec ws_M_countHolders ({ frames := 3, cells := 0, slots := 0, locals := 63 })).room s m ([.ref aM, .int a1] : List Value).toArray below meth c s.heap [] 0 0 (MQ below (rq_i post) ([.ref aM, .int a1] : List Value).toArray s 0 0 (fun _ => False)) (F0 m 4 ls []) := by
    intro y1_4 kx K n
    induction n with
    | zero => intro x2_4 x3_4 ls hl h; exact h.elim
    | succ n ih =>
      intro x2_4 x3_4 ls hl h
      refine lv_iload_n hx hb d_M_countHolders_4 rfl (lv_at hl 3 rfl) ?_
      refine lv_aload_n hx hb d_M_countHolders_5 rfl (lv_at hl 0 rfl) ?_
      refine va_get (D := (dC, dI)) (ci := 1) (v := .int us) (C := R_M) (T := T_M) (N := 11) hx hb hw in_M hown hK hP 2 rfl rfl 1 (by decide) (hw _ wd_64) (fun _ h9 => h9) rfl d_M_countHolders_6 ?_
      refine lv_icmp_ge (tgt := 79) hx hb d_M_countHolders_9 (by decide) (fun c_9 => ?_) (fun c_9 => ?_)
      · have h := h.1 c_9
        exact K x2_4 x3_4 ls (lv_sub hl [0, 1, 2, 3] rfl) h
      · have h := h.2 c_9
        refine lv_aload_n hx hb d_M_countHolders_12 rfl (lv_at hl 0 rfl) ?_
        refine va_get (D := (dC, dI)) (ci := 1) (v := .ref aW) (C := R_M) (T := T_M) (N := 11) hx hb hw in_M hown hK hP 2 rfl rfl 0 (by decide) (hw _ wd_63) (fun _ h9 => h9) rfl d_M_countHolders_13 ?_
        refine lv_iload_n hx hb d_M_countHolders_16 rfl (lv_at hl 3 rfl) ?_
        refine lv_iconst (v := (2 : Int32)) hx hb d_M_countHolders_17 (by decide) ?_
        refine lv_iadd hx hb d_M_countHolders_18 ?_
        refine va_iald hx hb hK hP 3 0 rfl rfl h.1 d_M_countHolders_19 ?_
        have h := h.2
        refine lv_iload_n hx hb d_M_countHolders_20 rfl (lv_at hl 1 rfl) ?_
        refine lv_icmp_ne (tgt := 27) hx hb d_M_countHolders_21 (by decide) (fun c_21 => ?_) (fun c_21 => ?_)
        · have h := h.2 c_21
          refine lv_aload_n hx hb d_M_countHolders_27 rfl (lv_at hl 0 rfl) ?_
          refine lv_iload_n hx hb d_M_countHolders_28 rfl (lv_at hl 3 rfl) ?_
          refine rq_calli (W.runV (As := [.int x3_4]) (rest := []) ⟨hx, hb, hml, hown, hw⟩ (mM_endOfSlots l dC dI cA a0 aR aM aW aP aS aC aO nW nE R f us P S sc li rc rn ro rd st x3_4 _ h) (cwV 1 hw g_M_120 rfl rfl rfl (by decide +kernel) ⟨Nat.le_of_ble_eq_true rfl, Nat.le_of_ble_eq_true rfl⟩) (ro_PV (ci := 1) (q0 := 2) hK hP rfl rfl) rfl rfl hl.1 rfl (lv_room (Nat.le_of_ble_eq_true rfl)) d_M_countHolders_29 ⟨Nat.le_of_ble_eq_true rfl, Nat.le_of_ble_eq_true rfl⟩) (fun r29 h => ?_)
          refine lv_istore (lv' := [(4, .int r29), (0, .ref aM), (1, .int y1_4), (2, .int x2_4), (3, .int x3_4)]) hx hb d_M_countHolders_32 hl (by decide) rfl (fun ls hl => ?_)
          refine lv_iload_n hx hb d_M_countHolders_34 rfl (lv_at hl 4 rfl) ?_
          refine lv_iconst (v := (4 : Int32)) hx hb d_M_countHolders_35 (by decide) ?_
          refine lv_iadd hx hb d_M_countHolders_36 ?_
          refine lv_istore (lv' := [(5, .int (x3_4 + (4 : Int32))), (4, .int r29), (0, .ref aM), (1, .int y1_4), (2, .int x2_4), (3, .int x3_4)]) hx hb d_M_countHolders_37 hl (by decide) rfl (fun ls hl => ?_)
          obtain ⟨n_39, h⟩ := h
          refine lp_39 y1_4 x3_4 r29 _ (fun z2_39 z5_39 ls hl h => ?_) n_39 x2_4 (x3_4 + (4 : Int32)) ls (lv_sub hl [2, 3, 4, 5, 1, 0] rfl) h
          refine lv_iload_n hx hb d_M_countHolders_66 rfl (lv_at hl 3 rfl) ?_
          refine lv_iconst (v := (4 : Int32)) hx hb d_M_countHolders_67 (by decide) ?_
          refine lv_aload_n hx hb d_M_countHolders_68 rfl (lv_at hl 0 rfl) ?_
          refine lv_iload_n hx hb d_M_countHolders_69 rfl (lv_at hl 3 rfl) ?_
          refine rq_calli (W.runV (As := [.int x3_4]) (rest := [.int (4 : Int32), .int x3_4]) ⟨hx, hb, hml, hown, hw⟩ (mM_bodyWordsAt l dC dI cA a0 aR aM aW aP aS aC aO nW nE R f us P S sc li rc rn ro rd st x3_4 _ h) (cwV 1 hw g_M_123 rfl rfl rfl (by decide +kernel) ⟨Nat.le_of_ble_eq_true rfl, Nat.le_of_ble_eq_true rfl⟩) (ro_PV (ci := 1) (q0 := 2) hK hP rfl rfl) rfl rfl hl.1 rfl (lv_room (Nat.le_of_ble_eq_true rfl)) d_M_countHolders_70 ⟨Nat.le_of_ble_eq_true rfl, Nat.le_of_ble_eq_true rfl⟩) (fun r70 h => ?_)
          refine lv_iadd hx hb d_M_countHolders_73 ?_
          refine lv_iadd hx hb d_M_countHolders_74 ?_
          refine lv_istore_n (lv' := [(3, .int (x3_4 + ((4 : Int32) + r70))), (0, .ref aM), (1, .int y1_4), (2, .int z2_39), (4, .int r29), (5, .int z5_39)]) hx hb d_M_countHolders_75 rfl hl (by decide) rfl (fun ls hl => ?_)
          refine lv_goto (tgt := 4) hx hb d_M_countHolders_76 (by decide) ?_
          exact ih z2_39 (x3_4 + ((4 : Int32) + r70)) ls (lv_sub hl [1, 2, 3, 0] rfl) h
        · have h := h.1 c_21
          refine lv_iinc (v := x2_4 + (1 : Int32)) (lv' := [(2, .int (x2_4 + (1 : Int32))), (0, .ref aM), (1, .int y1_4), (3, .int x3_4)]) hx hb d_M_countHolders_24 hl (k := 2) rfl rfl (by decide) rfl (fun ls hl => ?_)
          refine lv_aload_n hx hb d_M_countHolders_27 rfl (lv_at hl 1 rfl) ?_
          refine lv_iload_n hx hb d_M_countHolders_28 rfl (lv_at hl 3 rfl) ?_
          refine rq_calli (W.runV (As := [.int x3_4]) (rest := []) ⟨hx, hb, hml, hown, hw⟩ (mM_endOfSlots l dC dI cA a0 aR aM aW aP aS aC aO nW nE R f us P S sc li rc rn ro rd st x3_4 _ h) (cwV 1 hw g_M_120 rfl rfl rfl (by decide +kernel) ⟨Nat.le_of_ble_eq_true rfl, Nat.le_of_ble_eq_true rfl⟩) (ro_PV (ci := 1) (q0 := 2) hK hP rfl rfl) rfl rfl hl.1 rfl (lv_room (Nat.le_of_ble_eq_true rfl)) d_M_countHolders_29 ⟨Nat.le_of_ble_eq_true rfl, Nat.le_of_ble_eq_true rfl⟩) (fun r29 h => ?_)
          refine lv_istore (lv' := [(4, .int r29), (2, .int (x2_4 + (1 : Int32))), (0, .ref aM), (1, .int y1_4), (3, .int x3_4)]) hx hb d_M_countHolders_32 hl (by decide) rfl (fun ls hl => ?_)
          refine lv_iload_n hx hb d_M_countHolders_34 rfl (lv_at hl 4 rfl) ?_
          refine lv_iconst (v := (4 : Int32)) hx hb d_M_countHolders_35 (by decide) ?_
          refine lv_iadd hx hb d_M_countHolders_36 ?_
          refine lv_istore (lv' := [(5, .int (x3_4 + (4 : Int32))), (4, .int r29), (2, .int (x2_4 + (1 : Int32))), (0, .ref aM), (1, .int y1_4), (3, .int x3_4)]) hx hb d_M_countHolders_37 hl (by decide) rfl (fun ls hl => ?_)
          obtain ⟨n_39, h⟩ := h
          refine lp_39 y1_4 x3_4 r29 _ (fun z2_39 z5_39 ls hl h => ?_) n_39 (x2_4 + (1 : Int32)) (x3_4 + (4 : Int32)) ls (lv_sub hl [3, 4, 2, 5, 1, 0] rfl) h
          refine lv_iload_n hx hb d_M_countHolders_66 rfl (lv_at hl 3 rfl) ?_
          refine lv_iconst (v := (4 : Int32)) hx hb d_M_countHolders_67 (by decide) ?_
          refine lv_aload_n hx hb d_M_countHolders_68 rfl (lv_at hl 0 rfl) ?_
          refine lv_iload_n hx hb d_M_countHolders_69 rfl (lv_at hl 3 rfl) ?_
          refine rq_calli (W.runV (As := [.int x3_4]) (rest := [.int (4 : Int32), .int x3_4]) ⟨hx, hb, hml, hown, hw⟩ (mM_bodyWordsAt l dC dI cA a0 aR aM aW aP aS aC aO nW nE R f us P S sc li rc rn ro rd st x3_4 _ h) (cwV 1 hw g_M_123 rfl rfl rfl (by decide +kernel) ⟨Nat.le_of_ble_eq_true rfl, Nat.le_of_ble_eq_true rfl⟩) (ro_PV (ci := 1) (q0 := 2) hK hP rfl rfl) rfl rfl hl.1 rfl (lv_room (Nat.le_of_ble_eq_true rfl)) d_M_countHolders_70 ⟨Nat.le_of_ble_eq_true rfl, Nat.le_of_ble_eq_true rfl⟩) (fun r70 h => ?_)
          refine lv_iadd hx hb d_M_countHolders_73 ?_
          refine lv_iadd hx hb d_M_countHolders_74 ?_
          refine lv_istore_n (lv' := [(3, .int (x3_4 + ((4 : Int32) + r70))), (0, .ref aM), (1, .int y1_4), (2, .int z2_39), (4, .int r29), (5, .int z5_39)]) hx hb d_M_countHolders_75 rfl hl (by decide) rfl (fun ls hl => ?_)
          refine lv_goto (tgt := 4) hx hb d_M_countHolders_76 (by decide) ?_
          exact ih z2_39 (x3_4 + ((4 : Int32) + r70)) ls (lv_sub hl [1, 2, 3, 0] rfl) h
  unfold wqM_countHolders at h
  refine lv_iconst (v := (0 : Int32)) hx hb d_M_countHolders_0 (by decide) ?_
  refine lv_istore_n (lv' := [(2, .int (0 : Int32)), (0, .ref aM), (1, .int a1)]) hx hb d_M_countHolders_1 rfl hl (by decide) rfl (fun ls hl => ?_)
  refine lv_iconst (v := (0 : Int32)) hx hb d_M_countHolders_2 (by decide) ?_
  refine lv_istore_n (lv' := [(3, .int (0 : Int32)), (2, .int (0 : Int32)), (0, .ref aM), (1, .int a1)]) hx hb d_M_countHolders_3 rfl hl (by decide) rfl (fun ls hl => ?_)
  obtain ⟨n_4, h⟩ := h
  refine lp_4 a1 _ (fun z2_4 z3_4 ls hl h => ?_) n_4 (0 : Int32) (0 : Int32) ls (lv_sub hl [2, 3, 1, 0] rfl) h
  refine lv_iload_n hx hb d_M_countHolders_79 rfl (lv_at hl 2 rfl) ?_
  exact W.iret (v := z2_4) hx hb hr9 (fun t ht hW => ⟨_, rfl, h, ht⟩) (fun _ h9 => nomatch h9) d_M_countHolders_80
def wqM_letGo (nW : Nat) (nE : Nat) (st : Int32) (a1 : Int32) (post : Int32 → Prop) : Prop :=
  wqV_isObject a1 (fun r1 => (r1 = 0 → (post st)) ∧ (¬ (r1 = 0) → (post (0 : Int32))))
set_option maxHeartbeats 4000000 in
set_option maxRecDepth 100000 in
theorem mM_letGo (l : Launch) (dC : Nat → ClassId) (dI : Nat → Nat → Nat) (cA : ClassId) (a0 : Nat) (aR : Nat) (aM : Nat) (aW : Nat) (aP : Nat) (aS : Nat) (aC : Nat) (aO : Nat) (nW : Nat) (nE : Nat) (sz : Nat) (R : Nat → Int32) (f : Nat → Int32) (us : Int32) (P : Nat → Int32) (S : Nat → Int32) (sc : Int32) (li : Int32) (rc : Nat → Int32) (rn : Int32) (ro : Nat → Int32) (rd : Int32) (st : Int32) (a1 : Int32) (post : Int32 → Prop) (h : wqM_letGo nW nE st a1 post) : Met l y_M_letGo ws_M_letGo ({ frames := 2, cells := 0, slots := 0, locals := 40 }) (rw_P (dC, dI) vwCl (TSw cA a0 aR aM aW aP aS aC aO nW nE R f us P S sc li rc rn ro rd st) [(cA, .int)] sz [.ref aM, .int a1]) (va_Qv (fun u : Int32 => post u) (rw_B (dC, dI) vwCl [(cA, .int)] (va_A (TSw cA a0 aR aM aW aP aS aC aO nW nE R f us P S sc li rc rn ro rd st) sz) (fun u : Int32 => TSw cA a0 aR aM aW aP aS aC aO nW nE R f us P S sc li rc rn ro rd u)) (va_A (TSw cA a0 aR aM aW aP aS aC aO nW nE R f us P S sc li rc rn ro rd st) sz)) 0 0 (va_A (TSw cA a0 aR aM aW aP aS aC aO nW nE R f us P S sc li rc rn ro rd st) sz) := by
  refine Met.ofW (cc := c_M_letGo) (maxL := 2) (ret := none) (by decide) rfl ?_
  intro p e s m args below meth c s₁ B hml hv
  obtain ⟨rfl, hsz, hP, hK, hD0⟩ := hv
  have hx := B.exec
  have hb := B.bytes
  have hr9 := B.returns
  have hts := atoms_spec (ws := ws_M_letGo) B.pre
  have hw : ∀ w ∈ WB_, w.before _ s = true := fun w h => hts w (List.mem_cons_of_mem _ h)
  have hown : s.vm.findClass R_M = some m.cls := findClass_of_methodNamed B.named
  have hlocks := B.notSynchronized
  subst hsz
  have hD := hD0.self (sz := s.heap.size)
  generalize hAe : va_A (TSw cA a0 aR aM aW aP aS aC aO nW nE R f us P S sc li rc rn ro rd st) s.heap.size = A at hD ⊢
  have hA : ∀ q : Nat, s.heap.size ≤ q → A q := fun q h => by rw [← hAe]; exact Or.inr h
  have hS : va_S A s.heap s.heap [] := va_S.rf
  have hl := lv_entry ([.ref aM, .int a1]) (n := 2) (Nat.le_of_ble_eq_true rfl)
  rw [lg_entry_eq]
  generalize (lg_sl ([.ref aM, .int a1]) ++ List.replicate (2 - (lg_sl ([.ref aM, .int a1])).length) Slot.unset).toArray = ls at hl ⊢
  have hl : lv_has ls 2 [(0, .ref aM), (1, .int a1)] := hl
  unfold wqM_letGo at h
  refine lv_iload_n hx hb d_M_letGo_0 rfl (lv_at hl 1 rfl) ?_
  refine rq_calli (W.runS (As := [.int a1]) (rest := []) ⟨hx, hb, hml, hown, hw⟩ (mV_isObject l a1 _ h) (va_cwS 1 hw g_M_43 rfl rfl rfl (by decide +kernel) ⟨Nat.le_of_ble_eq_true rfl, Nat.le_of_ble_eq_true rfl⟩) preEq rfl rfl hl.1 rfl (lv_room (Nat.le_of_ble_eq_true rfl)) d_M_letGo_1 ⟨Nat.le_of_ble_eq_true rfl, Nat.le_of_ble_eq_true rfl⟩) (fun r1 h => ?_)
  refine lv_if_eq (tgt := 12) hx hb d_M_letGo_4 (by decide) (fun c_4 => ?_) (fun c_4 => ?_)
  · have h := h.1 c_4
    exact W.vret hx hb hr9 (fun t ht hW => ⟨⟨(st), rfl, h, by rw [ht]; exact hP, va_K.moved hW.alike hK, hD⟩, hS.F ht⟩) hS.2.2 d_M_letGo_12
  · have h := h.2 c_4
    refine lv_aload_n hx hb d_M_letGo_7 rfl (lv_at hl 0 rfl) ?_
    refine lv_iconst (v := (0 : Int32)) hx hb d_M_letGo_8 (by decide) ?_
    refine va_put (D := (dC, dI)) (ci := 1) (v := .int (0 : Int32)) (ty := .boolean) (C := R_M) (T := T_M) (N := 11) hx hb hw in_M ty_M ty_M_ok nm_M hown hK hP hD hS 2 rfl rfl 10 (by decide) (hw _ wd_73) (fun _ h9 => h9) rfl (by decide +kernel) rfl rfl (Nat.le_of_ble_eq_true rfl) d_M_letGo_9 (fun H locs hP hD hS => ?_)
    have hP : va_P (dC, dI) vwCl (TSw cA a0 aR aM aW aP aS aC aO nW nE R f us P S sc li rc rn ro rd (0 : Int32)) H := hP
    have hD : va_D A (TSw cA a0 aR aM aW aP aS aC aO nW nE R f us P S sc li rc rn ro rd (0 : Int32)) := hD
    exact W.vret hx hb hr9 (fun t ht hW => ⟨⟨((0 : Int32)), rfl, h, by rw [ht]; exact hP, va_K.moved hW.alike hK, hD⟩, hS.F ht⟩) hS.2.2 d_M_letGo_12
def wqM_overwrite (nW : Nat) (nE : Nat) (f : Nat → Int32) (st : Int32) (a1 : Int32) (a2 : Int32) (post : (Nat → Int32) → Int32 → Prop) : Prop :=
  vp_in a1 nW ∧ (wqM_letGo nW nE st (f a1.toNatClampNeg) (fun st_7 => vp_in a1 nW ∧ (post (upd f a1.toNatClampNeg a2) st_7)))
set_option maxHeartbeats 4000000 in
set_option maxRecDepth 100000 in
theorem mM_overwrite (l : Launch) (dC : Nat → ClassId) (dI : Nat → Nat → Nat) (cA : ClassId) (a0 : Nat) (aR : Nat) (aM : Nat) (aW : Nat) (aP : Nat) (aS : Nat) (aC : Nat) (aO : Nat) (nW : Nat) (nE : Nat) (sz : Nat) (R : Nat → Int32) (f : Nat → Int32) (us : Int32) (P : Nat → Int32) (S : Nat → Int32) (sc : Int32) (li : Int32) (rc : Nat → Int32) (rn : Int32) (ro : Nat → Int32) (rd : Int32) (st : Int32) (a1 : Int32) (a2 : Int32) (post : (Nat → Int32) → Int32 → Prop) (h : wqM_overwrite nW nE f st a1 a2 post) : Met l y_M_overwrite ws_M_overwrite ({ frames := 3, cells := 0, slots := 0, locals := 61 }) (rw_P (dC, dI) vwCl (TSw cA a0 aR aM aW aP aS aC aO nW nE R f us P S sc li rc rn ro rd st) [(cA, .int)] sz [.ref aM, .int a1, .int a2]) (va_Qv (fun u : (Nat → Int32) × Int32 => post u.1 u.2) (rw_B (dC, dI) vwCl [(cA, .int)] (va_A (TSw cA a0 aR aM aW aP aS aC aO nW nE R f us P S sc li rc rn ro rd st) sz) (fun u : (Nat → Int32) × Int32 => TSw cA a0 aR aM aW aP aS aC aO nW nE R u.1 us P S sc li rc rn ro rd u.2)) (va_A (TSw cA a0 aR aM aW aP aS aC aO nW nE R f us P S sc li rc rn ro rd st) sz)) 0 0 (va_A (TSw cA a0 aR aM aW aP aS aC aO nW nE R f us P S sc li rc rn ro rd st) sz) := by
  refine Met.ofW (cc := c_M_overwrite) (maxL := 3) (ret := none) (by decide) rfl ?_
  intro p e s m args below meth c s₁ B hml hv
  obtain ⟨rfl, hsz, hP, hK, hD0⟩ := hv
  have hx := B.exec
  have hb := B.bytes
  have hr9 := B.returns
  have hts := atoms_spec (ws := ws_M_overwrite) B.pre
  have hw : ∀ w ∈ WB_, w.before _ s = true := fun w h => hts w (List.mem_cons_of_mem _ h)
  have hown : s.vm.findClass R_M = some m.cls := findClass_of_methodNamed B.named
  have hlocks := B.notSynchronized
  subst hsz
  have hD := hD0.self (sz := s.heap.size)
  generalize hAe : va_A (TSw cA a0 aR aM aW aP aS aC aO nW nE R f us P S sc li rc rn ro rd st) s.heap.size = A at hD ⊢
  have hA : ∀ q : Nat, s.heap.size ≤ q → A q := fun q h => by rw [← hAe]; exact Or.inr h
  have hS : va_S A s.heap s.heap [] := va_S.rf
  have hl := lv_entry ([.ref aM, .int a1, .int a2]) (n := 3) (Nat.le_of_ble_eq_true rfl)
  rw [lg_entry_eq]
  generalize (lg_sl ([.ref aM, .int a1, .int a2]) ++ List.replicate (3 - (lg_sl ([.ref aM, .int a1, .int a2])).length) Slot.unset).toArray = ls at hl ⊢
  have hl : lv_has ls 3 [(0, .ref aM), (1, .int a1), (2, .int a2)] := hl
  unfold wqM_overwrite at h
  refine lv_aload_n hx hb d_M_overwrite_0 rfl (lv_at hl 0 rfl) ?_
  refine lv_aload_n hx hb d_M_overwrite_1 rfl (lv_at hl 0 rfl) ?_
  refine va_get (D := (dC, dI)) (ci := 1) (v := .ref aW) (C := R_M) (T := T_M) (N := 11) hx hb hw in_M hown hK hP 2 rfl rfl 0 (by decide) (hw _ wd_63) (fun _ h9 => h9) rfl d_M_overwrite_2 ?_
  refine lv_iload_n hx hb d_M_overwrite_5 rfl (lv_at hl 1 rfl) ?_
  refine va_iald hx hb hK hP 3 0 rfl rfl h.1 d_M_overwrite_6 ?_
  have h := h.2
  have hFc := va_free (wc := TSw cA a0 aR aM aW aP aS aC aO nW nE R f us P S sc li rc rn ro rd st) hD hS hA [0, 1, 2, 3, 4, 5, 6, 7] rfl
  refine va_callv (va_runV (As := [.int (f a1.toNatClampNeg)]) (rest := []) ⟨hx, hb, hml, hown, hw⟩ (mM_letGo l dC dI cA a0 aR aM aW aP aS aC aO nW nE s.heap.size R f us P S sc li rc rn ro rd st (f a1.toNatClampNeg) _ h) (cwV 1 hw g_M_56 rfl rfl rfl (by decide +kernel) ⟨Nat.le_of_ble_eq_true rfl, Nat.le_of_ble_eq_true rfl⟩) (rw_PV (ci := 1) (q0 := 2) hK hP hD rfl rfl) rfl rfl hl.1 rfl (lv_room (Nat.le_of_ble_eq_true rfl)) d_M_overwrite_7 ⟨Nat.le_of_ble_eq_true rfl, Nat.le_of_ble_eq_true rfl⟩) hS (fun q _ h => hFc q h) hFc (fun u t H locs ht hvm h hB hz1 hk1 hS => ?_)
  obtain ⟨st_7, rfl⟩ : ∃ z, z = u := ⟨_, rfl⟩
  obtain ⟨hP, hK1, hD1⟩ := hB
  rw [ht] at hP
  have hD := hD1.weaken (fun _ _ _ q => hFc _ q)
  clear hFc hD1 hK1
  try dsimp only at h
  have hP : va_P (dC, dI) vwCl (TSw cA a0 aR aM aW aP aS aC aO nW nE R f us P S sc li rc rn ro rd st_7) H := hP
  have hD : va_D A (TSw cA a0 aR aM aW aP aS aC aO nW nE R f us P S sc li rc rn ro rd st_7) := hD
  refine lv_aload_n hx hb d_M_overwrite_10 rfl (lv_at hl 0 rfl) ?_
  refine va_get (D := (dC, dI)) (ci := 1) (v := .ref aW) (C := R_M) (T := T_M) (N := 11) hx hb hw in_M hown hK hP 2 rfl rfl 0 (by decide) (hw _ wd_63) (fun _ h9 => h9) rfl d_M_overwrite_11 ?_
  refine lv_iload_n hx hb d_M_overwrite_14 rfl (lv_at hl 1 rfl) ?_
  refine lv_iload_n hx hb d_M_overwrite_15 rfl (lv_at hl 2 rfl) ?_
  refine va_iast hx hb hK hP hD hS 3 0 rfl rfl h.1 d_M_overwrite_16 (fun H locs hP hD hS => ?_)
  have hP : va_P (dC, dI) vwCl (TSw cA a0 aR aM aW aP aS aC aO nW nE R (upd f a1.toNatClampNeg a2) us P S sc li rc rn ro rd st_7) H := hP
  have hD : va_D A (TSw cA a0 aR aM aW aP aS aC aO nW nE R (upd f a1.toNatClampNeg a2) us P S sc li rc rn ro rd st_7) := hD
  have h := h.2
  exact W.vret hx hb hr9 (fun t ht hW => ⟨⟨(upd f a1.toNatClampNeg a2, st_7), rfl, h, by rw [ht]; exact hP, va_K.moved hW.alike hK, hD⟩, hS.F ht⟩) hS.2.2 d_M_overwrite_17
def wqM_setItsClass (nW : Nat) (nE : Nat) (f : Nat → Int32) (P : Nat → Int32) (st : Int32) (a1 : Int32) (a2 : Int32) (post : (Nat → Int32) → Int32 → Prop) : Prop :=
  wqM_place nW nE P a1 (fun r3 => wqM_overwrite nW nE f st (r3 + (2 : Int32)) a2 (fun f_9 st_9 => post f_9 st_9))
set_option maxHeartbeats 4000000 in
set_option maxRecDepth 100000 in
theorem mM_setItsClass (l : Launch) (dC : Nat → ClassId) (dI : Nat → Nat → Nat) (cA : ClassId) (a0 : Nat) (aR : Nat) (aM : Nat) (aW : Nat) (aP : Nat) (aS : Nat) (aC : Nat) (aO : Nat) (nW : Nat) (nE : Nat) (sz : Nat) (R : Nat → Int32) (f : Nat → Int32) (us : Int32) (P : Nat → Int32) (S : Nat → Int32) (sc : Int32) (li : Int32) (rc : Nat → Int32) (rn : Int32) (ro : Nat → Int32) (rd : Int32) (st : Int32) (a1 : Int32) (a2 : Int32) (post : (Nat → Int32) → Int32 → Prop) (h : wqM_setItsClass nW nE f P st a1 a2 post) : Met l y_M_setItsClass ws_M_setItsClass ({ frames := 4, cells := 0, slots := 0, locals := 83 }) (rw_P (dC, dI) vwCl (TSw cA a0 aR aM aW aP aS aC aO nW nE R f us P S sc li rc rn ro rd st) [(cA, .int)] sz [.ref aM, .int a1, .int a2]) (va_Qv (fun u : (Nat → Int32) × Int32 => post u.1 u.2) (rw_B (dC, dI) vwCl [(cA, .int)] (va_A (TSw cA a0 aR aM aW aP aS aC aO nW nE R f us P S sc li rc rn ro rd st) sz) (fun u : (Nat → Int32) × Int32 => TSw cA a0 aR aM aW aP aS aC aO nW nE R u.1 us P S sc li rc rn ro rd u.2)) (va_A (TSw cA a0 aR aM aW aP aS aC aO nW nE R f us P S sc li rc rn ro rd st) sz)) 0 0 (va_A (TSw cA a0 aR aM aW aP aS aC aO nW nE R f us P S sc li rc rn ro rd st) sz) := by
  refine Met.ofW (cc := c_M_setItsClass) (maxL := 3) (ret := none) (by decide) rfl ?_
  intro p e s m args below meth c s₁ B hml hv
  obtain ⟨rfl, hsz, hP, hK, hD0⟩ := hv
  have hx := B.exec
  have hb := B.bytes
  have hr9 := B.returns
  have hts := atoms_spec (ws := ws_M_setItsClass) B.pre
  have hw : ∀ w ∈ WB_, w.before _ s = true := fun w h => hts w (List.mem_cons_of_mem _ h)
  have hown : s.vm.findClass R_M = some m.cls := findClass_of_methodNamed B.named
  have hlocks := B.notSynchronized
  subst hsz
  have hD := hD0.self (sz := s.heap.size)
  generalize hAe : va_A (TSw cA a0 aR aM aW aP aS aC aO nW nE R f us P S sc li rc rn ro rd st) s.heap.size = A at hD ⊢
  have hA : ∀ q : Nat, s.heap.size ≤ q → A q := fun q h => by rw [← hAe]; exact Or.inr h
  have hS : va_S A s.heap s.heap [] := va_S.rf
  have hl := lv_entry ([.ref aM, .int a1, .int a2]) (n := 3) (Nat.le_of_ble_eq_true rfl)
  rw [lg_entry_eq]
  generalize (lg_sl ([.ref aM, .int a1, .int a2]) ++ List.replicate (3 - (lg_sl ([.ref aM, .int a1, .int a2])).length) Slot.unset).toArray = ls at hl ⊢
  have hl : lv_has ls 3 [(0, .ref aM), (1, .int a1), (2, .int a2)] := hl
  unfold wqM_setItsClass at h
  refine lv_aload_n hx hb d_M_setItsClass_0 rfl (lv_at hl 0 rfl) ?_
  refine lv_aload_n hx hb d_M_setItsClass_1 rfl (lv_at hl 0 rfl) ?_
  refine lv_iload_n hx hb d_M_setItsClass_2 rfl (lv_at hl 1 rfl) ?_
  refine rq_calli (W.runV (As := [.int a1]) (rest := [.ref aM]) ⟨hx, hb, hml, hown, hw⟩ (mM_place l dC dI cA a0 aR aM aW aP aS aC aO nW nE R f us P S sc li rc rn ro rd st a1 _ h) (cwV 1 hw g_M_46 rfl rfl rfl (by decide +kernel) ⟨Nat.le_of_ble_eq_true rfl, Nat.le_of_ble_eq_true rfl⟩) (ro_PV (ci := 1) (q0 := 2) hK hP rfl rfl) rfl rfl hl.1 rfl (lv_room (Nat.le_of_ble_eq_true rfl)) d_M_setItsClass_3 ⟨Nat.le_of_ble_eq_true rfl, Nat.le_of_ble_eq_true rfl⟩) (fun r3 h => ?_)
  refine lv_iconst (v := (2 : Int32)) hx hb d_M_setItsClass_6 (by decide) ?_
  refine lv_iadd hx hb d_M_setItsClass_7 ?_
  refine lv_iload_n hx hb d_M_setItsClass_8 rfl (lv_at hl 2 rfl) ?_
  have hFc := va_free (wc := TSw cA a0 aR aM aW aP aS aC aO nW nE R f us P S sc li rc rn ro rd st) hD hS hA [0, 1, 2, 3, 4, 5, 6, 7] rfl
  refine va_callv (va_runV (As := [.int (r3 + (2 : Int32)), .int a2]) (rest := []) ⟨hx, hb, hml, hown, hw⟩ (mM_overwrite l dC dI cA a0 aR aM aW aP aS aC aO nW nE s.heap.size R f us P S sc li rc rn ro rd st (r3 + (2 : Int32)) a2 _ h) (cwV 2 hw g_M_49 rfl rfl rfl (by decide +kernel) ⟨Nat.le_of_ble_eq_true rfl, Nat.le_of_ble_eq_true rfl⟩) (rw_PV (ci := 1) (q0 := 2) hK hP hD rfl rfl) rfl rfl hl.1 rfl (lv_room (Nat.le_of_ble_eq_true rfl)) d_M_setItsClass_9 ⟨Nat.le_of_ble_eq_true rfl, Nat.le_of_ble_eq_true rfl⟩) hS (fun q _ h => hFc q h) hFc (fun u t H locs ht hvm h hB hz1 hk1 hS => ?_)
  obtain ⟨f_9, st_9⟩ := u
  obtain ⟨hP, hK1, hD1⟩ := hB
  rw [ht] at hP
  have hD := hD1.weaken (fun _ _ _ q => hFc _ q)
  clear hFc hD1 hK1
  try dsimp only at h
  have hP : va_P (dC, dI) vwCl (TSw cA a0 aR aM aW aP aS aC aO nW nE R f_9 us P S sc li rc rn ro rd st_9) H := hP
  have hD : va_D A (TSw cA a0 aR aM aW aP aS aC aO nW nE R f_9 us P S sc li rc rn ro rd st_9) := hD
  exact W.vret hx hb hr9 (fun t ht hW => ⟨⟨(f_9, st_9), rfl, h, by rw [ht]; exact hP, va_K.moved hW.alike hK, hD⟩, hS.F ht⟩) hS.2.2 d_M_setItsClass_12
def wqM_setSlot (nW : Nat) (nE : Nat) (f : Nat → Int32) (P : Nat → Int32) (st : Int32) (a1 : Int32) (a2 : Int32) (a3 : Int32) (post : (Nat → Int32) → Int32 → Prop) : Prop :=
  wqM_place nW nE P a1 (fun r3 => wqM_overwrite nW nE f st ((r3 + (4 : Int32)) + a2) a3 (fun f_11 st_11 => post f_11 st_11))
set_option maxHeartbeats 4000000 in
set_option maxRecDepth 100000 in
theorem mM_setSlot (l : Launch) (dC : Nat → ClassId) (dI : Nat → Nat → Nat) (cA : ClassId) (a0 : Nat) (aR : Nat) (aM : Nat) (aW : Nat) (aP : Nat) (aS : Nat) (aC : Nat) (aO : Nat) (nW : Nat) (nE : Nat) (sz : Nat) (R : Nat → Int32) (f : Nat → Int32) (us : Int32) (P : Nat → Int32) (S : Nat → Int32) (sc : Int32) (li : Int32) (rc : Nat → Int32) (rn : Int32) (ro : Nat → Int32) (rd : Int32) (st : Int32) (a1 : Int32) (a2 : Int32) (a3 : Int32) (post : (Nat → Int32) → Int32 → Prop) (h : wqM_setSlot nW nE f P st a1 a2 a3 post) : Met l y_M_setSlot ws_M_setSlot ({ frames := 4, cells := 0, slots := 0, locals := 83 }) (rw_P (dC, dI) vwCl (TSw cA a0 aR aM aW aP aS aC aO nW nE R f us P S sc li rc rn ro rd st) [(cA, .int)] sz [.ref aM, .int a1, .int a2, .int a3]) (va_Qv (fun u : (Nat → Int32) × Int32 => post u.1 u.2) (rw_B (dC, dI) vwCl [(cA, .int)] (va_A (TSw cA a0 aR aM aW aP aS aC aO nW nE R f us P S sc li rc rn ro rd st) sz) (fun u : (Nat → Int32) × Int32 => TSw cA a0 aR aM aW aP aS aC aO nW nE R u.1 us P S sc li rc rn ro rd u.2)) (va_A (TSw cA a0 aR aM aW aP aS aC aO nW nE R f us P S sc li rc rn ro rd st) sz)) 0 0 (va_A (TSw cA a0 aR aM aW aP aS aC aO nW nE R f us P S sc li rc rn ro rd st) sz) := by
  refine Met.ofW (cc := c_M_setSlot) (maxL := 4) (ret := none) (by decide) rfl ?_
  intro p e s m args below meth c s₁ B hml hv
  obtain ⟨rfl, hsz, hP, hK, hD0⟩ := hv
  have hx := B.exec
  have hb := B.bytes
  have hr9 := B.returns
  have hts := atoms_spec (ws := ws_M_setSlot) B.pre
  have hw : ∀ w ∈ WB_, w.before _ s = true := fun w h => hts w (List.mem_cons_of_mem _ h)
  have hown : s.vm.findClass R_M = some m.cls := findClass_of_methodNamed B.named
  have hlocks := B.notSynchronized
  subst hsz
  have hD := hD0.self (sz := s.heap.size)
  generalize hAe : va_A (TSw cA a0 aR aM aW aP aS aC aO nW nE R f us P S sc li rc rn ro rd st) s.heap.size = A at hD ⊢
  have hA : ∀ q : Nat, s.heap.size ≤ q → A q := fun q h => by rw [← hAe]; exact Or.inr h
  have hS : va_S A s.heap s.heap [] := va_S.rf
  have hl := lv_entry ([.ref aM, .int a1, .int a2, .int a3]) (n := 4) (Nat.le_of_ble_eq_true rfl)
  rw [lg_entry_eq]
  generalize (lg_sl ([.ref aM, .int a1, .int a2, .int a3]) ++ List.replicate (4 - (lg_sl ([.ref aM, .int a1, .int a2, .int a3])).length) Slot.unset).toArray = ls at hl ⊢
  have hl : lv_has ls 4 [(0, .ref aM), (1, .int a1), (2, .int a2), (3, .int a3)] := hl
  unfold wqM_setSlot at h
  refine lv_aload_n hx hb d_M_setSlot_0 rfl (lv_at hl 0 rfl) ?_
  refine lv_aload_n hx hb d_M_setSlot_1 rfl (lv_at hl 0 rfl) ?_
  refine lv_iload_n hx hb d_M_setSlot_2 rfl (lv_at hl 1 rfl) ?_
  refine rq_calli (W.runV (As := [.int a1]) (rest := [.ref aM]) ⟨hx, hb, hml, hown, hw⟩ (mM_place l dC dI cA a0 aR aM aW aP aS aC aO nW nE R f us P S sc li rc rn ro rd st a1 _ h) (cwV 1 hw g_M_46 rfl rfl rfl (by decide +kernel) ⟨Nat.le_of_ble_eq_true rfl, Nat.le_of_ble_eq_true rfl⟩) (ro_PV (ci := 1) (q0 := 2) hK hP rfl rfl) rfl rfl hl.1 rfl (lv_room (Nat.le_of_ble_eq_true rfl)) d_M_setSlot_3 ⟨Nat.le_of_ble_eq_true rfl, Nat.le_of_ble_eq_true rfl⟩) (fun r3 h => ?_)
  refine lv_iconst (v := (4 : Int32)) hx hb d_M_setSlot_6 (by decide) ?_
  refine lv_iadd hx hb d_M_setSlot_7 ?_
  refine lv_iload_n hx hb d_M_setSlot_8 rfl (lv_at hl 2 rfl) ?_
  refine lv_iadd hx hb d_M_setSlot_9 ?_
  refine lv_iload_n hx hb d_M_setSlot_10 rfl (lv_at hl 3 rfl) ?_
  have hFc := va_free (wc := TSw cA a0 aR aM aW aP aS aC aO nW nE R f us P S sc li rc rn ro rd st) hD hS hA [0, 1, 2, 3, 4, 5, 6, 7] rfl
  refine va_callv (va_runV (As := [.int ((r3 + (4 : Int32)) + a2), .int a3]) (rest := []) ⟨hx, hb, hml, hown, hw⟩ (mM_overwrite l dC dI cA a0 aR aM aW aP aS aC aO nW nE s.heap.size R f us P S sc li rc rn ro rd st ((r3 + (4 : Int32)) + a2) a3 _ h) (cwV 2 hw g_M_49 rfl rfl rfl (by decide +kernel) ⟨Nat.le_of_ble_eq_true rfl, Nat.le_of_ble_eq_true rfl⟩) (rw_PV (ci := 1) (q0 := 2) hK hP hD rfl rfl) rfl rfl hl.1 rfl (lv_room (Nat.le_of_ble_eq_true rfl)) d_M_setSlot_11 ⟨Nat.le_of_ble_eq_true rfl, Nat.le_of_ble_eq_true rfl⟩) hS (fun q _ h => hFc q h) hFc (fun u t H locs ht hvm h hB hz1 hk1 hS => ?_)
  obtain ⟨f_11, st_11⟩ := u
  obtain ⟨hP, hK1, hD1⟩ := hB
  rw [ht] at hP
  have hD := hD1.weaken (fun _ _ _ q => hFc _ q)
  clear hFc hD1 hK1
  try dsimp only at h
  have hP : va_P (dC, dI) vwCl (TSw cA a0 aR aM aW aP aS aC aO nW nE R f_11 us P S sc li rc rn ro rd st_11) H := hP
  have hD : va_D A (TSw cA a0 aR aM aW aP aS aC aO nW nE R f_11 us P S sc li rc rn ro rd st_11) := hD
  exact W.vret hx hb hr9 (fun t ht hW => ⟨⟨(f_11, st_11), rfl, h, by rw [ht]; exact hP, va_K.moved hW.alike hK, hD⟩, hS.F ht⟩) hS.2.2 d_M_setSlot_14
def wqM_setOneByte (nW : Nat) (nE : Nat) (f : Nat → Int32) (P : Nat → Int32) (a1 : Int32) (a2 : Int32) (a3 : Int32) (post : (Nat → Int32) → Prop) : Prop :=
  wqM_place nW nE P a1 (fun r2 => vp_in ((r2 + (4 : Int32)) + (a2 >>> ((2 : Int32) &&& 31))) nW ∧ (wqM_shiftOf a2 (fun r24 => wqM_shiftOf a2 (fun r43 => vp_in ((r2 + (4 : Int32)) + (a2 >>> ((2 : Int32) &&& 31))) nW ∧ (post (upd f ((r2 + (4 : Int32)) + (a2 >>> ((2 : Int32) &&& 31))).toNatClampNeg (((f ((r2 + (4 : Int32)) + (a2 >>> ((2 : Int32) &&& 31))).toNatClampNeg) &&& (((255 : Int32) <<< (r24 &&& 31)) ^^^ (-1 : Int32))) ||| (a3 <<< (r43 &&& 31)))))))))
set_option maxHeartbeats 4000000 in
set_option maxRecDepth 100000 in
theorem mM_setOneByte (l : Launch) (dC : Nat → ClassId) (dI : Nat → Nat → Nat) (cA : ClassId) (a0 : Nat) (aR : Nat) (aM : Nat) (aW : Nat) (aP : Nat) (aS : Nat) (aC : Nat) (aO : Nat) (nW : Nat) (nE : Nat) (sz : Nat) (R : Nat → Int32) (f : Nat → Int32) (us : Int32) (P : Nat → Int32) (S : Nat → Int32) (sc : Int32) (li : Int32) (rc : Nat → Int32) (rn : Int32) (ro : Nat → Int32) (rd : Int32) (st : Int32) (a1 : Int32) (a2 : Int32) (a3 : Int32) (post : (Nat → Int32) → Prop) (h : wqM_setOneByte nW nE f P a1 a2 a3 post) : Met l y_M_setOneByte ws_M_setOneByte ({ frames := 2, cells := 0, slots := 0, locals := 41 }) (rw_P (dC, dI) vwCl (TSw cA a0 aR aM aW aP aS aC aO nW nE R f us P S sc li rc rn ro rd st) [(cA, .int)] sz [.ref aM, .int a1, .int a2, .int a3]) (va_Qv (fun u : (Nat → Int32) => post u) (rw_B (dC, dI) vwCl [(cA, .int)] (va_A (TSw cA a0 aR aM aW aP aS aC aO nW nE R f us P S sc li rc rn ro rd st) sz) (fun u : (Nat → Int32) => TSw cA a0 aR aM aW aP aS aC aO nW nE R u us P S sc li rc rn ro rd st)) (va_A (TSw cA a0 aR aM aW aP aS aC aO nW nE R f us P S sc li rc rn ro rd st) sz)) 0 0 (va_A (TSw cA a0 aR aM aW aP aS aC aO nW nE R f us P S sc li rc rn ro rd st) sz) := by
  refine Met.ofW (cc := c_M_setOneByte) (maxL := 6) (ret := none) (by decide) rfl ?_
  intro p e s m args below meth c s₁ B hml hv
  obtain ⟨rfl, hsz, hP, hK, hD0⟩ := hv
  have hx := B.exec
  have hb := B.bytes
  have hr9 := B.returns
  have hts := atoms_spec (ws := ws_M_setOneByte) B.pre
  have hw : ∀ w ∈ WB_, w.before _ s = true := fun w h => hts w (List.mem_cons_of_mem _ h)
  have hown : s.vm.findClass R_M = some m.cls := findClass_of_methodNamed B.named
  have hlocks := B.notSynchronized
  subst hsz
  have hD := hD0.self (sz := s.heap.size)
  generalize hAe : va_A (TSw cA a0 aR aM aW aP aS aC aO nW nE R f us P S sc li rc rn ro rd st) s.heap.size = A at hD ⊢
  have hA : ∀ q : Nat, s.heap.size ≤ q → A q := fun q h => by rw [← hAe]; exact Or.inr h
  have hS : va_S A s.heap s.heap [] := va_S.rf
  have hl := lv_entry ([.ref aM, .int a1, .int a2, .int a3]) (n := 6) (Nat.le_of_ble_eq_true rfl)
  rw [lg_entry_eq]
  generalize (lg_sl ([.ref aM, .int a1, .int a2, .int a3]) ++ List.replicate (6 - (lg_sl ([.ref aM, .int a1, .int a2, .int a3])).length) Slot.unset).toArray = ls at hl ⊢
  have hl : lv_has ls 6 [(0, .ref aM), (1, .int a1), (2, .int a2), (3, .int a3)] := hl
  unfold wqM_setOneByte at h
  refine lv_aload_n hx hb d_M_setOneByte_0 rfl (lv_at hl 0 rfl) ?_
  refine lv_iload_n hx hb d_M_setOneByte_1 rfl (lv_at hl 1 rfl) ?_
  refine rq_calli (W.runV (As := [.int a1]) (rest := []) ⟨hx, hb, hml, hown, hw⟩ (mM_place l dC dI cA a0 aR aM aW aP aS aC aO nW nE R f us P S sc li rc rn ro rd st a1 _ h) (cwV 1 hw g_M_46 rfl rfl rfl (by decide +kernel) ⟨Nat.le_of_ble_eq_true rfl, Nat.le_of_ble_eq_true rfl⟩) (ro_PV (ci := 1) (q0 := 2) hK hP rfl rfl) rfl rfl hl.1 rfl (lv_room (Nat.le_of_ble_eq_true rfl)) d_M_setOneByte_2 ⟨Nat.le_of_ble_eq_true rfl, Nat.le_of_ble_eq_true rfl⟩) (fun r2 h => ?_)
  refine lv_iconst (v := (4 : Int32)) hx hb d_M_setOneByte_5 (by decide) ?_
  refine lv_iadd hx hb d_M_setOneByte_6 ?_
  refine lv_iload_n hx hb d_M_setOneByte_7 rfl (lv_at hl 2 rfl) ?_
  refine lv_iconst (v := (2 : Int32)) hx hb d_M_setOneByte_8 (by decide) ?_
  refine lv_ishr hx hb d_M_setOneByte_9 ?_
  refine lv_iadd hx hb d_M_setOneByte_10 ?_
  refine lv_istore (lv' := [(4, .int ((r2 + (4 : Int32)) + (a2 >>> ((2 : Int32) &&& 31)))), (0, .ref aM), (1, .int a1), (2, .int a2), (3, .int a3)]) hx hb d_M_setOneByte_11 hl (by decide) rfl (fun ls hl => ?_)
  refine lv_aload_n hx hb d_M_setOneByte_13 rfl (lv_at hl 1 rfl) ?_
  refine va_get (D := (dC, dI)) (ci := 1) (v := .ref aW) (C := R_M) (T := T_M) (N := 11) hx hb hw in_M hown hK hP 2 rfl rfl 0 (by decide) (hw _ wd_63) (fun _ h9 => h9) rfl d_M_setOneByte_14 ?_
  refine lv_iload hx hb d_M_setOneByte_17 (lv_at hl 0 rfl) ?_
  refine va_iald hx hb hK hP 3 0 rfl rfl h.1 d_M_setOneByte_19 ?_
  have h := h.2
  refine lv_sipush (v := (255 : Int32)) hx hb d_M_setOneByte_20 (by decide) ?_
  refine lv_iload_n hx hb d_M_setOneByte_23 rfl (lv_at hl 3 rfl) ?_
  refine rq_calli (W.runS (As := [.int a2]) (rest := [.int (255 : Int32), .int (f ((r2 + (4 : Int32)) + (a2 >>> ((2 : Int32) &&& 31))).toNatClampNeg)]) ⟨hx, hb, hml, hown, hw⟩ (mM_shiftOf l a2 _ h) (va_cwS 1 hw g_M_53 rfl rfl rfl (by decide +kernel) ⟨Nat.le_of_ble_eq_true rfl, Nat.le_of_ble_eq_true rfl⟩) preEq rfl rfl hl.1 rfl (lv_room (Nat.le_of_ble_eq_true rfl)) d_M_setOneByte_24 ⟨Nat.le_of_ble_eq_true rfl, Nat.le_of_ble_eq_true rfl⟩) (fun r24 h => ?_)
  refine lv_ishl hx hb d_M_setOneByte_27 ?_
  refine lv_iconst (v := (-1 : Int32)) hx hb d_M_setOneByte_28 (by decide) ?_
  refine lv_ixor hx hb d_M_setOneByte_29 ?_
  refine lv_iand hx hb d_M_setOneByte_30 ?_
  refine lv_istore (lv' := [(5, .int ((f ((r2 + (4 : Int32)) + (a2 >>> ((2 : Int32) &&& 31))).toNatClampNeg) &&& (((255 : Int32) <<< (r24 &&& 31)) ^^^ (-1 : Int32)))), (4, .int ((r2 + (4 : Int32)) + (a2 >>> ((2 : Int32) &&& 31)))), (0, .ref aM), (1, .int a1), (2, .int a2), (3, .int a3)]) hx hb d_M_setOneByte_31 hl (by decide) rfl (fun ls hl => ?_)
  refine lv_aload_n hx hb d_M_setOneByte_33 rfl (lv_at hl 2 rfl) ?_
  refine va_get (D := (dC, dI)) (ci := 1) (v := .ref aW) (C := R_M) (T := T_M) (N := 11) hx hb hw in_M hown hK hP 2 rfl rfl 0 (by decide) (hw _ wd_63) (fun _ h9 => h9) rfl d_M_setOneByte_34 ?_
  refine lv_iload hx hb d_M_setOneByte_37 (lv_at hl 1 rfl) ?_
  refine lv_iload hx hb d_M_setOneByte_39 (lv_at hl 0 rfl) ?_
  refine lv_iload_n hx hb d_M_setOneByte_41 rfl (lv_at hl 5 rfl) ?_
  refine lv_iload_n hx hb d_M_setOneByte_42 rfl (lv_at hl 4 rfl) ?_
  refine rq_calli (W.runS (As := [.int a2]) (rest := [.int a3, .int ((f ((r2 + (4 : Int32)) + (a2 >>> ((2 : Int32) &&& 31))).toNatClampNeg) &&& (((255 : Int32) <<< (r24 &&& 31)) ^^^ (-1 : Int32))), .int ((r2 + (4 : Int32)) + (a2 >>> ((2 : Int32) &&& 31))), .ref aW]) ⟨hx, hb, hml, hown, hw⟩ (mM_shiftOf l a2 _ h) (va_cwS 1 hw g_M_53 rfl rfl rfl (by decide +kernel) ⟨Nat.le_of_ble_eq_true rfl, Nat.le_of_ble_eq_true rfl⟩) preEq rfl rfl hl.1 rfl (lv_room (Nat.le_of_ble_eq_true rfl)) d_M_setOneByte_43 ⟨Nat.le_of_ble_eq_true rfl, Nat.le_of_ble_eq_true rfl⟩) (fun r43 h => ?_)
  refine lv_ishl hx hb d_M_setOneByte_46 ?_
  refine lv_ior hx hb d_M_setOneByte_47 ?_
  refine va_iast hx hb hK hP hD hS 3 0 rfl rfl h.1 d_M_setOneByte_48 (fun H locs hP hD hS => ?_)
  have hP : va_P (dC, dI) vwCl (TSw cA a0 aR aM aW aP aS aC aO nW nE R (upd f ((r2 + (4 : Int32)) + (a2 >>> ((2 : Int32) &&& 31))).toNatClampNeg (((f ((r2 + (4 : Int32)) + (a2 >>> ((2 : Int32) &&& 31))).toNatClampNeg) &&& (((255 : Int32) <<< (r24 &&& 31)) ^^^ (-1 : Int32))) ||| (a3 <<< (r43 &&& 31)))) us P S sc li rc rn ro rd st) H := hP
  have hD : va_D A (TSw cA a0 aR aM aW aP aS aC aO nW nE R (upd f ((r2 + (4 : Int32)) + (a2 >>> ((2 : Int32) &&& 31))).toNatClampNeg (((f ((r2 + (4 : Int32)) + (a2 >>> ((2 : Int32) &&& 31))).toNatClampNeg) &&& (((255 : Int32) <<< (r24 &&& 31)) ^^^ (-1 : Int32))) ||| (a3 <<< (r43 &&& 31)))) us P S sc li rc rn ro rd st) := hD
  have h := h.2
  exact W.vret hx hb hr9 (fun t ht hW => ⟨⟨(upd f ((r2 + (4 : Int32)) + (a2 >>> ((2 : Int32) &&& 31))).toNatClampNeg (((f ((r2 + (4 : Int32)) + (a2 >>> ((2 : Int32) &&& 31))).toNatClampNeg) &&& (((255 : Int32) <<< (r24 &&& 31)) ^^^ (-1 : Int32))) ||| (a3 <<< (r43 &&& 31)))), rfl, h, by rw [ht]; exact hP, va_K.moved hW.alike hK, hD⟩, hS.F ht⟩) hS.2.2 d_M_setOneByte_49
def wqM_seat (nW : Nat) (nE : Nat) (f : Nat → Int32) (P : Nat → Int32) (a1 : Int32) (a2 : Int32) (post : (Nat → Int32) → (Nat → Int32) → Prop) : Prop :=
  vp_in a1 nE ∧ (vp_in (a2 + (0 : Int32)) nW ∧ (post (upd f (a2 + (0 : Int32)).toNatClampNeg a1) (upd P a1.toNatClampNeg a2)))
set_option maxHeartbeats 4000000 in
set_option maxRecDepth 100000 in
theorem mM_seat (l : Launch) (dC : Nat → ClassId) (dI : Nat → Nat → Nat) (cA : ClassId) (a0 : Nat) (aR : Nat) (aM : Nat) (aW : Nat) (aP : Nat) (aS : Nat) (aC : Nat) (aO : Nat) (nW : Nat) (nE : Nat) (sz : Nat) (R : Nat → Int32) (f : Nat → Int32) (us : Int32) (P : Nat → Int32) (S : Nat → Int32) (sc : Int32) (li : Int32) (rc : Nat → Int32) (rn : Int32) (ro : Nat → Int32) (rd : Int32) (st : Int32) (a1 : Int32) (a2 : Int32) (post : (Nat → Int32) → (Nat → Int32) → Prop) (h : wqM_seat nW nE f P a1 a2 post) : Met l y_M_seat ws_M_seat ({ frames := 0, cells := 0, slots := 0, locals := 0 }) (rw_P (dC, dI) vwCl (TSw cA a0 aR aM aW aP aS aC aO nW nE R f us P S sc li rc rn ro rd st) [(cA, .int)] sz [.ref aM, .int a1, .int a2]) (va_Qv (fun u : (Nat → Int32) × (Nat → Int32) => post u.1 u.2) (rw_B (dC, dI) vwCl [(cA, .int)] (va_A (TSw cA a0 aR aM aW aP aS aC aO nW nE R f us P S sc li rc rn ro rd st) sz) (fun u : (Nat → Int32) × (Nat → Int32) => TSw cA a0 aR aM aW aP aS aC aO nW nE R u.1 us u.2 S sc li rc rn ro rd st)) (va_A (TSw cA a0 aR aM aW aP aS aC aO nW nE R f us P S sc li rc rn ro rd st) sz)) 0 0 (va_A (TSw cA a0 aR aM aW aP aS aC aO nW nE R f us P S sc li rc rn ro rd st) sz) := by
  refine Met.ofW (cc := c_M_seat) (maxL := 3) (ret := none) (by decide) rfl ?_
  intro p e s m args below meth c s₁ B hml hv
  obtain ⟨rfl, hsz, hP, hK, hD0⟩ := hv
  have hx := B.exec
  have hb := B.bytes
  have hr9 := B.returns
  have hts := atoms_spec (ws := ws_M_seat) B.pre
  have hw : ∀ w ∈ WB_, w.before _ s = true := fun w h => hts w (List.mem_cons_of_mem _ h)
  have hown : s.vm.findClass R_M = some m.cls := findClass_of_methodNamed B.named
  have hlocks := B.notSynchronized
  subst hsz
  have hD := hD0.self (sz := s.heap.size)
  generalize hAe : va_A (TSw cA a0 aR aM aW aP aS aC aO nW nE R f us P S sc li rc rn ro rd st) s.heap.size = A at hD ⊢
  have hA : ∀ q : Nat, s.heap.size ≤ q → A q := fun q h => by rw [← hAe]; exact Or.inr h
  have hS : va_S A s.heap s.heap [] := va_S.rf
  have hl := lv_entry ([.ref aM, .int a1, .int a2]) (n := 3) (Nat.le_of_ble_eq_true rfl)
  rw [lg_entry_eq]
  generalize (lg_sl ([.ref aM, .int a1, .int a2]) ++ List.replicate (3 - (lg_sl ([.ref aM, .int a1, .int a2])).length) Slot.unset).toArray = ls at hl ⊢
  have hl : lv_has ls 3 [(0, .ref aM), (1, .int a1), (2, .int a2)] := hl
  unfold wqM_seat at h
  refine lv_aload_n hx hb d_M_seat_0 rfl (lv_at hl 0 rfl) ?_
  refine va_get (D := (dC, dI)) (ci := 1) (v := .ref aP) (C := R_M) (T := T_M) (N := 11) hx hb hw in_M hown hK hP 2 rfl rfl 2 (by decide) (hw _ wd_65) (fun _ h9 => h9) rfl d_M_seat_1 ?_
  refine lv_iload_n hx hb d_M_seat_4 rfl (lv_at hl 1 rfl) ?_
  refine lv_iload_n hx hb d_M_seat_5 rfl (lv_at hl 2 rfl) ?_
  refine va_iast hx hb hK hP hD hS 4 0 rfl rfl h.1 d_M_seat_6 (fun H locs hP hD hS => ?_)
  have hP : va_P (dC, dI) vwCl (TSw cA a0 aR aM aW aP aS aC aO nW nE R f us (upd P a1.toNatClampNeg a2) S sc li rc rn ro rd st) H := hP
  have hD : va_D A (TSw cA a0 aR aM aW aP aS aC aO nW nE R f us (upd P a1.toNatClampNeg a2) S sc li rc rn ro rd st) := hD
  have h := h.2
  refine lv_aload_n hx hb d_M_seat_7 rfl (lv_at hl 0 rfl) ?_
  refine va_get (D := (dC, dI)) (ci := 1) (v := .ref aW) (C := R_M) (T := T_M) (N := 11) hx hb hw in_M hown hK hP 2 rfl rfl 0 (by decide) (hw _ wd_63) (fun _ h9 => h9) rfl d_M_seat_8 ?_
  refine lv_iload_n hx hb d_M_seat_11 rfl (lv_at hl 2 rfl) ?_
  refine lv_iconst (v := (0 : Int32)) hx hb d_M_seat_12 (by decide) ?_
  refine lv_iadd hx hb d_M_seat_13 ?_
  refine lv_iload_n hx hb d_M_seat_14 rfl (lv_at hl 1 rfl) ?_
  refine va_iast hx hb hK hP hD hS 3 0 rfl rfl h.1 d_M_seat_15 (fun H locs hP hD hS => ?_)
  have hP : va_P (dC, dI) vwCl (TSw cA a0 aR aM aW aP aS aC aO nW nE R (upd f (a2 + (0 : Int32)).toNatClampNeg a1) us (upd P a1.toNatClampNeg a2) S sc li rc rn ro rd st) H := hP
  have hD : va_D A (TSw cA a0 aR aM aW aP aS aC aO nW nE R (upd f (a2 + (0 : Int32)).toNatClampNeg a1) us (upd P a1.toNatClampNeg a2) S sc li rc rn ro rd st) := hD
  have h := h.2
  exact W.vret hx hb hr9 (fun t ht hW => ⟨⟨(upd f (a2 + (0 : Int32)).toNatClampNeg a1, upd P a1.toNatClampNeg a2), rfl, h, by rw [ht]; exact hP, va_K.moved hW.alike hK, hD⟩, hS.F ht⟩) hS.2.2 d_M_seat_16
def wqM_swap (nW : Nat) (nE : Nat) (f : Nat → Int32) (P : Nat → Int32) (a1 : Int32) (a2 : Int32) (post : (Nat → Int32) → (Nat → Int32) → Prop) : Prop :=
  wqM_place nW nE P a1 (fun r2 => wqM_place nW nE P a2 (fun r8 => wqV_toEntry a1 (fun r15 => wqM_seat nW nE f P r15 r8 (fun f_20 P_20 => wqV_toEntry a2 (fun r25 => wqM_seat nW nE f_20 P_20 r25 r2 (fun f_29 P_29 => post f_29 P_29))))))
set_option maxHeartbeats 4000000 in
set_option maxRecDepth 100000 in
theorem mM_swap (l : Launch) (dC : Nat → ClassId) (dI : Nat → Nat → Nat) (cA : ClassId) (a0 : Nat) (aR : Nat) (aM : Nat) (aW : Nat) (aP : Nat) (aS : Nat) (aC : Nat) (aO : Nat) (nW : Nat) (nE : Nat) (sz : Nat) (R : Nat → Int32) (f : Nat → Int32) (us : Int32) (P : Nat → Int32) (S : Nat → Int32) (sc : Int32) (li : Int32) (rc : Nat → Int32) (rn : Int32) (ro : Nat → Int32) (rd : Int32) (st : Int32) (a1 : Int32) (a2 : Int32) (post : (Nat → Int32) → (Nat → Int32) → Prop) (h : wqM_swap nW nE f P a1 a2 post) : Met l y_M_swap ws_M_swap ({ frames := 2, cells := 0, slots := 0, locals := 41 }) (rw_P (dC, dI) vwCl (TSw cA a0 aR aM aW aP aS aC aO nW nE R f us P S sc li rc rn ro rd st) [(cA, .int)] sz [.ref aM, .int a1, .int a2]) (va_Qv (fun u : (Nat → Int32) × (Nat → Int32) => post u.1 u.2) (rw_B (dC, dI) vwCl [(cA, .int)] (va_A (TSw cA a0 aR aM aW aP aS aC aO nW nE R f us P S sc li rc rn ro rd st) sz) (fun u : (Nat → Int32) × (Nat → Int32) => TSw cA a0 aR aM aW aP aS aC aO nW nE R u.1 us u.2 S sc li rc rn ro rd st)) (va_A (TSw cA a0 aR aM aW aP aS aC aO nW nE R f us P S sc li rc rn ro rd st) sz)) 0 0 (va_A (TSw cA a0 aR aM aW aP aS aC aO nW nE R f us P S sc li rc rn ro rd st) sz) := by
  refine Met.ofW (cc := c_M_swap) (maxL := 5) (ret := none) (by decide) rfl ?_
  intro p e s m args below meth c s₁ B hml hv
  obtain ⟨rfl, hsz, hP, hK, hD0⟩ := hv
  have hx := B.exec
  have hb := B.bytes
  have hr9 := B.returns
  have hts := atoms_spec (ws := ws_M_swap) B.pre
  have hw : ∀ w ∈ WB_, w.before _ s = true := fun w h => hts w (List.mem_cons_of_mem _ h)
  have hown : s.vm.findClass R_M = some m.cls := findClass_of_methodNamed B.named
  have hlocks := B.notSynchronized
  subst hsz
  have hD := hD0.self (sz := s.heap.size)
  generalize hAe : va_A (TSw cA a0 aR aM aW aP aS aC aO nW nE R f us P S sc li rc rn ro rd st) s.heap.size = A at hD ⊢
  have hA : ∀ q : Nat, s.heap.size ≤ q → A q := fun q h => by rw [← hAe]; exact Or.inr h
  have hS : va_S A s.heap s.heap [] := va_S.rf
  have hl := lv_entry ([.ref aM, .int a1, .int a2]) (n := 5) (Nat.le_of_ble_eq_true rfl)
  rw [lg_entry_eq]
  generalize (lg_sl ([.ref aM, .int a1, .int a2]) ++ List.replicate (5 - (lg_sl ([.ref aM, .int a1, .int a2])).length) Slot.unset).toArray = ls at hl ⊢
  have hl : lv_has ls 5 [(0, .ref aM), (1, .int a1), (2, .int a2)] := hl
  unfold wqM_swap at h
  refine lv_aload_n hx hb d_M_swap_0 rfl (lv_at hl 0 rfl) ?_
  refine lv_iload_n hx hb d_M_swap_1 rfl (lv_at hl 1 rfl) ?_
  refine rq_calli (W.runV (As := [.int a1]) (rest := []) ⟨hx, hb, hml, hown, hw⟩ (mM_place l dC dI cA a0 aR aM aW aP aS aC aO nW nE R f us P S sc li rc rn ro rd st a1 _ h) (cwV 1 hw g_M_46 rfl rfl rfl (by decide +kernel) ⟨Nat.le_of_ble_eq_true rfl, Nat.le_of_ble_eq_true rfl⟩) (ro_PV (ci := 1) (q0 := 2) hK hP rfl rfl) rfl rfl hl.1 rfl (lv_room (Nat.le_of_ble_eq_true rfl)) d_M_swap_2 ⟨Nat.le_of_ble_eq_true rfl, Nat.le_of_ble_eq_true rfl⟩) (fun r2 h => ?_)
  refine lv_istore_n (lv' := [(3, .int r2), (0, .ref aM), (1, .int a1), (2, .int a2)]) hx hb d_M_swap_5 rfl hl (by decide) rfl (fun ls hl => ?_)
  refine lv_aload_n hx hb d_M_swap_6 rfl (lv_at hl 1 rfl) ?_
  refine lv_iload_n hx hb d_M_swap_7 rfl (lv_at hl 3 rfl) ?_
  refine rq_calli (W.runV (As := [.int a2]) (rest := []) ⟨hx, hb, hml, hown, hw⟩ (mM_place l dC dI cA a0 aR aM aW aP aS aC aO nW nE R f us P S sc li rc rn ro rd st a2 _ h) (cwV 1 hw g_M_46 rfl rfl rfl (by decide +kernel) ⟨Nat.le_of_ble_eq_true rfl, Nat.le_of_ble_eq_true rfl⟩) (ro_PV (ci := 1) (q0 := 2) hK hP rfl rfl) rfl rfl hl.1 rfl (lv_room (Nat.le_of_ble_eq_true rfl)) d_M_swap_8 ⟨Nat.le_of_ble_eq_true rfl, Nat.le_of_ble_eq_true rfl⟩) (fun r8 h => ?_)
  refine lv_istore (lv' := [(4, .int r8), (3, .int r2), (0, .ref aM), (1, .int a1), (2, .int a2)]) hx hb d_M_swap_11 hl (by decide) rfl (fun ls hl => ?_)
  refine lv_aload_n hx hb d_M_swap_13 rfl (lv_at hl 2 rfl) ?_
  refine lv_iload_n hx hb d_M_swap_14 rfl (lv_at hl 3 rfl) ?_
  refine rq_calli (W.runS (As := [.int a1]) (rest := [.ref aM]) ⟨hx, hb, hml, hown, hw⟩ (mV_toEntry l a1 _ h) (va_cwS 1 hw g_M_37 rfl rfl rfl (by decide +kernel) ⟨Nat.le_of_ble_eq_true rfl, Nat.le_of_ble_eq_true rfl⟩) preEq rfl rfl hl.1 rfl (lv_room (Nat.le_of_ble_eq_true rfl)) d_M_swap_15 ⟨Nat.le_of_ble_eq_true rfl, Nat.le_of_ble_eq_true rfl⟩) (fun r15 h => ?_)
  refine lv_iload hx hb d_M_swap_18 (lv_at hl 0 rfl) ?_
  have hFc := va_free (wc := TSw cA a0 aR aM aW aP aS aC aO nW nE R f us P S sc li rc rn ro rd st) hD hS hA [0, 1, 2, 3, 4, 5, 6, 7] rfl
  refine va_callv (va_runV (As := [.int r15, .int r8]) (rest := []) ⟨hx, hb, hml, hown, hw⟩ (mM_seat l dC dI cA a0 aR aM aW aP aS aC aO nW nE s.heap.size R f us P S sc li rc rn ro rd st r15 r8 _ h) (cwV 2 hw g_M_96 rfl rfl rfl (by decide +kernel) ⟨Nat.le_of_ble_eq_true rfl, Nat.le_of_ble_eq_true rfl⟩) (rw_PV (ci := 1) (q0 := 2) hK hP hD rfl rfl) rfl rfl hl.1 rfl (lv_room (Nat.le_of_ble_eq_true rfl)) d_M_swap_20 ⟨Nat.le_of_ble_eq_true rfl, Nat.le_of_ble_eq_true rfl⟩) hS (fun q _ h => hFc q h) hFc (fun u t H locs ht hvm h hB hz1 hk1 hS => ?_)
  obtain ⟨f_20, P_20⟩ := u
  obtain ⟨hP, hK1, hD1⟩ := hB
  rw [ht] at hP
  have hD := hD1.weaken (fun _ _ _ q => hFc _ q)
  clear hFc hD1 hK1
  try dsimp only at h
  have hP : va_P (dC, dI) vwCl (TSw cA a0 aR aM aW aP aS aC aO nW nE R f_20 us P_20 S sc li rc rn ro rd st) H := hP
  have hD : va_D A (TSw cA a0 aR aM aW aP aS aC aO nW nE R f_20 us P_20 S sc li rc rn ro rd st) := hD
  refine lv_aload_n hx hb d_M_swap_23 rfl (lv_at hl 2 rfl) ?_
  refine lv_iload_n hx hb d_M_swap_24 rfl (lv_at hl 4 rfl) ?_
  refine rq_calli (W.runS (As := [.int a2]) (rest := [.ref aM]) ⟨hx, hb, hml, hown, hw⟩ (mV_toEntry l a2 _ h) (va_cwS 1 hw g_M_37 rfl rfl rfl (by decide +kernel) ⟨Nat.le_of_ble_eq_true rfl, Nat.le_of_ble_eq_true rfl⟩) preEq rfl rfl hl.1 rfl (lv_room (Nat.le_of_ble_eq_true rfl)) d_M_swap_25 ⟨Nat.le_of_ble_eq_true rfl, Nat.le_of_ble_eq_true rfl⟩) (fun r25 h => ?_)
  refine lv_iload_n hx hb d_M_swap_28 rfl (lv_at hl 1 rfl) ?_
  have hFc := va_free (wc := TSw cA a0 aR aM aW aP aS aC aO nW nE R f_20 us P_20 S sc li rc rn ro rd st) hD hS hA [0, 1, 2, 3, 4, 5, 6, 7] rfl
  refine va_callv (va_runV (As := [.int r25, .int r2]) (rest := []) ⟨hx, hb, hml, hown, hw⟩ (mM_seat l dC dI cA a0 aR aM aW aP aS aC aO nW nE H.size R f_20 us P_20 S sc li rc rn ro rd st r25 r2 _ h) (cwV 2 hw g_M_96 rfl rfl rfl (by decide +kernel) ⟨Nat.le_of_ble_eq_true rfl, Nat.le_of_ble_eq_true rfl⟩) (rw_PV (ci := 1) (q0 := 2) hK hP hD rfl rfl) rfl rfl hl.1 rfl (lv_room (Nat.le_of_ble_eq_true rfl)) d_M_swap_29 ⟨Nat.le_of_ble_eq_true rfl, Nat.le_of_ble_eq_true rfl⟩) hS (fun q _ h => hFc q h) hFc (fun u t H locs ht hvm h hB hz1 hk1 hS => ?_)
  obtain ⟨f_29, P_29⟩ := u
  obtain ⟨hP, hK1, hD1⟩ := hB
  rw [ht] at hP
  have hD := hD1.weaken (fun _ _ _ q => hFc _ q)
  clear hFc hD1 hK1
  try dsimp only at h
  have hP : va_P (dC, dI) vwCl (TSw cA a0 aR aM aW aP aS aC aO nW nE R f_29 us P_29 S sc li rc rn ro rd st) H := hP
  have hD : va_D A (TSw cA a0 aR aM aW aP aS aC aO nW nE R f_29 us P_29 S sc li rc rn ro rd st) := hD
  exact W.vret hx hb hr9 (fun t ht hW => ⟨⟨(f_29, P_29), rfl, h, by rw [ht]; exact hP, va_K.moved hW.alike hK, hD⟩, hS.F ht⟩) hS.2.2 d_M_swap_32
def wqM_startRound (nW : Nat) (nE : Nat) (rn : Int32) (rd : Int32) (post : Int32 → Int32 → Prop) : Prop :=
  post (0 : Int32) (rd + (1 : Int32))
set_option maxHeartbeats 4000000 in
set_option maxRecDepth 100000 in
theorem mM_startRound (l : Launch) (dC : Nat → ClassId) (dI : Nat → Nat → Nat) (cA : ClassId) (a0 : Nat) (aR : Nat) (aM : Nat) (aW : Nat) (aP : Nat) (aS : Nat) (aC : Nat) (aO : Nat) (nW : Nat) (nE : Nat) (sz : Nat) (R : Nat → Int32) (f : Nat → Int32) (us : Int32) (P : Nat → Int32) (S : Nat → Int32) (sc : Int32) (li : Int32) (rc : Nat → Int32) (rn : Int32) (ro : Nat → Int32) (rd : Int32) (st : Int32) (post : Int32 → Int32 → Prop) (h : wqM_startRound nW nE rn rd post) : Met l y_M_startRound ws_M_startRound ({ frames := 0, cells := 0, slots := 0, locals := 0 }) (rw_P (dC, dI) vwCl (TSw cA a0 aR aM aW aP aS aC aO nW nE R f us P S sc li rc rn ro rd st) [(cA, .int)] sz [.ref aM]) (va_Qv (fun u : Int32 × Int32 => post u.1 u.2) (rw_B (dC, dI) vwCl [(cA, .int)] (va_A (TSw cA a0 aR aM aW aP aS aC aO nW nE R f us P S sc li rc rn ro rd st) sz) (fun u : Int32 × Int32 => TSw cA a0 aR aM aW aP aS aC aO nW nE R f us P S sc li rc u.1 ro u.2 st)) (va_A (TSw cA a0 aR aM aW aP aS aC aO nW nE R f us P S sc li rc rn ro rd st) sz)) 0 0 (va_A (TSw cA a0 aR aM aW aP aS aC aO nW nE R f us P S sc li rc rn ro rd st) sz) := by
  refine Met.ofW (cc := c_M_startRound) (maxL := 1) (ret := none) (by decide) rfl ?_
  intro p e s m args below meth c s₁ B hml hv
  obtain ⟨rfl, hsz, hP, hK, hD0⟩ := hv
  have hx := B.exec
  have hb := B.bytes
  have hr9 := B.returns
  have hts := atoms_spec (ws := ws_M_startRound) B.pre
  have hw : ∀ w ∈ WB_, w.before _ s = true := fun w h => hts w (List.mem_cons_of_mem _ h)
  have hown : s.vm.findClass R_M = some m.cls := findClass_of_methodNamed B.named
  have hlocks := B.notSynchronized
  subst hsz
  have hD := hD0.self (sz := s.heap.size)
  generalize hAe : va_A (TSw cA a0 aR aM aW aP aS aC aO nW nE R f us P S sc li rc rn ro rd st) s.heap.size = A at hD ⊢
  have hA : ∀ q : Nat, s.heap.size ≤ q → A q := fun q h => by rw [← hAe]; exact Or.inr h
  have hS : va_S A s.heap s.heap [] := va_S.rf
  have hl := lv_entry ([.ref aM]) (n := 1) (Nat.le_of_ble_eq_true rfl)
  rw [lg_entry_eq]
  generalize (lg_sl ([.ref aM]) ++ List.replicate (1 - (lg_sl ([.ref aM])).length) Slot.unset).toArray = ls at hl ⊢
  have hl : lv_has ls 1 [(0, .ref aM)] := hl
  unfold wqM_startRound at h
  refine lv_aload_n hx hb d_M_startRound_0 rfl (lv_at hl 0 rfl) ?_
  refine lv_dup hx hb d_M_startRound_1 rfl ?_
  refine va_get (D := (dC, dI)) (ci := 1) (v := .int rd) (C := R_M) (T := T_M) (N := 11) hx hb hw in_M hown hK hP 2 rfl rfl 9 (by decide) (hw _ wd_72) (fun _ h9 => h9) rfl d_M_startRound_2 ?_
  refine lv_iconst (v := (1 : Int32)) hx hb d_M_startRound_5 (by decide) ?_
  refine lv_iadd hx hb d_M_startRound_6 ?_
  refine va_put (D := (dC, dI)) (ci := 1) (v := .int (rd + (1 : Int32))) (ty := .int) (C := R_M) (T := T_M) (N := 11) hx hb hw in_M ty_M ty_M_ok nm_M hown hK hP hD hS 2 rfl rfl 9 (by decide) (hw _ wd_72) (fun _ h9 => h9) rfl (by decide +kernel) rfl rfl (Nat.le_of_ble_eq_true rfl) d_M_startRound_7 (fun H locs hP hD hS => ?_)
  have hP : va_P (dC, dI) vwCl (TSw cA a0 aR aM aW aP aS aC aO nW nE R f us P S sc li rc rn ro (rd + (1 : Int32)) st) H := hP
  have hD : va_D A (TSw cA a0 aR aM aW aP aS aC aO nW nE R f us P S sc li rc rn ro (rd + (1 : Int32)) st) := hD
  refine lv_aload_n hx hb d_M_startRound_10 rfl (lv_at hl 0 rfl) ?_
  refine lv_iconst (v := (0 : Int32)) hx hb d_M_startRound_11 (by decide) ?_
  refine va_put (D := (dC, dI)) (ci := 1) (v := .int (0 : Int32)) (ty := .int) (C := R_M) (T := T_M) (N := 11) hx hb hw in_M ty_M ty_M_ok nm_M hown hK hP hD hS 2 rfl rfl 7 (by decide) (hw _ wd_70) (fun _ h9 => h9) rfl (by decide +kernel) rfl rfl (Nat.le_of_ble_eq_true rfl) d_M_startRound_12 (fun H locs hP hD hS => ?_)
  have hP : va_P (dC, dI) vwCl (TSw cA a0 aR aM aW aP aS aC aO nW nE R f us P S sc li rc (0 : Int32) ro (rd + (1 : Int32)) st) H := hP
  have hD : va_D A (TSw cA a0 aR aM aW aP aS aC aO nW nE R f us P S sc li rc (0 : Int32) ro (rd + (1 : Int32)) st) := hD
  exact W.vret hx hb hr9 (fun t ht hW => ⟨⟨((0 : Int32), rd + (1 : Int32)), rfl, h, by rw [ht]; exact hP, va_K.moved hW.alike hK, hD⟩, hS.F ht⟩) hS.2.2 d_M_startRound_15
def wqM_reach (nW : Nat) (nE : Nat) (rc : Nat → Int32) (rn : Int32) (ro : Nat → Int32) (rd : Int32) (a1 : Int32) (post : (Nat → Int32) → Int32 → (Nat → Int32) → Prop) : Prop :=
  wqV_isObject a1 (fun r1 => (r1 = 0 → (post rc rn ro)) ∧ (¬ (r1 = 0) → (wqV_toEntry a1 (fun r9 => wqM_isReached nW nE ro rd r9 (fun r15 => (r15 = 0 → (vp_in r9 nE ∧ (vp_in rn nE ∧ (post (upd rc rn.toNatClampNeg r9) (rn + (1 : Int32)) (upd ro r9.toNatClampNeg rd))))) ∧ (¬ (r15 = 0) → (post rc rn ro)))))))
set_option maxHeartbeats 4000000 in
set_option maxRecDepth 100000 in
theorem mM_reach (l : Launch) (dC : Nat → ClassId) (dI : Nat → Nat → Nat) (cA : ClassId) (a0 : Nat) (aR : Nat) (aM : Nat) (aW : Nat) (aP : Nat) (aS : Nat) (aC : Nat) (aO : Nat) (nW : Nat) (nE : Nat) (sz : Nat) (R : Nat → Int32) (f : Nat → Int32) (us : Int32) (P : Nat → Int32) (S : Nat → Int32) (sc : Int32) (li : Int32) (rc : Nat → Int32) (rn : Int32) (ro : Nat → Int32) (rd : Int32) (st : Int32) (a1 : Int32) (post : (Nat → Int32) → Int32 → (Nat → Int32) → Prop) (h : wqM_reach nW nE rc rn ro rd a1 post) : Met l y_M_reach ws_M_reach ({ frames := 2, cells := 0, slots := 0, locals := 40 }) (rw_P (dC, dI) vwCl (TSw cA a0 aR aM aW aP aS aC aO nW nE R f us P S sc li rc rn ro rd st) [(cA, .int)] sz [.ref aM, .int a1]) (va_Qv (fun u : (Nat → Int32) × Int32 × (Nat → Int32) => post u.1 u.2.1 u.2.2) (rw_B (dC, dI) vwCl [(cA, .int)] (va_A (TSw cA a0 aR aM aW aP aS aC aO nW nE R f us P S sc li rc rn ro rd st) sz) (fun u : (Nat → Int32) × Int32 × (Nat → Int32) => TSw cA a0 aR aM aW aP aS aC aO nW nE R f us P S sc li u.1 u.2.1 u.2.2 rd st)) (va_A (TSw cA a0 aR aM aW aP aS aC aO nW nE R f us P S sc li rc rn ro rd st) sz)) 0 0 (va_A (TSw cA a0 aR aM aW aP aS aC aO nW nE R f us P S sc li rc rn ro rd st) sz) := by
  refine Met.ofW (cc := c_M_reach) (maxL := 3) (ret := none) (by decide) rfl ?_
  intro p e s m args below meth c s₁ B hml hv
  obtain ⟨rfl, hsz, hP, hK, hD0⟩ := hv
  have hx := B.exec
  have hb := B.bytes
  have hr9 := B.returns
  have hts := atoms_spec (ws := ws_M_reach) B.pre
  have hw : ∀ w ∈ WB_, w.before _ s = true := fun w h => hts w (List.mem_cons_of_mem _ h)
  have hown : s.vm.findClass R_M = some m.cls := findClass_of_methodNamed B.named
  have hlocks := B.notSynchronized
  subst hsz
  have hD := hD0.self (sz := s.heap.size)
  generalize hAe : va_A (TSw cA a0 aR aM aW aP aS aC aO nW nE R f us P S sc li rc rn ro rd st) s.heap.size = A at hD ⊢
  have hA : ∀ q : Nat, s.heap.size ≤ q → A q := fun q h => by rw [← hAe]; exact Or.inr h
  have hS : va_S A s.heap s.heap [] := va_S.rf
  have hl := lv_entry ([.ref aM, .int a1]) (n := 3) (Nat.le_of_ble_eq_true rfl)
  rw [lg_entry_eq]
  generalize (lg_sl ([.ref aM, .int a1]) ++ List.replicate (3 - (lg_sl ([.ref aM, .int a1])).length) Slot.unset).toArray = ls at hl ⊢
  have hl : lv_has ls 3 [(0, .ref aM), (1, .int a1)] := hl
  unfold wqM_reach at h
  refine lv_iload_n hx hb d_M_reach_0 rfl (lv_at hl 1 rfl) ?_
  refine rq_calli (W.runS (As := [.int a1]) (rest := []) ⟨hx, hb, hml, hown, hw⟩ (mV_isObject l a1 _ h) (va_cwS 1 hw g_M_43 rfl rfl rfl (by decide +kernel) ⟨Nat.le_of_ble_eq_true rfl, Nat.le_of_ble_eq_true rfl⟩) preEq rfl rfl hl.1 rfl (lv_room (Nat.le_of_ble_eq_true rfl)) d_M_reach_1 ⟨Nat.le_of_ble_eq_true rfl, Nat.le_of_ble_eq_true rfl⟩) (fun r1 h => ?_)
  refine lv_if_ne (tgt := 8) hx hb d_M_reach_4 (by decide) (fun c_4 => ?_) (fun c_4 => ?_)
  · have h := h.2 c_4
    refine lv_iload_n hx hb d_M_reach_8 rfl (lv_at hl 1 rfl) ?_
    refine rq_calli (W.runS (As := [.int a1]) (rest := []) ⟨hx, hb, hml, hown, hw⟩ (mV_toEntry l a1 _ h) (va_cwS 1 hw g_M_37 rfl rfl rfl (by decide +kernel) ⟨Nat.le_of_ble_eq_true rfl, Nat.le_of_ble_eq_true rfl⟩) preEq rfl rfl hl.1 rfl (lv_room (Nat.le_of_ble_eq_true rfl)) d_M_reach_9 ⟨Nat.le_of_ble_eq_true rfl, Nat.le_of_ble_eq_true rfl⟩) (fun r9 h => ?_)
    refine lv_istore_n (lv' := [(2, .int r9), (0, .ref aM), (1, .int a1)]) hx hb d_M_reach_12 rfl hl (by decide) rfl (fun ls hl => ?_)
    refine lv_aload_n hx hb d_M_reach_13 rfl (lv_at hl 1 rfl) ?_
    refine lv_iload_n hx hb d_M_reach_14 rfl (lv_at hl 0 rfl) ?_
    refine rq_calli (W.runV (As := [.int r9]) (rest := []) ⟨hx, hb, hml, hown, hw⟩ (mM_isReached l dC dI cA a0 aR aM aW aP aS aC aO nW nE R f us P S sc li rc rn ro rd st r9 _ h) (cwV 1 hw g_M_111 rfl rfl rfl (by decide +kernel) ⟨Nat.le_of_ble_eq_true rfl, Nat.le_of_ble_eq_true rfl⟩) (ro_PV (ci := 1) (q0 := 2) hK hP rfl rfl) rfl rfl hl.1 rfl (lv_room (Nat.le_of_ble_eq_true rfl)) d_M_reach_15 ⟨Nat.le_of_ble_eq_true rfl, Nat.le_of_ble_eq_true rfl⟩) (fun r15 h => ?_)
    refine lv_if_ne (tgt := 51) hx hb d_M_reach_18 (by decide) (fun c_18 => ?_) (fun c_18 => ?_)
    · have h := h.2 c_18
      exact W.vret hx hb hr9 (fun t ht hW => ⟨⟨(rc, rn, ro), rfl, h, by rw [ht]; exact hP, va_K.moved hW.alike hK, hD⟩, hS.F ht⟩) hS.2.2 d_M_reach_51
    · have h := h.1 c_18
      refine lv_aload_n hx hb d_M_reach_21 rfl (lv_at hl 1 rfl) ?_
      refine va_get (D := (dC, dI)) (ci := 1) (v := .ref aO) (C := R_M) (T := T_M) (N := 11) hx hb hw in_M hown hK hP 2 rfl rfl 8 (by decide) (hw _ wd_71) (fun _ h9 => h9) rfl d_M_reach_22 ?_
      refine lv_iload_n hx hb d_M_reach_25 rfl (lv_at hl 0 rfl) ?_
      refine lv_aload_n hx hb d_M_reach_26 rfl (lv_at hl 1 rfl) ?_
      refine va_get (D := (dC, dI)) (ci := 1) (v := .int rd) (C := R_M) (T := T_M) (N := 11) hx hb hw in_M hown hK hP 2 rfl rfl 9 (by decide) (hw _ wd_72) (fun _ h9 => h9) rfl d_M_reach_27 ?_
      refine va_iast hx hb hK hP hD hS 7 0 rfl rfl h.1 d_M_reach_30 (fun H locs hP hD hS => ?_)
      have hP : va_P (dC, dI) vwCl (TSw cA a0 aR aM aW aP aS aC aO nW nE R f us P S sc li rc rn (upd ro r9.toNatClampNeg rd) rd st) H := hP
      have hD : va_D A (TSw cA a0 aR aM aW aP aS aC aO nW nE R f us P S sc li rc rn (upd ro r9.toNatClampNeg rd) rd st) := hD
      have h := h.2
      refine lv_aload_n hx hb d_M_reach_31 rfl (lv_at hl 1 rfl) ?_
      refine va_get (D := (dC, dI)) (ci := 1) (v := .ref aC) (C := R_M) (T := T_M) (N := 11) hx hb hw in_M hown hK hP 2 rfl rfl 6 (by decide) (hw _ wd_69) (fun _ h9 => h9) rfl d_M_reach_32 ?_
      refine lv_aload_n hx hb d_M_reach_35 rfl (lv_at hl 1 rfl) ?_
      refine va_get (D := (dC, dI)) (ci := 1) (v := .int rn) (C := R_M) (T := T_M) (N := 11) hx hb hw in_M hown hK hP 2 rfl rfl 7 (by decide) (hw _ wd_70) (fun _ h9 => h9) rfl d_M_reach_36 ?_
      refine lv_iload_n hx hb d_M_reach_39 rfl (lv_at hl 0 rfl) ?_
      refine va_iast hx hb hK hP hD hS 6 0 rfl rfl h.1 d_M_reach_40 (fun H locs hP hD hS => ?_)
      have hP : va_P (dC, dI) vwCl (TSw cA a0 aR aM aW aP aS aC aO nW nE R f us P S sc li (upd rc rn.toNatClampNeg r9) rn (upd ro r9.toNatClampNeg rd) rd st) H := hP
      have hD : va_D A (TSw cA a0 aR aM aW aP aS aC aO nW nE R f us P S sc li (upd rc rn.toNatClampNeg r9) rn (upd ro r9.toNatClampNeg rd) rd st) := hD
      have h := h.2
      refine lv_aload_n hx hb d_M_reach_41 rfl (lv_at hl 1 rfl) ?_
      refine lv_dup hx hb d_M_reach_42 rfl ?_
      refine va_get (D := (dC, dI)) (ci := 1) (v := .int rn) (C := R_M) (T := T_M) (N := 11) hx hb hw in_M hown hK hP 2 rfl rfl 7 (by decide) (hw _ wd_70) (fun _ h9 => h9) rfl d_M_reach_43 ?_
      refine lv_iconst (v := (1 : Int32)) hx hb d_M_reach_46 (by decide) ?_
      refine lv_iadd hx hb d_M_reach_47 ?_
      refine va_put (D := (dC, dI)) (ci := 1) (v := .int (rn + (1 : Int32))) (ty := .int) (C := R_M) (T := T_M) (N := 11) hx hb hw in_M ty_M ty_M_ok nm_M hown hK hP hD hS 2 rfl rfl 7 (by decide) (hw _ wd_70) (fun _ h9 => h9) rfl (by decide +kernel) rfl rfl (Nat.le_of_ble_eq_true rfl) d_M_reach_48 (fun H locs hP hD hS => ?_)
      have hP : va_P (dC, dI) vwCl (TSw cA a0 aR aM aW aP aS aC aO nW nE R f us P S sc li (upd rc rn.toNatClampNeg r9) (rn + (1 : Int32)) (upd ro r9.toNatClampNeg rd) rd st) H := hP
      have hD : va_D A (TSw cA a0 aR aM aW aP aS aC aO nW nE R f us P S sc li (upd rc rn.toNatClampNeg r9) (rn + (1 : Int32)) (upd ro r9.toNatClampNeg rd) rd st) := hD
      exact W.vret hx hb hr9 (fun t ht hW => ⟨⟨(upd rc rn.toNatClampNeg r9, rn + (1 : Int32), upd ro r9.toNatClampNeg rd), rfl, h, by rw [ht]; exact hP, va_K.moved hW.alike hK, hD⟩, hS.F ht⟩) hS.2.2 d_M_reach_51
  · have h := h.1 c_4
    exact W.vret hx hb hr9 (fun t ht hW => ⟨⟨(rc, rn, ro), rfl, h, by rw [ht]; exact hP, va_K.moved hW.alike hK, hD⟩, hS.F ht⟩) hS.2.2 d_M_reach_7
def wqM_spread_54 (nW : Nat) (nE : Nat) (f : Nat → Int32) (P : Nat → Int32) (rd : Int32) (y1_54 : Int32) (y2_54 : Int32) (y3_54 : Int32) (post : (Nat → Int32) → Int32 → (Nat → Int32) → Prop) (kx : Int32 → (Nat → Int32) → Int32 → (Nat → Int32) → Prop) : Nat → Int32 → (Nat → Int32) → Int32 → (Nat → Int32) → Prop
  | 0, _, _, _, _ => False
  | n + 1, x4_54, rc_54, rn_54, ro_54 =>
    (y3_54 ≤ x4_54 → (kx x4_54 rc_54 rn_54 ro_54)) ∧ (¬ (y3_54 ≤ x4_54) → (vp_in x4_54 nW ∧ (wqM_reach nW nE rc_54 rn_54 ro_54 rd (f x4_54.toNatClampNeg) (fun rc_68 rn_68 ro_68 => wqM_spread_54 nW nE f P rd y1_54 y2_54 y3_54 post kx n (x4_54 + (1 : Int32)) rc_68 rn_68 ro_68))))
def wqM_spread_2 (nW : Nat) (nE : Nat) (f : Nat → Int32) (P : Nat → Int32) (rd : Int32) (post : (Nat → Int32) → Int32 → (Nat → Int32) → Prop) (kx : Int32 → (Nat → Int32) → Int32 → (Nat → Int32) → Prop) : Nat → Int32 → (Nat → Int32) → Int32 → (Nat → Int32) → Prop
  | 0, _, _, _, _ => False
  | n + 1, x1_2, rc_2, rn_2, ro_2 =>
    ((nI nE) ≤ x1_2 → (kx x1_2 rc_2 rn_2 ro_2)) ∧ (¬ ((nI nE) ≤ x1_2) → ((rn_2 ≤ x1_2 → (kx x1_2 rc_2 rn_2 ro_2)) ∧ (¬ (rn_2 ≤ x1_2) → (vp_in x1_2 nE ∧ (vp_in (rc_2 x1_2.toNatClampNeg) nE ∧ (vp_in ((P (rc_2 x1_2.toNatClampNeg).toNatClampNeg) + (2 : Int32)) nW ∧ (wqM_reach nW nE rc_2 rn_2 ro_2 rd (f ((P (rc_2 x1_2.toNatClampNeg).toNatClampNeg) + (2 : Int32)).toNatClampNeg) (fun rc_40 rn_40 ro_40 => wqM_endOfSlots nW nE f (P (rc_2 x1_2.toNatClampNeg).toNatClampNeg) (fun r45 => ∃ k_54, wqM_spread_54 nW nE f P rd x1_2 (P (rc_2 x1_2.toNatClampNeg).toNatClampNeg) r45 post (fun z4_54 rce_54 rne_54 roe_54 => wqM_spread_2 nW nE f P rd post kx n (x1_2 + (1 : Int32)) rce_54 rne_54 roe_54) k_54 ((P (rc_2 x1_2.toNatClampNeg).toNatClampNeg) + (4 : Int32)) rc_40 rn_40 ro_40)))))))))
def wqM_spread (nW : Nat) (nE : Nat) (f : Nat → Int32) (P : Nat → Int32) (rc : Nat → Int32) (rn : Int32) (ro : Nat → Int32) (rd : Int32) (post : (Nat → Int32) → Int32 → (Nat → Int32) → Prop) : Prop :=
  ∃ k_2, wqM_spread_2 nW nE f P rd post (fun z1_2 rce_2 rne_2 roe_2 => post rce_2 rne_2 roe_2) k_2 (0 : Int32) rc rn ro
set_option maxHeartbeats 4000000 in
set_option maxRecDepth 100000 in
theorem mM_spread (l : Launch) (dC : Nat → ClassId) (dI : Nat → Nat → Nat) (cA : ClassId) (a0 : Nat) (aR : Nat) (aM : Nat) (aW : Nat) (aP : Nat) (aS : Nat) (aC : Nat) (aO : Nat) (nW : Nat) (nE : Nat) (sz : Nat) (R : Nat → Int32) (f : Nat → Int32) (us : Int32) (P : Nat → Int32) (S : Nat → Int32) (sc : Int32) (li : Int32) (rc : Nat → Int32) (rn : Int32) (ro : Nat → Int32) (rd : Int32) (st : Int32) (post : (Nat → Int32) → Int32 → (Nat → Int32) → Prop) (h : wqM_spread nW nE f P rc rn ro rd post) : Met l y_M_spread ws_M_spread ({ frames := 3, cells := 0, slots := 0, locals := 63 }) (rw_P (dC, dI) vwCl (TSw cA a0 aR aM aW aP aS aC aO nW nE R f us P S sc li rc rn ro rd st) [(cA, .int)] sz [.ref aM]) (va_Qv (fun u : (Nat → Int32) × Int32 × (Nat → Int32) => post u.1 u.2.1 u.2.2) (rw_B (dC, dI) vwCl [(cA, .int)] (va_A (TSw cA a0 aR aM aW aP aS aC aO nW nE R f us P S sc li rc rn ro rd st) sz) (fun u : (Nat → Int32) × Int32 × (Nat → Int32) => TSw cA a0 aR aM aW aP aS aC aO nW nE R f us P S sc li u.1 u.2.1 u.2.2 rd st)) (va_A (TSw cA a0 aR aM aW aP aS aC aO nW nE R f us P S sc li rc rn ro rd st) sz)) 0 0 (va_A (TSw cA a0 aR aM aW aP aS aC aO nW nE R f us P S sc li rc rn ro rd st) sz) := by
  refine Met.ofW (cc := c_M_spread) (maxL := 5) (ret := none) (by decide) rfl ?_
  intro p e s m args below meth c s₁ B hml hv
  obtain ⟨rfl, hsz, hP, hK, hD0⟩ := hv
  have hx := B.exec
  have hb := B.bytes
  have hr9 := B.returns
  have hts := atoms_spec (ws := ws_M_spread) B.pre
  have hw : ∀ w ∈ WB_, w.before _ s = true := fun w h => hts w (List.mem_cons_of_mem _ h)
  have hown : s.vm.findClass R_M = some m.cls := findClass_of_methodNamed B.named
  have hlocks := B.notSynchronized
  subst hsz
  have hD := hD0.self (sz := s.heap.size)
  generalize hAe : va_A (TSw cA a0 aR aM aW aP aS aC aO nW nE R f us P S sc li rc rn ro rd st) s.heap.size = A at hD ⊢
  have hA : ∀ q : Nat, s.heap.size ≤ q → A q := fun q h => by rw [← hAe]; exact Or.inr h
  have hS : va_S A s.heap s.heap [] := va_S.rf
  have hl := lv_entry ([.ref aM]) (n := 5) (Nat.le_of_ble_eq_true rfl)
  rw [lg_entry_eq]
  generalize (lg_sl ([.ref aM]) ++ List.replicate (5 - (lg_sl ([.ref aM])).length) Slot.unset).toArray = ls at hl ⊢
  have hl : lv_has ls 5 [(0, .ref aM)] := hl
  have lp_54 : ∀ (y1_54 : Int32) (y2_54 : Int32) (y3_54 : Int32) (kx : Int32 → (Nat → Int32) → Int32 → (Nat → Int32) → Prop), (∀ (z4_54 : Int32) (rce_54 : Nat → Int32) (rne_54 : Int32) (roe_54 : Nat → Int32) (H : Heap) (locs : List Loc) (ls : Array Slot), va_P (dC, dI) vwCl (TSw cA a0 aR aM aW aP aS aC aO nW nE R f us P S sc li rce_54 rne_54 roe_54 rd st) H → va_D A (TSw cA a0 aR aM aW aP aS aC aO nW nE R f us P S sc li rce_54 rne_54 roe_54 rd st) → va_S A s.heap H locs → lv_has ls 5 [(0, .ref aM), (1, .int y1_54), (2, .int y2_54), (3, .int y3_54), (4, .int z4_54)] → kx z4_54 rce_54 rne_54 roe_54 → W p l e (headSpec ws_M_spread ({ frames := 3, cells := 0, slots := 0, locals := 63 })).room s m ([.ref aM] : List Value).toArray below meth c H locs 0 0 (MQ below (va_Qv (fun u : (Nat → Int32) × Int32 × (Nat → Int32) => post u.1 u.2.1 u.2.2) (rw_B (dC, dI) vwCl [(cA, .int)] A (fun u : (Nat → Int32) × Int32 × (Nat → Int32) => TSw cA a0 aR aM aW aP aS aC aO nW nE R f us P S sc li u.1 u.2.1 u.2.2 rd st)) A) ([.ref aM] : List Value).toArray s 0 0 A) (F0 m 77 ls [])) → ∀ (n : Nat) (x4_54 : Int32) (rc_54 : Nat → Int32) (rn_54 : Int32) (ro_54 : Nat → Int32) (H : Heap) (locs : List Loc) (ls : Array Slot), va_P (dC, dI) vwCl (TSw cA a0 aR aM aW aP aS aC aO nW nE R f us P S sc li rc_54 rn_54 ro_54 rd st) H → va_D A (TSw cA a0 aR aM aW aP aS aC aO nW nE R f us P S sc li rc_54 rn_54 ro_54 rd st) → va_S A s.heap H locs → lv_has ls 5 [(0, .ref aM), (1, .int y1_54), (2, .int y2_54), (3, .int y3_54), (4, .int x4_54)] → wqM_spread_54 nW nE f P rd y1_54 y2_54 y3_54 post kx n x4_54 rc_54 rn_54 ro_54 → W p l e (headSpec ws_M_spread ({ frames := 3, cells := 0, slots := 0, locals := 63 })).room s m ([.ref aM] : List Value).toArray below meth c H locs 0 0 (MQ below (va_Qv (fun u : (Nat → Int32) × Int32 × (Nat → Int32) => post u.1 u.2.1 u.2.2) (rw_B (dC, dI) vwCl [(cA, .int)] A (fun u : (Nat → Int32) × Int32 × (Nat → Int32) => TSw cA a0 aR aM aW aP aS aC aO nW nE R f us P S sc li u.1 u.2.1 u.2.2 rd st)) A) ([.ref aM] : List Value).toArray s 0 0 A) (F0 m 54 ls []) := by
    intro y1_54 y2_54 y3_54 kx K n
    induction n with
    | zero => intro x4_54 rc_54 rn_54 ro_54 H locs ls hP hD hS hl h; exact h.elim
    | succ n ih =>
      intro x4_54 rc_54 rn_54 ro_54 H locs ls hP hD hS hl h
      refine lv_iload hx hb d_M_spread_54 (lv_at hl 4 rfl) ?_
      refine lv_iload_n hx hb d_M_spread_56 rfl (lv_at hl 3 rfl) ?_
      refine lv_icmp_ge (tgt := 77) hx hb d_M_spread_57 (by decide) (fun c_57 => ?_) (fun c_57 => ?_)
      · have h := h.1 c_57
        exact K x4_54 rc_54 rn_54 ro_54 H locs ls hP hD hS (lv_sub hl [0, 1, 2, 3, 4] rfl) h
      · have h := h.2 c_57
        refine lv_aload_n hx hb d_M_spread_60 rfl (lv_at hl 0 rfl) ?_
        refine lv_aload_n hx hb d_M_spread_61 rfl (lv_at hl 0 rfl) ?_
        refine va_get (D := (dC, dI)) (ci := 1) (v := .ref aW) (C := R_M) (T := T_M) (N := 11) hx hb hw in_M hown hK hP 2 rfl rfl 0 (by decide) (hw _ wd_63) (fun _ h9 => h9) rfl d_M_spread_62 ?_
        refine lv_iload hx hb d_M_spread_65 (lv_at hl 4 rfl) ?_
        refine va_iald hx hb hK hP 3 0 rfl rfl h.1 d_M_spread_67 ?_
        have h := h.2
        have hFc := va_free (wc := TSw cA a0 aR aM aW aP aS aC aO nW nE R f us P S sc li rc_54 rn_54 ro_54 rd st) hD hS hA [0, 1, 2, 3, 4, 5, 6, 7] rfl
        refine va_callv (va_runV (As := [.int (f x4_54.toNatClampNeg)]) (rest := []) ⟨hx, hb, hml, hown, hw⟩ (mM_reach l dC dI cA a0 aR aM aW aP aS aC aO nW nE H.size R f us P S sc li rc_54 rn_54 ro_54 rd st (f x4_54.toNatClampNeg) _ h) (cwV 1 hw g_M_102 rfl rfl rfl (by decide +kernel) ⟨Nat.le_of_ble_eq_true rfl, Nat.le_of_ble_eq_true rfl⟩) (rw_PV (ci := 1) (q0 := 2) hK hP hD rfl rfl) rfl rfl hl.1 rfl (lv_room (Nat.le_of_ble_eq_true rfl)) d_M_spread_68 ⟨Nat.le_of_ble_eq_true rfl, Nat.le_of_ble_eq_true rfl⟩) hS (fun q _ h => hFc q h) hFc (fun u t H locs ht hvm h hB hz1 hk1 hS => ?_)
        obtain ⟨rc_68, rn_68, ro_68⟩ := u
        obtain ⟨hP, hK1, hD1⟩ := hB
        rw [ht] at hP
        have hD := hD1.weaken (fun _ _ _ q => hFc _ q)
        clear hFc hD1 hK1
        try dsimp only at h
        have hP : va_P (dC, dI) vwCl (TSw cA a0 aR aM aW aP aS aC aO nW nE R f us P S sc li rc_68 rn_68 ro_68 rd st) H := hP
        have hD : va_D A (TSw cA a0 aR aM aW aP aS aC aO nW nE R f us P S sc li rc_68 rn_68 ro_68 rd st) := hD
        refine lv_iinc (v := x4_54 + (1 : Int32)) (lv' := [(4, .int (x4_54 + (1 : Int32))), (0, .ref aM), (1, .int y1_54), (2, .int y2_54), (3, .int y3_54)]) hx hb d_M_spread_71 hl (k := 4) rfl rfl (by decide) rfl (fun ls hl => ?_)
        refine lv_goto (tgt := 54) hx hb d_M_spread_74 (by decide) ?_
        exact ih (x4_54 + (1 : Int32)) rc_68 rn_68 ro_68 H locs ls hP hD hS (lv_sub hl [1, 2, 3, 4, 0] rfl) h
  have lp_2 : ∀ (kx : Int32 → (Nat → Int32) → Int32 → (Nat → Int32) → Prop), (∀ (z1_2 : Int32) (rce_2 : Nat → Int32) (rne_2 : Int32) (roe_2 : Nat → Int32) (H : Heap) (locs : List Loc) (ls : Array Slot), va_P (dC, dI) vwCl (TSw cA a0 aR aM aW aP aS aC aO nW nE R f us P S sc li rce_2 rne_2 roe_2 rd st) H → va_D A (TSw cA a0 aR aM aW aP aS aC aO nW nE R f us P S sc li rce_2 rne_2 roe_2 rd st) → va_S A s.heap H locs → lv_has ls 5 [(0, .ref aM), (1, .int z1_2)] → kx z1_2 rce_2 rne_2 roe_2 → W p l e (headSpec ws_M_spread ({ frames := 3, cells := 0, slots := 0, locals := 63 })).room s m ([.ref aM] : List Value).toArray below meth c H locs 0 0 (MQ below (va_Qv (fun u : (Nat → Int32) × Int32 × (Nat → Int32) => post u.1 u.2.1 u.2.2) (rw_B (dC, dI) vwCl [(cA, .int)] A (fun u : (Nat → Int32) × Int32 × (Nat → Int32) => TSw cA a0 aR aM aW aP aS aC aO nW nE R f us P S sc li u.1 u.2.1 u.2.2 rd st)) A) ([.ref aM] : List Value).toArray s 0 0 A) (F0 m 83 ls [])) → ∀ (n : Nat) (x1_2 : Int32) (rc_2 : Nat → Int32) (rn_2 : Int32) (ro_2 : Nat → Int32) (H : Heap) (locs : List Loc) (ls : Array Slot), va_P (dC, dI) vwCl (TSw cA a0 aR aM aW aP aS aC aO nW nE R f us P S sc li rc_2 rn_2 ro_2 rd st) H → va_D A (TSw cA a0 aR aM aW aP aS aC aO nW nE R f us P S sc li rc_2 rn_2 ro_2 rd st) → va_S A s.heap H locs → lv_has ls 5 [(0, .ref aM), (1, .int x1_2)] → wqM_spread_2 nW nE f P rd post kx n x1_2 rc_2 rn_2 ro_2 → W p l e (headSpec ws_M_spread ({ frames := 3, cells := 0, slots := 0, locals := 63 })).room s m ([.ref aM] : List Value).toArray below meth c H locs 0 0 (MQ below (va_Qv (fun u : (Nat → Int32) × Int32 × (Nat → Int32) => post u.1 u.2.1 u.2.2) (rw_B (dC, dI) vwCl [(cA, .int)] A (fun u : (Nat → Int32) × Int32 × (Nat → Int32) => TSw cA a0 aR aM aW aP aS aC aO nW nE R f us P S sc li u.1 u.2.1 u.2.2 rd st)) A) ([.ref aM] : List Value).toArray s 0 0 A) (F0 m 2 ls []) := by
    intro kx K n
    induction n with
    | zero => intro x1_2 rc_2 rn_2 ro_2 H locs ls hP hD hS hl h; exact h.elim
    | succ n ih =>
      intro x1_2 rc_2 rn_2 ro_2 H locs ls hP hD hS hl h
      refine lv_iload_n hx hb d_M_spread_2 rfl (lv_at hl 1 rfl) ?_
      refine lv_aload_n hx hb d_M_spread_3 rfl (lv_at hl 0 rfl) ?_
      refine va_get (D := (dC, dI)) (ci := 1) (v := .ref aC) (C := R_M) (T := T_M) (N := 11) hx hb hw in_M hown hK hP 2 rfl rfl 6 (by decide) (hw _ wd_69) (fun _ h9 => h9) rfl d_M_spread_4 ?_
      refine va_alen (v := nI nE) hx hb hK hP 6 0 rfl rfl rfl d_M_spread_7 ?_
      refine lv_icmp_ge (tgt := 83) hx hb d_M_spread_8 (by decide) (fun c_8 => ?_) (fun c_8 => ?_)
      · have h := h.1 c_8
        exact K x1_2 rc_2 rn_2 ro_2 H locs ls hP hD hS (lv_sub hl [0, 1] rfl) h
      · have h := h.2 c_8
        refine lv_iload_n hx hb d_M_spread_11 rfl (lv_at hl 1 rfl) ?_
        refine lv_aload_n hx hb d_M_spread_12 rfl (lv_at hl 0 rfl) ?_
        refine va_get (D := (dC, dI)) (ci := 1) (v := .int rn_2) (C := R_M) (T := T_M) (N := 11) hx hb hw in_M hown hK hP 2 rfl rfl 7 (by decide) (hw _ wd_70) (fun _ h9 => h9) rfl d_M_spread_13 ?_
        refine lv_icmp_ge (tgt := 83) hx hb d_M_spread_16 (by decide) (fun c_16 => ?_) (fun c_16 => ?_)
        · have h := h.1 c_16
          exact K x1_2 rc_2 rn_2 ro_2 H locs ls hP hD hS (lv_sub hl [0, 1] rfl) h
        · have h := h.2 c_16
          refine lv_aload_n hx hb d_M_spread_19 rfl (lv_at hl 0 rfl) ?_
          refine va_get (D := (dC, dI)) (ci := 1) (v := .ref aP) (C := R_M) (T := T_M) (N := 11) hx hb hw in_M hown hK hP 2 rfl rfl 2 (by decide) (hw _ wd_65) (fun _ h9 => h9) rfl d_M_spread_20 ?_
          refine lv_aload_n hx hb d_M_spread_23 rfl (lv_at hl 0 rfl) ?_
          refine va_get (D := (dC, dI)) (ci := 1) (v := .ref aC) (C := R_M) (T := T_M) (N := 11) hx hb hw in_M hown hK hP 2 rfl rfl 6 (by decide) (hw _ wd_69) (fun _ h9 => h9) rfl d_M_spread_24 ?_
          refine lv_iload_n hx hb d_M_spread_27 rfl (lv_at hl 1 rfl) ?_
          refine va_iald hx hb hK hP 6 0 rfl rfl h.1 d_M_spread_28 ?_
          have h := h.2
          refine va_iald hx hb hK hP 4 0 rfl rfl h.1 d_M_spread_29 ?_
          have h := h.2
          refine lv_istore_n (lv' := [(2, .int (P (rc_2 x1_2.toNatClampNeg).toNatClampNeg)), (0, .ref aM), (1, .int x1_2)]) hx hb d_M_spread_30 rfl hl (by decide) rfl (fun ls hl => ?_)
          refine lv_aload_n hx hb d_M_spread_31 rfl (lv_at hl 1 rfl) ?_
          refine lv_aload_n hx hb d_M_spread_32 rfl (lv_at hl 1 rfl) ?_
          refine va_get (D := (dC, dI)) (ci := 1) (v := .ref aW) (C := R_M) (T := T_M) (N := 11) hx hb hw in_M hown hK hP 2 rfl rfl 0 (by decide) (hw _ wd_63) (fun _ h9 => h9) rfl d_M_spread_33 ?_
          refine lv_iload_n hx hb d_M_spread_36 rfl (lv_at hl 0 rfl) ?_
          refine lv_iconst (v := (2 : Int32)) hx hb d_M_spread_37 (by decide) ?_
          refine lv_iadd hx hb d_M_spread_38 ?_
          refine va_iald hx hb hK hP 3 0 rfl rfl h.1 d_M_spread_39 ?_
          have h := h.2
          have hFc := va_free (wc := TSw cA a0 aR aM aW aP aS aC aO nW nE R f us P S sc li rc_2 rn_2 ro_2 rd st) hD hS hA [0, 1, 2, 3, 4, 5, 6, 7] rfl
          refine va_callv (va_runV (As := [.int (f ((P (rc_2 x1_2.toNatClampNeg).toNatClampNeg) + (2 : Int32)).toNatClampNeg)]) (rest := []) ⟨hx, hb, hml, hown, hw⟩ (mM_reach l dC dI cA a0 aR aM aW aP aS aC aO nW nE H.size R f us P S sc li rc_2 rn_2 ro_2 rd st (f ((P (rc_2 x1_2.toNatClampNeg).toNatClampNeg) + (2 : Int32)).toNatClampNeg) _ h) (cwV 1 hw g_M_102 rfl rfl rfl (by decide +kernel) ⟨Nat.le_of_ble_eq_true rfl, Nat.le_of_ble_eq_true rfl⟩) (rw_PV (ci := 1) (q0 := 2) hK hP hD rfl rfl) rfl rfl hl.1 rfl (lv_room (Nat.le_of_ble_eq_true rfl)) d_M_spread_40 ⟨Nat.le_of_ble_eq_true rfl, Nat.le_of_ble_eq_true rfl⟩) hS (fun q _ h => hFc q h) hFc (fun u t H locs ht hvm h hB hz1 hk1 hS => ?_)
          obtain ⟨rc_40, rn_40, ro_40⟩ := u
          obtain ⟨hP, hK1, hD1⟩ := hB
          rw [ht] at hP
          have hD := hD1.weaken (fun _ _ _ q => hFc _ q)
          clear hFc hD1 hK1
          try dsimp only at h
          have hP : va_P (dC, dI) vwCl (TSw cA a0 aR aM aW aP aS aC aO nW nE R f us P S sc li rc_40 rn_40 ro_40 rd st) H := hP
          have hD : va_D A (TSw cA a0 aR aM aW aP aS aC aO nW nE R f us P S sc li rc_40 rn_40 ro_40 rd st) := hD
          refine lv_aload_n hx hb d_M_spread_43 rfl (lv_at hl 1 rfl) ?_
          refine lv_iload_n hx hb d_M_spread_44 rfl (lv_at hl 0 rfl) ?_
          refine rq_calli (W.runV (As := [.int (P (rc_2 x1_2.toNatClampNeg).toNatClampNeg)]) (rest := []) ⟨hx, hb, hml, hown, hw⟩ (mM_endOfSlots l dC dI cA a0 aR aM aW aP aS aC aO nW nE R f us P S sc li rc_40 rn_40 ro_40 rd st (P (rc_2 x1_2.toNatClampNeg).toNatClampNeg) _ h) (cwV 1 hw g_M_120 rfl rfl rfl (by decide +kernel) ⟨Nat.le_of_ble_eq_true rfl, Nat.le_of_ble_eq_true rfl⟩) (ro_PV (ci := 1) (q0 := 2) hK hP rfl rfl) rfl rfl hl.1 rfl (lv_room (Nat.le_of_ble_eq_true rfl)) d_M_spread_45 ⟨Nat.le_of_ble_eq_true rfl, Nat.le_of_ble_eq_true rfl⟩) (fun r45 h => ?_)
          refine lv_istore_n (lv' := [(3, .int r45), (2, .int (P (rc_2 x1_2.toNatClampNeg).toNatClampNeg)), (0, .ref aM), (1, .int x1_2)]) hx hb d_M_spread_48 rfl hl (by decide) rfl (fun ls hl => ?_)
          refine lv_iload_n hx hb d_M_spread_49 rfl (lv_at hl 1 rfl) ?_
          refine lv_iconst (v := (4 : Int32)) hx hb d_M_spread_50 (by decide) ?_
          refine lv_iadd hx hb d_M_spread_51 ?_
          refine lv_istore (lv' := [(4, .int ((P (rc_2 x1_2.toNatClampNeg).toNatClampNeg) + (4 : Int32))), (3, .int r45), (2, .int (P (rc_2 x1_2.toNatClampNeg).toNatClampNeg)), (0, .ref aM), (1, .int x1_2)]) hx hb d_M_spread_52 hl (by decide) rfl (fun ls hl => ?_)
          obtain ⟨n_54, h⟩ := h
          refine lp_54 x1_2 (P (rc_2 x1_2.toNatClampNeg).toNatClampNeg) r45 _ (fun z4_54 rce_54 rne_54 roe_54 H locs ls hP hD hS hl h => ?_) n_54 ((P (rc_2 x1_2.toNatClampNeg).toNatClampNeg) + (4 : Int32)) rc_40 rn_40 ro_40 H locs ls hP hD hS (lv_sub hl [3, 4, 2, 1, 0] rfl) h
          refine lv_iinc (v := x1_2 + (1 : Int32)) (lv' := [(1, .int (x1_2 + (1 : Int32))), (0, .ref aM), (2, .int (P (rc_2 x1_2.toNatClampNeg).toNatClampNeg)), (3, .int r45), (4, .int z4_54)]) hx hb d_M_spread_77 hl (k := 1) rfl rfl (by decide) rfl (fun ls hl => ?_)
          refine lv_goto (tgt := 2) hx hb d_M_spread_80 (by decide) ?_
          exact ih (x1_2 + (1 : Int32)) rce_54 rne_54 roe_54 H locs ls hP hD hS (lv_sub hl [1, 0] rfl) h
  unfold wqM_spread at h
  refine lv_iconst (v := (0 : Int32)) hx hb d_M_spread_0 (by decide) ?_
  refine lv_istore_n (lv' := [(1, .int (0 : Int32)), (0, .ref aM)]) hx hb d_M_spread_1 rfl hl (by decide) rfl (fun ls hl => ?_)
  obtain ⟨n_2, h⟩ := h
  refine lp_2 _ (fun z1_2 rce_2 rne_2 roe_2 H locs ls hP hD hS hl h => ?_) n_2 (0 : Int32) rc rn ro s.heap [] ls hP hD hS (lv_sub hl [1, 0] rfl) h
  exact W.vret hx hb hr9 (fun t ht hW => ⟨⟨(rce_2, rne_2, roe_2), rfl, h, by rw [ht]; exact hP, va_K.moved hW.alike hK, hD⟩, hS.F ht⟩) hS.2.2 d_M_spread_83
def wqM_slide_12 (nW : Nat) (nE : Nat) (ro : Nat → Int32) (rd : Int32) (y1_12 : Int32) (post : (Nat → Int32) → Int32 → (Nat → Int32) → (Nat → Int32) → Int32 → Prop) (kx : Int32 → (Nat → Int32) → Int32 → (Nat → Int32) → (Nat → Int32) → Int32 → Prop) : Nat → Int32 → (Nat → Int32) → Int32 → (Nat → Int32) → (Nat → Int32) → Int32 → Prop
  | 0, _, _, _, _, _, _ => False
  | n + 1, x3_12, f_12, us_12, P_12, S_12, sc_12 =>
    (y1_12 ≤ x3_12 → (kx x3_12 f_12 us_12 P_12 S_12 sc_12)) ∧ (¬ (y1_12 ≤ x3_12) → (wqM_bodyWordsAt nW nE f_12 x3_12 (fun r19 => vp_in (x3_12 + (0 : Int32)) nW ∧ (wqM_isReached nW nE ro rd (f_12 (x3_12 + (0 : Int32)).toNatClampNeg) (fun r36 => (r36 = 0 → (vp_in sc_12 nE ∧ (wqM_slide_12 nW nE ro rd y1_12 post kx n (x3_12 + ((4 : Int32) + r19)) f_12 us_12 P_12 (upd S_12 sc_12.toNatClampNeg (f_12 (x3_12 + (0 : Int32)).toNatClampNeg)) (sc_12 + (1 : Int32))))) ∧ (¬ (r36 = 0) → (¬ x3_12 < 0 ∧ ¬ us_12 < 0 ∧ ¬ ((4 : Int32) + r19) < 0 ∧ x3_12.toNatClampNeg + ((4 : Int32) + r19).toNatClampNeg ≤ nW ∧ us_12.toNatClampNeg + ((4 : Int32) + r19).toNatClampNeg ≤ nW ∧ (vp_in (f_12 (x3_12 + (0 : Int32)).toNatClampNeg) nE ∧ (wqM_slide_12 nW nE ro rd y1_12 post kx n (x3_12 + ((4 : Int32) + r19)) (va_cpy f_12 f_12 x3_12.toNatClampNeg us_12.toNatClampNeg ((4 : Int32) + r19).toNatClampNeg) (us_12 + ((4 : Int32) + r19)) (upd P_12 (f_12 (x3_12 + (0 : Int32)).toNatClampNeg).toNatClampNeg us_12) S_12 sc_12)))))))))
def wqM_slide (nW : Nat) (nE : Nat) (f : Nat → Int32) (us : Int32) (P : Nat → Int32) (S : Nat → Int32) (sc : Int32) (ro : Nat → Int32) (rd : Int32) (post : (Nat → Int32) → Int32 → (Nat → Int32) → (Nat → Int32) → Int32 → Prop) : Prop :=
  ∃ k_12, wqM_slide_12 nW nE ro rd us post (fun z3_12 fe_12 use_12 Pe_12 Se_12 sce_12 => post fe_12 use_12 Pe_12 Se_12 sce_12) k_12 (0 : Int32) f (0 : Int32) P S sc
set_option maxHeartbeats 4000000 in
set_option maxRecDepth 100000 in
theorem mM_slide (l : Launch) (dC : Nat → ClassId) (dI : Nat → Nat → Nat) (cA : ClassId) (a0 : Nat) (aR : Nat) (aM : Nat) (aW : Nat) (aP : Nat) (aS : Nat) (aC : Nat) (aO : Nat) (nW : Nat) (nE : Nat) (sz : Nat) (R : Nat → Int32) (f : Nat → Int32) (us : Int32) (P : Nat → Int32) (S : Nat → Int32) (sc : Int32) (li : Int32) (rc : Nat → Int32) (rn : Int32) (ro : Nat → Int32) (rd : Int32) (st : Int32) (post : (Nat → Int32) → Int32 → (Nat → Int32) → (Nat → Int32) → Int32 → Prop) (h : wqM_slide nW nE f us P S sc ro rd post) : Met l y_M_slide ws_M_slide ({ frames := 3, cells := 0, slots := 0, locals := 62 }) (rw_P (dC, dI) vwCl (TSw cA a0 aR aM aW aP aS aC aO nW nE R f us P S sc li rc rn ro rd st) [(cA, .int)] sz [.ref aM]) (va_Qv (fun u : (Nat → Int32) × Int32 × (Nat → Int32) × (Nat → Int32) × Int32 => post u.1 u.2.1 u.2.2.1 u.2.2.2.1 u.2.2.2.2) (rw_B (dC, dI) vwCl [(cA, .int)] (va_A (TSw cA a0 aR aM aW aP aS aC aO nW nE R f us P S sc li rc rn ro rd st) sz) (fun u : (Nat → Int32) × Int32 × (Nat → Int32) × (Nat → Int32) × Int32 => TSw cA a0 aR aM aW aP aS aC aO nW nE R u.1 u.2.1 u.2.2.1 u.2.2.2.1 u.2.2.2.2 li rc rn ro rd st)) (va_A (TSw cA a0 aR aM aW aP aS aC aO nW nE R f us P S sc li rc rn ro rd st) sz)) 0 0 (va_A (TSw cA a0 aR aM aW aP aS aC aO nW nE R f us P S sc li rc rn ro rd st) sz) := by
  refine Met.ofW (cc := c_M_slide) (maxL := 5) (ret := none) (by decide) rfl ?_
  intro p e s m args below meth c s₁ B hml hv
  obtain ⟨rfl, hsz, hP, hK, hD0⟩ := hv
  have hx := B.exec
  have hb := B.bytes
  have hr9 := B.returns
  have hts := atoms_spec (ws := ws_M_slide) B.pre
  have hw : ∀ w ∈ WB_, w.before _ s = true := fun w h => hts w (List.mem_cons_of_mem _ h)
  have hown : s.vm.findClass R_M = some m.cls := findClass_of_methodNamed B.named
  have hlocks := B.notSynchronized
  subst hsz
  have hD := hD0.self (sz := s.heap.size)
  generalize hAe : va_A (TSw cA a0 aR aM aW aP aS aC aO nW nE R f us P S sc li rc rn ro rd st) s.heap.size = A at hD ⊢
  have hA : ∀ q : Nat, s.heap.size ≤ q → A q := fun q h => by rw [← hAe]; exact Or.inr h
  have hS : va_S A s.heap s.heap [] := va_S.rf
  have hl := lv_entry ([.ref aM]) (n := 5) (Nat.le_of_ble_eq_true rfl)
  rw [lg_entry_eq]
  generalize (lg_sl ([.ref aM]) ++ List.replicate (5 - (lg_sl ([.ref aM])).length) Slot.unset).toArray = ls at hl ⊢
  have hl : lv_has ls 5 [(0, .ref aM)] := hl
  have lp_12 : ∀ (y1_12 : Int32) (kx : Int32 → (Nat → Int32) → Int32 → (Nat → Int32) → (Nat → Int32) → Int32 → Prop), (∀ (z3_12 : Int32) (fe_12 : Nat → Int32) (use_12 : Int32) (Pe_12 : Nat → Int32) (Se_12 : Nat → Int32) (sce_12 : Int32) (H : Heap) (locs : List Loc) (ls : Array Slot), va_P (dC, dI) vwCl (TSw cA a0 aR aM aW aP aS aC aO nW nE R fe_12 use_12 Pe_12 Se_12 sce_12 li rc rn ro rd st) H → va_D A (TSw cA a0 aR aM aW aP aS aC aO nW nE R fe_12 use_12 Pe_12 Se_12 sce_12 li rc rn ro rd st) → va_S A s.heap H locs → lv_has ls 5 [(0, .ref aM), (1, .int y1_12), (3, .int z3_12)] → kx z3_12 fe_12 use_12 Pe_12 Se_12 sce_12 → W p l e (headSpec ws_M_slide ({ frames := 3, cells := 0, slots := 0, locals := 62 })).room s m ([.ref aM] : List Value).toArray below meth c H locs 0 0 (MQ below (va_Qv (fun u : (Nat → Int32) × Int32 × (Nat → Int32) × (Nat → Int32) × Int32 => post u.1 u.2.1 u.2.2.1 u.2.2.2.1 u.2.2.2.2) (rw_B (dC, dI) vwCl [(cA, .int)] A (fun u : (Nat → Int32) × Int32 × (Nat → Int32) × (Nat → Int32) × Int32 => TSw cA a0 aR aM aW aP aS aC aO nW nE R u.1 u.2.1 u.2.2.1 u.2.2.2.1 u.2.2.2.2 li rc rn ro rd st)) A) ([.ref aM] : List Value).toArray s 0 0 A) (F0 m 117 ls [])) → ∀ (n : Nat) (x3_12 : Int32) (f_12 : Nat → Int32) (us_12 : Int32) (P_12 : Nat → Int32) (S_12 : Nat → Int32) (sc_12 : Int32) (H : Heap) (locs : List Loc) (ls : Array Slot), va_P (dC, dI) vwCl (TSw cA a0 aR aM aW aP aS aC aO nW nE R f_12 us_12 P_12 S_12 sc_12 li rc rn ro rd st) H → va_D A (TSw cA a0 aR aM aW aP aS aC aO nW nE R f_12 us_12 P_12 S_12 sc_12 li rc rn ro rd st) → va_S A s.heap H locs → lv_has ls 5 [(0, .ref aM), (1, .int y1_12), (3, .int x3_12)] → wqM_slide_12 nW nE ro rd y1_12 post kx n x3_12 f_12 us_12 P_12 S_12 sc_12 → W p l e (headSpec ws_M_slide ({ frames := 3, cells := 0, slots := 0, locals := 62 })).room s m ([.ref aM] : List Value).toArray below meth c H locs 0 0 (MQ below (va_Qv (fun u : (Nat → Int32) × Int32 × (Nat → Int32) × (Nat → Int32) × Int32 => post u.1 u.2.1 u.2.2.1 u.2.2.2.1 u.2.2.2.2) (rw_B (dC, dI) vwCl [(cA, .int)] A (fun u : (Nat → Int32) × Int32 × (Nat → Int32) × (Nat → Int32) × Int32 => TSw cA a0 aR aM aW aP aS aC aO nW nE R u.1 u.2.1 u.2.2.1 u.2.2.2.1 u.2.2.2.2 li rc rn ro rd st)) A) ([.ref aM] : List Value).toArray s 0 0 A) (F0 m 12 ls []) := by
    intro y1_12 kx K n
    induction n with
    | zero => intro x3_12 f_12 us_12 P_12 S_12 sc_12 H locs ls hP hD hS hl h; exact h.elim
    | succ n ih =>
      intro x3_12 f_12 us_12 P_12 S_12 sc_12 H locs ls hP hD hS hl h
      refine lv_iload_n hx hb d_M_slide_12 rfl (lv_at hl 2 rfl) ?_
      refine lv_iload_n hx hb d_M_slide_13 rfl (lv_at hl 1 rfl) ?_
      refine lv_icmp_ge (tgt := 117) hx hb d_M_slide_14 (by decide) (fun c_14 => ?_) (fun c_14 => ?_)
      · have h := h.1 c_14
        exact K x3_12 f_12 us_12 P_12 S_12 sc_12 H locs ls hP hD hS (lv_sub hl [0, 1, 2] rfl) h
      · have h := h.2 c_14
        refine lv_aload_n hx hb d_M_slide_17 rfl (lv_at hl 0 rfl) ?_
        refine lv_iload_n hx hb d_M_slide_18 rfl (lv_at hl 2 rfl) ?_
        refine rq_calli (W.runV (As := [.int x3_12]) (rest := []) ⟨hx, hb, hml, hown, hw⟩ (mM_bodyWordsAt l dC dI cA a0 aR aM aW aP aS aC aO nW nE R f_12 us_12 P_12 S_12 sc_12 li rc rn ro rd st x3_12 _ h) (cwV 1 hw g_M_123 rfl rfl rfl (by decide +kernel) ⟨Nat.le_of_ble_eq_true rfl, Nat.le_of_ble_eq_true rfl⟩) (ro_PV (ci := 1) (q0 := 2) hK hP rfl rfl) rfl rfl hl.1 rfl (lv_room (Nat.le_of_ble_eq_true rfl)) d_M_slide_19 ⟨Nat.le_of_ble_eq_true rfl, Nat.le_of_ble_eq_true rfl⟩) (fun r19 h => ?_)
        refine lv_istore_n (lv' := [(2, .int r19), (0, .ref aM), (1, .int y1_12), (3, .int x3_12)]) hx hb d_M_slide_22 rfl hl (by decide) rfl (fun ls hl => ?_)
        refine lv_aload_n hx hb d_M_slide_23 rfl (lv_at hl 1 rfl) ?_
        refine va_get (D := (dC, dI)) (ci := 1) (v := .ref aW) (C := R_M) (T := T_M) (N := 11) hx hb hw in_M hown hK hP 2 rfl rfl 0 (by decide) (hw _ wd_63) (fun _ h9 => h9) rfl d_M_slide_24 ?_
        refine lv_iload_n hx hb d_M_slide_27 rfl (lv_at hl 3 rfl) ?_
        refine lv_iconst (v := (0 : Int32)) hx hb d_M_slide_28 (by decide) ?_
        refine lv_iadd hx hb d_M_slide_29 ?_
        refine va_iald hx hb hK hP 3 0 rfl rfl h.1 d_M_slide_30 ?_
        have h := h.2
        refine lv_istore (lv' := [(4, .int (f_12 (x3_12 + (0 : Int32)).toNatClampNeg)), (2, .int r19), (0, .ref aM), (1, .int y1_12), (3, .int x3_12)]) hx hb d_M_slide_31 hl (by decide) rfl (fun ls hl => ?_)
        refine lv_aload_n hx hb d_M_slide_33 rfl (lv_at hl 2 rfl) ?_
        refine lv_iload hx hb d_M_slide_34 (lv_at hl 0 rfl) ?_
        refine rq_calli (W.runV (As := [.int (f_12 (x3_12 + (0 : Int32)).toNatClampNeg)]) (rest := []) ⟨hx, hb, hml, hown, hw⟩ (mM_isReached l dC dI cA a0 aR aM aW aP aS aC aO nW nE R f_12 us_12 P_12 S_12 sc_12 li rc rn ro rd st (f_12 (x3_12 + (0 : Int32)).toNatClampNeg) _ h) (cwV 1 hw g_M_111 rfl rfl rfl (by decide +kernel) ⟨Nat.le_of_ble_eq_true rfl, Nat.le_of_ble_eq_true rfl⟩) (ro_PV (ci := 1) (q0 := 2) hK hP rfl rfl) rfl rfl hl.1 rfl (lv_room (Nat.le_of_ble_eq_true rfl)) d_M_slide_36 ⟨Nat.le_of_ble_eq_true rfl, Nat.le_of_ble_eq_true rfl⟩) (fun r36 h => ?_)
        refine lv_if_eq (tgt := 87) hx hb d_M_slide_39 (by decide) (fun c_39 => ?_) (fun c_39 => ?_)
        · have h := h.1 c_39
          refine lv_aload_n hx hb d_M_slide_87 rfl (lv_at hl 2 rfl) ?_
          refine va_get (D := (dC, dI)) (ci := 1) (v := .ref aS) (C := R_M) (T := T_M) (N := 11) hx hb hw in_M hown hK hP 2 rfl rfl 3 (by decide) (hw _ wd_66) (fun _ h9 => h9) rfl d_M_slide_88 ?_
          refine lv_aload_n hx hb d_M_slide_91 rfl (lv_at hl 2 rfl) ?_
          refine va_get (D := (dC, dI)) (ci := 1) (v := .int sc_12) (C := R_M) (T := T_M) (N := 11) hx hb hw in_M hown hK hP 2 rfl rfl 4 (by decide) (hw _ wd_67) (fun _ h9 => h9) rfl d_M_slide_92 ?_
          refine lv_iload hx hb d_M_slide_95 (lv_at hl 0 rfl) ?_
          refine va_iast hx hb hK hP hD hS 5 0 rfl rfl h.1 d_M_slide_97 (fun H locs hP hD hS => ?_)
          have hP : va_P (dC, dI) vwCl (TSw cA a0 aR aM aW aP aS aC aO nW nE R f_12 us_12 P_12 (upd S_12 sc_12.toNatClampNeg (f_12 (x3_12 + (0 : Int32)).toNatClampNeg)) sc_12 li rc rn ro rd st) H := hP
          have hD : va_D A (TSw cA a0 aR aM aW aP aS aC aO nW nE R f_12 us_12 P_12 (upd S_12 sc_12.toNatClampNeg (f_12 (x3_12 + (0 : Int32)).toNatClampNeg)) sc_12 li rc rn ro rd st) := hD
          have h := h.2
          refine lv_aload_n hx hb d_M_slide_98 rfl (lv_at hl 2 rfl) ?_
          refine lv_dup hx hb d_M_slide_99 rfl ?_
          refine va_get (D := (dC, dI)) (ci := 1) (v := .int sc_12) (C := R_M) (T := T_M) (N := 11) hx hb hw in_M hown hK hP 2 rfl rfl 4 (by decide) (hw _ wd_67) (fun _ h9 => h9) rfl d_M_slide_100 ?_
          refine lv_iconst (v := (1 : Int32)) hx hb d_M_slide_103 (by decide) ?_
          refine lv_iadd hx hb d_M_slide_104 ?_
          refine va_put (D := (dC, dI)) (ci := 1) (v := .int (sc_12 + (1 : Int32))) (ty := .int) (C := R_M) (T := T_M) (N := 11) hx hb hw in_M ty_M ty_M_ok nm_M hown hK hP hD hS 2 rfl rfl 4 (by decide) (hw _ wd_67) (fun _ h9 => h9) rfl (by decide +kernel) rfl rfl (Nat.le_of_ble_eq_true rfl) d_M_slide_105 (fun H locs hP hD hS => ?_)
          have hP : va_P (dC, dI) vwCl (TSw cA a0 aR aM aW aP aS aC aO nW nE R f_12 us_12 P_12 (upd S_12 sc_12.toNatClampNeg (f_12 (x3_12 + (0 : Int32)).toNatClampNeg)) (sc_12 + (1 : Int32)) li rc rn ro rd st) H := hP
          have hD : va_D A (TSw cA a0 aR aM aW aP aS aC aO nW nE R f_12 us_12 P_12 (upd S_12 sc_12.toNatClampNeg (f_12 (x3_12 + (0 : Int32)).toNatClampNeg)) (sc_12 + (1 : Int32)) li rc rn ro rd st) := hD
          refine lv_iload_n hx hb d_M_slide_108 rfl (lv_at hl 4 rfl) ?_
          refine lv_iconst (v := (4 : Int32)) hx hb d_M_slide_109 (by decide) ?_
          refine lv_iload_n hx hb d_M_slide_110 rfl (lv_at hl 1 rfl) ?_
          refine lv_iadd hx hb d_M_slide_111 ?_
          refine lv_iadd hx hb d_M_slide_112 ?_
          refine lv_istore_n (lv' := [(3, .int (x3_12 + ((4 : Int32) + r19))), (4, .int (f_12 (x3_12 + (0 : Int32)).toNatClampNeg)), (2, .int r19), (0, .ref aM), (1, .int y1_12)]) hx hb d_M_slide_113 rfl hl (by decide) rfl (fun ls hl => ?_)
          refine lv_goto (tgt := 12) hx hb d_M_slide_114 (by decide) ?_
          exact ih (x3_12 + ((4 : Int32) + r19)) f_12 us_12 P_12 (upd S_12 sc_12.toNatClampNeg (f_12 (x3_12 + (0 : Int32)).toNatClampNeg)) (sc_12 + (1 : Int32)) H locs ls hP hD hS (lv_sub hl [3, 4, 0] rfl) h
        · have h := h.2 c_39
          refine lv_aload_n hx hb d_M_slide_42 rfl (lv_at hl 2 rfl) ?_
          refine va_get (D := (dC, dI)) (ci := 1) (v := .ref aW) (C := R_M) (T := T_M) (N := 11) hx hb hw in_M hown hK hP 2 rfl rfl 0 (by decide) (hw _ wd_63) (fun _ h9 => h9) rfl d_M_slide_43 ?_
          refine lv_iload_n hx hb d_M_slide_46 rfl (lv_at hl 4 rfl) ?_
          refine lv_aload_n hx hb d_M_slide_47 rfl (lv_at hl 2 rfl) ?_
          refine va_get (D := (dC, dI)) (ci := 1) (v := .ref aW) (C := R_M) (T := T_M) (N := 11) hx hb hw in_M hown hK hP 2 rfl rfl 0 (by decide) (hw _ wd_63) (fun _ h9 => h9) rfl d_M_slide_48 ?_
          refine lv_aload_n hx hb d_M_slide_51 rfl (lv_at hl 2 rfl) ?_
          refine va_get (D := (dC, dI)) (ci := 1) (v := .int us_12) (C := R_M) (T := T_M) (N := 11) hx hb hw in_M hown hK hP 2 rfl rfl 1 (by decide) (hw _ wd_64) (fun _ h9 => h9) rfl d_M_slide_52 ?_
          refine lv_iconst (v := (4 : Int32)) hx hb d_M_slide_55 (by decide) ?_
          refine lv_iload_n hx hb d_M_slide_56 rfl (lv_at hl 1 rfl) ?_
          refine lv_iadd hx hb d_M_slide_57 ?_
          obtain ⟨k1, k2, k3, k4, k5, h⟩ := h
          refine va_copyi hx hb (hml.trans hl.1.symm) hown (hw _ wd_156) (hw _ wd_158) (hw _ wd_157) (hw _ wd_41) hK hP hD hS 3 3 0 0 rfl rfl rfl rfl rfl k1 k2 k3 k4 k5 (fun _ _ => rfl) (Nat.le_of_ble_eq_true rfl) (Nat.le_of_ble_eq_true rfl) d_M_slide_58 (fun H locs hP hD hS => ?_)
          have hP : va_P (dC, dI) vwCl (TSw cA a0 aR aM aW aP aS aC aO nW nE R (va_cpy f_12 f_12 x3_12.toNatClampNeg us_12.toNatClampNeg ((4 : Int32) + r19).toNatClampNeg) us_12 P_12 S_12 sc_12 li rc rn ro rd st) H := hP
          have hD : va_D A (TSw cA a0 aR aM aW aP aS aC aO nW nE R (va_cpy f_12 f_12 x3_12.toNatClampNeg us_12.toNatClampNeg ((4 : Int32) + r19).toNatClampNeg) us_12 P_12 S_12 sc_12 li rc rn ro rd st) := hD
          refine lv_aload_n hx hb d_M_slide_61 rfl (lv_at hl 2 rfl) ?_
          refine va_get (D := (dC, dI)) (ci := 1) (v := .ref aP) (C := R_M) (T := T_M) (N := 11) hx hb hw in_M hown hK hP 2 rfl rfl 2 (by decide) (hw _ wd_65) (fun _ h9 => h9) rfl d_M_slide_62 ?_
          refine lv_iload hx hb d_M_slide_65 (lv_at hl 0 rfl) ?_
          refine lv_aload_n hx hb d_M_slide_67 rfl (lv_at hl 2 rfl) ?_
          refine va_get (D := (dC, dI)) (ci := 1) (v := .int us_12) (C := R_M) (T := T_M) (N := 11) hx hb hw in_M hown hK hP 2 rfl rfl 1 (by decide) (hw _ wd_64) (fun _ h9 => h9) rfl d_M_slide_68 ?_
          refine va_iast hx hb hK hP hD hS 4 0 rfl rfl h.1 d_M_slide_71 (fun H locs hP hD hS => ?_)
          have hP : va_P (dC, dI) vwCl (TSw cA a0 aR aM aW aP aS aC aO nW nE R (va_cpy f_12 f_12 x3_12.toNatClampNeg us_12.toNatClampNeg ((4 : Int32) + r19).toNatClampNeg) us_12 (upd P_12 (f_12 (x3_12 + (0 : Int32)).toNatClampNeg).toNatClampNeg us_12) S_12 sc_12 li rc rn ro rd st) H := hP
          have hD : va_D A (TSw cA a0 aR aM aW aP aS aC aO nW nE R (va_cpy f_12 f_12 x3_12.toNatClampNeg us_12.toNatClampNeg ((4 : Int32) + r19).toNatClampNeg) us_12 (upd P_12 (f_12 (x3_12 + (0 : Int32)).toNatClampNeg).toNatClampNeg us_12) S_12 sc_12 li rc rn ro rd st) := hD
          have h := h.2
          refine lv_aload_n hx hb d_M_slide_72 rfl (lv_at hl 2 rfl) ?_
          refine lv_dup hx hb d_M_slide_73 rfl ?_
          refine va_get (D := (dC, dI)) (ci := 1) (v := .int us_12) (C := R_M) (T := T_M) (N := 11) hx hb hw in_M hown hK hP 2 rfl rfl 1 (by decide) (hw _ wd_64) (fun _ h9 => h9) rfl d_M_slide_74 ?_
          refine lv_iconst (v := (4 : Int32)) hx hb d_M_slide_77 (by decide) ?_
          refine lv_iload_n hx hb d_M_slide_78 rfl (lv_at hl 1 rfl) ?_
          refine lv_iadd hx hb d_M_slide_79 ?_
          refine lv_iadd hx hb d_M_slide_80 ?_
          refine va_put (D := (dC, dI)) (ci := 1) (v := .int (us_12 + ((4 : Int32) + r19))) (ty := .int) (C := R_M) (T := T_M) (N := 11) hx hb hw in_M ty_M ty_M_ok nm_M hown hK hP hD hS 2 rfl rfl 1 (by decide) (hw _ wd_64) (fun _ h9 => h9) rfl (by decide +kernel) rfl rfl (Nat.le_of_ble_eq_true rfl) d_M_slide_81 (fun H locs hP hD hS => ?_)
          have hP : va_P (dC, dI) vwCl (TSw cA a0 aR aM aW aP aS aC aO nW nE R (va_cpy f_12 f_12 x3_12.toNatClampNeg us_12.toNatClampNeg ((4 : Int32) + r19).toNatClampNeg) (us_12 + ((4 : Int32) + r19)) (upd P_12 (f_12 (x3_12 + (0 : Int32)).toNatClampNeg).toNatClampNeg us_12) S_12 sc_12 li rc rn ro rd st) H := hP
          have hD : va_D A (TSw cA a0 aR aM aW aP aS aC aO nW nE R (va_cpy f_12 f_12 x3_12.toNatClampNeg us_12.toNatClampNeg ((4 : Int32) + r19).toNatClampNeg) (us_12 + ((4 : Int32) + r19)) (upd P_12 (f_12 (x3_12 + (0 : Int32)).toNatClampNeg).toNatClampNeg us_12) S_12 sc_12 li rc rn ro rd st) := hD
          refine lv_goto (tgt := 108) hx hb d_M_slide_84 (by decide) ?_
          refine lv_iload_n hx hb d_M_slide_108 rfl (lv_at hl 4 rfl) ?_
          refine lv_iconst (v := (4 : Int32)) hx hb d_M_slide_109 (by decide) ?_
          refine lv_iload_n hx hb d_M_slide_110 rfl (lv_at hl 1 rfl) ?_
          refine lv_iadd hx hb d_M_slide_111 ?_
          refine lv_iadd hx hb d_M_slide_112 ?_
          refine lv_istore_n (lv' := [(3, .int (x3_12 + ((4 : Int32) + r19))), (4, .int (f_12 (x3_12 + (0 : Int32)).toNatClampNeg)), (2, .int r19), (0, .ref aM), (1, .int y1_12)]) hx hb d_M_slide_113 rfl hl (by decide) rfl (fun ls hl => ?_)
          refine lv_goto (tgt := 12) hx hb d_M_slide_114 (by decide) ?_
          exact ih (x3_12 + ((4 : Int32) + r19)) (va_cpy f_12 f_12 x3_12.toNatClampNeg us_12.toNatClampNeg ((4 : Int32) + r19).toNatClampNeg) (us_12 + ((4 : Int32) + r19)) (upd P_12 (f_12 (x3_12 + (0 : Int32)).toNatClampNeg).toNatClampNeg us_12) S_12 sc_12 H locs ls hP hD hS (lv_sub hl [3, 4, 0] rfl) h
  unfold wqM_slide at h
  refine lv_aload_n hx hb d_M_slide_0 rfl (lv_at hl 0 rfl) ?_
  refine va_get (D := (dC, dI)) (ci := 1) (v := .int us) (C := R_M) (T := T_M) (N := 11) hx hb hw in_M hown hK hP 2 rfl rfl 1 (by decide) (hw _ wd_64) (fun _ h9 => h9) rfl d_M_slide_1 ?_
  refine lv_istore_n (lv' := [(1, .int us), (0, .ref aM)]) hx hb d_M_slide_4 rfl hl (by decide) rfl (fun ls hl => ?_)
  refine lv_aload_n hx hb d_M_slide_5 rfl (lv_at hl 1 rfl) ?_
  refine lv_iconst (v := (0 : Int32)) hx hb d_M_slide_6 (by decide) ?_
  refine va_put (D := (dC, dI)) (ci := 1) (v := .int (0 : Int32)) (ty := .int) (C := R_M) (T := T_M) (N := 11) hx hb hw in_M ty_M ty_M_ok nm_M hown hK hP hD hS 2 rfl rfl 1 (by decide) (hw _ wd_64) (fun _ h9 => h9) rfl (by decide +kernel) rfl rfl (Nat.le_of_ble_eq_true rfl) d_M_slide_7 (fun H locs hP hD hS => ?_)
  have hP : va_P (dC, dI) vwCl (TSw cA a0 aR aM aW aP aS aC aO nW nE R f (0 : Int32) P S sc li rc rn ro rd st) H := hP
  have hD : va_D A (TSw cA a0 aR aM aW aP aS aC aO nW nE R f (0 : Int32) P S sc li rc rn ro rd st) := hD
  refine lv_iconst (v := (0 : Int32)) hx hb d_M_slide_10 (by decide) ?_
  refine lv_istore_n (lv' := [(3, .int (0 : Int32)), (1, .int us), (0, .ref aM)]) hx hb d_M_slide_11 rfl hl (by decide) rfl (fun ls hl => ?_)
  obtain ⟨n_12, h⟩ := h
  refine lp_12 us _ (fun z3_12 fe_12 use_12 Pe_12 Se_12 sce_12 H locs ls hP hD hS hl h => ?_) n_12 (0 : Int32) f (0 : Int32) P S sc H locs ls hP hD hS (lv_sub hl [2, 1, 0] rfl) h
  exact W.vret hx hb hr9 (fun t ht hW => ⟨⟨(fe_12, use_12, Pe_12, Se_12, sce_12), rfl, h, by rw [ht]; exact hP, va_K.moved hW.alike hK, hD⟩, hS.F ht⟩) hS.2.2 d_M_slide_117
def wqM_settle_20 (nW : Nat) (nE : Nat) (R : Nat → Int32) (y3_20 : Int32) (ff_20 : Nat → Int32) (usf_20 : Int32) (Pf_20 : Nat → Int32) (Sf_20 : Nat → Int32) (scf_20 : Int32) (rdf_20 : Int32) (stf_20 : Int32) (post : (Nat → Int32) → Int32 → (Nat → Int32) → (Nat → Int32) → Int32 → (Nat → Int32) → Int32 → (Nat → Int32) → Int32 → Int32 → Prop) (kx : Int32 → (Nat → Int32) → Int32 → (Nat → Int32) → Prop) : Nat → Int32 → (Nat → Int32) → Int32 → (Nat → Int32) → Prop
  | 0, _, _, _, _ => False
  | n + 1, x4_20, rc_20, rn_20, ro_20 =>
    (y3_20 ≤ x4_20 → (kx x4_20 rc_20 rn_20 ro_20)) ∧ (¬ (y3_20 ≤ x4_20) → (vp_in x4_20 32 ∧ (wqM_reach nW nE rc_20 rn_20 ro_20 rdf_20 (R x4_20.toNatClampNeg) (fun rc_35 rn_35 ro_35 => wqM_settle_20 nW nE R y3_20 ff_20 usf_20 Pf_20 Sf_20 scf_20 rdf_20 stf_20 post kx n (x4_20 + (1 : Int32)) rc_35 rn_35 ro_35))))
def wqM_settle (nW : Nat) (nE : Nat) (R : Nat → Int32) (f : Nat → Int32) (us : Int32) (P : Nat → Int32) (S : Nat → Int32) (sc : Int32) (rc : Nat → Int32) (rn : Int32) (ro : Nat → Int32) (rd : Int32) (st : Int32) (post : (Nat → Int32) → Int32 → (Nat → Int32) → (Nat → Int32) → Int32 → (Nat → Int32) → Int32 → (Nat → Int32) → Int32 → Int32 → Prop) : Prop :=
  (st = 0 → (wqM_startRound nW nE rn rd (fun rn_9 rd_9 => ∃ k_20, wqM_settle_20 nW nE R (nI 32) f us P S sc rd_9 st post (fun z4_20 rce_20 rne_20 roe_20 => wqM_spread nW nE f P rce_20 rne_20 roe_20 rd_9 (fun rc_45 rn_45 ro_45 => wqM_slide nW nE f us P S sc ro_45 rd_9 (fun f_49 us_49 P_49 S_49 sc_49 => post f_49 us_49 P_49 S_49 sc_49 rc_45 rn_45 ro_45 rd_9 (1 : Int32)))) k_20 (0 : Int32) rc rn_9 ro))) ∧ (¬ (st = 0) → (post f us P S sc rc rn ro rd st))
set_option maxHeartbeats 4000000 in
set_option maxRecDepth 100000 in
theorem mM_settle (l : Launch) (dC : Nat → ClassId) (dI : Nat → Nat → Nat) (cA : ClassId) (a0 : Nat) (aR : Nat) (aM : Nat) (aW : Nat) (aP : Nat) (aS : Nat) (aC : Nat) (aO : Nat) (nW : Nat) (nE : Nat) (sz : Nat) (R : Nat → Int32) (f : Nat → Int32) (us : Int32) (P : Nat → Int32) (S : Nat → Int32) (sc : Int32) (li : Int32) (rc : Nat → Int32) (rn : Int32) (ro : Nat → Int32) (rd : Int32) (st : Int32) (post : (Nat → Int32) → Int32 → (Nat → Int32) → (Nat → Int32) → Int32 → (Nat → Int32) → Int32 → (Nat → Int32) → Int32 → Int32 → Prop) (h : wqM_settle nW nE R f us P S sc rc rn ro rd st post) : Met l y_M_settle ws_M_settle ({ frames := 4, cells := 0, slots := 0, locals := 87 }) (rw_P (dC, dI) vwCl (TSw cA a0 aR aM aW aP aS aC aO nW nE R f us P S sc li rc rn ro rd st) [(cA, .int)] sz [.ref aM, .ref aR]) (va_Qv (fun u : (Nat → Int32) × Int32 × (Nat → Int32) × (Nat → Int32) × Int32 × (Nat → Int32) × Int32 × (Nat → Int32) × Int32 × Int32 => post u.1 u.2.1 u.2.2.1 u.2.2.2.1 u.2.2.2.2.1 u.2.2.2.2.2.1 u.2.2.2.2.2.2.1 u.2.2.2.2.2.2.2.1 u.2.2.2.2.2.2.2.2.1 u.2.2.2.2.2.2.2.2.2) (rw_B (dC, dI) vwCl [(cA, .int)] (va_A (TSw cA a0 aR aM aW aP aS aC aO nW nE R f us P S sc li rc rn ro rd st) sz) (fun u : (Nat → Int32) × Int32 × (Nat → Int32) × (Nat → Int32) × Int32 × (Nat → Int32) × Int32 × (Nat → Int32) × Int32 × Int32 => TSw cA a0 aR aM aW aP aS aC aO nW nE R u.1 u.2.1 u.2.2.1 u.2.2.2.1 u.2.2.2.2.1 li u.2.2.2.2.2.1 u.2.2.2.2.2.2.1 u.2.2.2.2.2.2.2.1 u.2.2.2.2.2.2.2.2.1 u.2.2.2.2.2.2.2.2.2)) (va_A (TSw cA a0 aR aM aW aP aS aC aO nW nE R f us P S sc li rc rn ro rd st) sz)) 0 0 (va_A (TSw cA a0 aR aM aW aP aS aC aO nW nE R f us P S sc li rc rn ro rd st) sz) := by
  refine Met.ofW (cc := c_M_settle) (maxL := 6) (ret := none) (by decide) rfl ?_
  intro p e s m args below meth c s₁ B hml hv
  obtain ⟨rfl, hsz, hP, hK, hD0⟩ := hv
  have hx := B.exec
  have hb := B.bytes
  have hr9 := B.returns
  have hts := atoms_spec (ws := ws_M_settle) B.pre
  have hw : ∀ w ∈ WB_, w.before _ s = true := fun w h => hts w (List.mem_cons_of_mem _ h)
  have hown : s.vm.findClass R_M = some m.cls := findClass_of_methodNamed B.named
  have hlocks := B.notSynchronized
  subst hsz
  have hD := hD0.self (sz := s.heap.size)
  generalize hAe : va_A (TSw cA a0 aR aM aW aP aS aC aO nW nE R f us P S sc li rc rn ro rd st) s.heap.size = A at hD ⊢
  have hA : ∀ q : Nat, s.heap.size ≤ q → A q := fun q h => by rw [← hAe]; exact Or.inr h
  have hS : va_S A s.heap s.heap [] := va_S.rf
  have hl := lv_entry ([.ref aM, .ref aR]) (n := 6) (Nat.le_of_ble_eq_true rfl)
  rw [lg_entry_eq]
  generalize (lg_sl ([.ref aM, .ref aR]) ++ List.replicate (6 - (lg_sl ([.ref aM, .ref aR])).length) Slot.unset).toArray = ls at hl ⊢
  have hl : lv_has ls 6 [(0, .ref aM), (1, .ref aR)] := hl
  have lp_20 : ∀ (y3_20 : Int32) (ff_20 : Nat → Int32) (usf_20 : Int32) (Pf_20 : Nat → Int32) (Sf_20 : Nat → Int32) (scf_20 : Int32) (rdf_20 : Int32) (stf_20 : Int32) (kx : Int32 → (Nat → Int32) → Int32 → (Nat → Int32) → Prop), (∀ (z4_20 : Int32) (rce_20 : Nat → Int32) (rne_20 : Int32) (roe_20 : Nat → Int32) (H : Heap) (locs : List Loc) (ls : Array Slot), va_P (dC, dI) vwCl (TSw cA a0 aR aM aW aP aS aC aO nW nE R ff_20 usf_20 Pf_20 Sf_20 scf_20 li rce_20 rne_20 roe_20 rdf_20 stf_20) H → va_D A (TSw cA a0 aR aM aW aP aS aC aO nW nE R ff_20 usf_20 Pf_20 Sf_20 scf_20 li rce_20 rne_20 roe_20 rdf_20 stf_20) → va_S A s.heap H locs → lv_has ls 6 [(0, .ref aM), (1, .ref aR), (2, .ref aR), (3, .int y3_20), (4, .int z4_20)] → kx z4_20 rce_20 rne_20 roe_20 → W p l e (headSpec ws_M_settle ({ frames := 4, cells := 0, slots := 0, locals := 87 })).room s m ([.ref aM, .ref aR] : List Value).toArray below meth c H locs 0 0 (MQ below (va_Qv (fun u : (Nat → Int32) × Int32 × (Nat → Int32) × (Nat → Int32) × Int32 × (Nat → Int32) × Int32 × (Nat → Int32) × Int32 × Int32 => post u.1 u.2.1 u.2.2.1 u.2.2.2.1 u.2.2.2.2.1 u.2.2.2.2.2.1 u.2.2.2.2.2.2.1 u.2.2.2.2.2.2.2.1 u.2.2.2.2.2.2.2.2.1 u.2.2.2.2.2.2.2.2.2) (rw_B (dC, dI) vwCl [(cA, .int)] A (fun u : (Nat → Int32) × Int32 × (Nat → Int32) × (Nat → Int32) × Int32 × (Nat → Int32) × Int32 × (Nat → Int32) × Int32 × Int32 => TSw cA a0 aR aM aW aP aS aC aO nW nE R u.1 u.2.1 u.2.2.1 u.2.2.2.1 u.2.2.2.2.1 li u.2.2.2.2.2.1 u.2.2.2.2.2.2.1 u.2.2.2.2.2.2.2.1 u.2.2.2.2.2.2.2.2.1 u.2.2.2.2.2.2.2.2.2)) A) ([.ref aM, .ref aR] : List Value).toArray s 0 0 A) (F0 m 44 ls [])) → ∀ (n : Nat) (x4_20 : Int32) (rc_20 : Nat → Int32) (rn_20 : Int32) (ro_20 : Nat → Int32) (H : Heap) (locs : List Loc) (ls : Array Slot), va_P (dC, dI) vwCl (TSw cA a0 aR aM aW aP aS aC aO nW nE R ff_20 usf_20 Pf_20 Sf_20 scf_20 li rc_20 rn_20 ro_20 rdf_20 stf_20) H → va_D A (TSw cA a0 aR aM aW aP aS aC aO nW nE R ff_20 usf_20 Pf_20 Sf_20 scf_20 li rc_20 rn_20 ro_20 rdf_20 stf_20) → va_S A s.heap H locs → lv_has ls 6 [(0, .ref aM), (1, .ref aR), (2, .ref aR), (3, .int y3_20), (4, .int x4_20)] → wqM_settle_20 nW nE R y3_20 ff_20 usf_20 Pf_20 Sf_20 scf_20 rdf_20 stf_20 post kx n x4_20 rc_20 rn_20 ro_20 → W p l e (headSpec ws_M_settle ({ frames := 4, cells := 0, slots := 0, locals := 87 })).room s m ([.ref aM, .ref aR] : List Value).toArray below meth c H locs 0 0 (MQ below (va_Qv (fun u : (Nat → Int32) × Int32 × (Nat → Int32) × (Nat → Int32) × Int32 × (Nat → Int32) × Int32 × (Nat → Int32) × Int32 × Int32 => post u.1 u.2.1 u.2.2.1 u.2.2.2.1 u.2.2.2.2.1 u.2.2.2.2.2.1 u.2.2.2.2.2.2.1 u.2.2.2.2.2.2.2.1 u.2.2.2.2.2.2.2.2.1 u.2.2.2.2.2.2.2.2.2) (rw_B (dC, dI) vwCl [(cA, .int)] A (fun u : (Nat → Int32) × Int32 × (Nat → Int32) × (Nat → Int32) × Int32 × (Nat → Int32) × Int32 × (Nat → Int32) × Int32 × Int32 => TSw cA a0 aR aM aW aP aS aC aO nW nE R u.1 u.2.1 u.2.2.1 u.2.2.2.1 u.2.2.2.2.1 li u.2.2.2.2.2.1 u.2.2.2.2.2.2.1 u.2.2.2.2.2.2.2.1 u.2.2.2.2.2.2.2.2.1 u.2.2.2.2.2.2.2.2.2)) A) ([.ref aM, .ref aR] : List Value).toArray s 0 0 A) (F0 m 20 ls []) := by
    intro y3_20 ff_20 usf_20 Pf_20 Sf_20 scf_20 rdf_20 stf_20 kx K n
    induction n with
    | zero => intro x4_20 rc_20 rn_20 ro_20 H locs ls hP hD hS hl h; exact h.elim
    | succ n ih =>
      intro x4_20 rc_20 rn_20 ro_20 H locs ls hP hD hS hl h
      refine lv_iload hx hb d_M_settle_20 (lv_at hl 4 rfl) ?_
      refine lv_iload_n hx hb d_M_settle_22 rfl (lv_at hl 3 rfl) ?_
      refine lv_icmp_ge (tgt := 44) hx hb d_M_settle_23 (by decide) (fun c_23 => ?_) (fun c_23 => ?_)
      · have h := h.1 c_23
        exact K x4_20 rc_20 rn_20 ro_20 H locs ls hP hD hS (lv_sub hl [0, 1, 2, 3, 4] rfl) h
      · have h := h.2 c_23
        refine lv_aload_n hx hb d_M_settle_26 rfl (lv_at hl 2 rfl) ?_
        refine lv_iload hx hb d_M_settle_27 (lv_at hl 4 rfl) ?_
        refine va_iald hx hb hK hP 1 0 rfl rfl h.1 d_M_settle_29 ?_
        have h := h.2
        refine lv_istore (lv' := [(5, .int (R x4_20.toNatClampNeg)), (0, .ref aM), (1, .ref aR), (2, .ref aR), (3, .int y3_20), (4, .int x4_20)]) hx hb d_M_settle_30 hl (by decide) rfl (fun ls hl => ?_)
        refine lv_aload_n hx hb d_M_settle_32 rfl (lv_at hl 1 rfl) ?_
        refine lv_iload hx hb d_M_settle_33 (lv_at hl 0 rfl) ?_
        have hFc := va_free (wc := TSw cA a0 aR aM aW aP aS aC aO nW nE R ff_20 usf_20 Pf_20 Sf_20 scf_20 li rc_20 rn_20 ro_20 rdf_20 stf_20) hD hS hA [0, 1, 2, 3, 4, 5, 6, 7] rfl
        refine va_callv (va_runV (As := [.int (R x4_20.toNatClampNeg)]) (rest := []) ⟨hx, hb, hml, hown, hw⟩ (mM_reach l dC dI cA a0 aR aM aW aP aS aC aO nW nE H.size R ff_20 usf_20 Pf_20 Sf_20 scf_20 li rc_20 rn_20 ro_20 rdf_20 stf_20 (R x4_20.toNatClampNeg) _ h) (cwV 1 hw g_M_102 rfl rfl rfl (by decide +kernel) ⟨Nat.le_of_ble_eq_true rfl, Nat.le_of_ble_eq_true rfl⟩) (rw_PV (ci := 1) (q0 := 2) hK hP hD rfl rfl) rfl rfl hl.1 rfl (lv_room (Nat.le_of_ble_eq_true rfl)) d_M_settle_35 ⟨Nat.le_of_ble_eq_true rfl, Nat.le_of_ble_eq_true rfl⟩) hS (fun q _ h => hFc q h) hFc (fun u t H locs ht hvm h hB hz1 hk1 hS => ?_)
        obtain ⟨rc_35, rn_35, ro_35⟩ := u
        obtain ⟨hP, hK1, hD1⟩ := hB
        rw [ht] at hP
        have hD := hD1.weaken (fun _ _ _ q => hFc _ q)
        clear hFc hD1 hK1
        try dsimp only at h
        have hP : va_P (dC, dI) vwCl (TSw cA a0 aR aM aW aP aS aC aO nW nE R ff_20 usf_20 Pf_20 Sf_20 scf_20 li rc_35 rn_35 ro_35 rdf_20 stf_20) H := hP
        have hD : va_D A (TSw cA a0 aR aM aW aP aS aC aO nW nE R ff_20 usf_20 Pf_20 Sf_20 scf_20 li rc_35 rn_35 ro_35 rdf_20 stf_20) := hD
        refine lv_iinc (v := x4_20 + (1 : Int32)) (lv' := [(4, .int (x4_20 + (1 : Int32))), (5, .int (R x4_20.toNatClampNeg)), (0, .ref aM), (1, .ref aR), (2, .ref aR), (3, .int y3_20)]) hx hb d_M_settle_38 hl (k := 5) rfl rfl (by decide) rfl (fun ls hl => ?_)
        refine lv_goto (tgt := 20) hx hb d_M_settle_41 (by decide) ?_
        exact ih (x4_20 + (1 : Int32)) rc_35 rn_35 ro_35 H locs ls hP hD hS (lv_sub hl [2, 3, 4, 5, 0] rfl) h
  unfold wqM_settle at h
  refine lv_aload_n hx hb d_M_settle_0 rfl (lv_at hl 0 rfl) ?_
  refine va_get (D := (dC, dI)) (ci := 1) (v := .int st) (C := R_M) (T := T_M) (N := 11) hx hb hw in_M hown hK hP 2 rfl rfl 10 (by decide) (hw _ wd_73) (fun _ h9 => h9) rfl d_M_settle_1 ?_
  refine lv_if_eq (tgt := 8) hx hb d_M_settle_4 (by decide) (fun c_4 => ?_) (fun c_4 => ?_)
  · have h := h.1 c_4
    refine lv_aload_n hx hb d_M_settle_8 rfl (lv_at hl 0 rfl) ?_
    have hFc := va_free (wc := TSw cA a0 aR aM aW aP aS aC aO nW nE R f us P S sc li rc rn ro rd st) hD hS hA [0, 1, 2, 3, 4, 5, 6, 7] rfl
    refine va_callv (va_runV (As := []) (rest := []) ⟨hx, hb, hml, hown, hw⟩ (mM_startRound l dC dI cA a0 aR aM aW aP aS aC aO nW nE s.heap.size R f us P S sc li rc rn ro rd st _ h) (cwV 0 hw g_M_99 rfl rfl rfl (by decide +kernel) ⟨Nat.le_of_ble_eq_true rfl, Nat.le_of_ble_eq_true rfl⟩) (rw_PV (ci := 1) (q0 := 2) hK hP hD rfl rfl) rfl rfl hl.1 rfl (lv_room (Nat.le_of_ble_eq_true rfl)) d_M_settle_9 ⟨Nat.le_of_ble_eq_true rfl, Nat.le_of_ble_eq_true rfl⟩) hS (fun q _ h => hFc q h) hFc (fun u t H locs ht hvm h hB hz1 hk1 hS => ?_)
    obtain ⟨rn_9, rd_9⟩ := u
    obtain ⟨hP, hK1, hD1⟩ := hB
    rw [ht] at hP
    have hD := hD1.weaken (fun _ _ _ q => hFc _ q)
    clear hFc hD1 hK1
    try dsimp only at h
    have hP : va_P (dC, dI) vwCl (TSw cA a0 aR aM aW aP aS aC aO nW nE R f us P S sc li rc rn_9 ro rd_9 st) H := hP
    have hD : va_D A (TSw cA a0 aR aM aW aP aS aC aO nW nE R f us P S sc li rc rn_9 ro rd_9 st) := hD
    refine lv_aload_n hx hb d_M_settle_12 rfl (lv_at hl 1 rfl) ?_
    refine lv_astore_n (lv' := [(2, .ref aR), (0, .ref aM), (1, .ref aR)]) hx hb d_M_settle_13 rfl hl (by decide) rfl (fun ls hl => ?_)
    refine lv_aload_n hx hb d_M_settle_14 rfl (lv_at hl 0 rfl) ?_
    refine va_alen (v := nI 32) hx hb hK hP 1 0 rfl rfl rfl d_M_settle_15 ?_
    refine lv_istore_n (lv' := [(3, .int (nI 32)), (2, .ref aR), (0, .ref aM), (1, .ref aR)]) hx hb d_M_settle_16 rfl hl (by decide) rfl (fun ls hl => ?_)
    refine lv_iconst (v := (0 : Int32)) hx hb d_M_settle_17 (by decide) ?_
    refine lv_istore (lv' := [(4, .int (0 : Int32)), (3, .int (nI 32)), (2, .ref aR), (0, .ref aM), (1, .ref aR)]) hx hb d_M_settle_18 hl (by decide) rfl (fun ls hl => ?_)
    obtain ⟨n_20, h⟩ := h
    refine lp_20 (nI 32) f us P S sc rd_9 st _ (fun z4_20 rce_20 rne_20 roe_20 H locs ls hP hD hS hl h => ?_) n_20 (0 : Int32) rc rn_9 ro H locs ls hP hD hS (lv_sub hl [3, 4, 2, 1, 0] rfl) h
    refine lv_aload_n hx hb d_M_settle_44 rfl (lv_at hl 0 rfl) ?_
    have hFc := va_free (wc := TSw cA a0 aR aM aW aP aS aC aO nW nE R f us P S sc li rce_20 rne_20 roe_20 rd_9 st) hD hS hA [0, 1, 2, 3, 4, 5, 6, 7] rfl
    refine va_callv (va_runV (As := []) (rest := []) ⟨hx, hb, hml, hown, hw⟩ (mM_spread l dC dI cA a0 aR aM aW aP aS aC aO nW nE H.size R f us P S sc li rce_20 rne_20 roe_20 rd_9 st _ h) (cwV 0 hw g_M_105 rfl rfl rfl (by decide +kernel) ⟨Nat.le_of_ble_eq_true rfl, Nat.le_of_ble_eq_true rfl⟩) (rw_PV (ci := 1) (q0 := 2) hK hP hD rfl rfl) rfl rfl hl.1 rfl (lv_room (Nat.le_of_ble_eq_true rfl)) d_M_settle_45 ⟨Nat.le_of_ble_eq_true rfl, Nat.le_of_ble_eq_true rfl⟩) hS (fun q _ h => hFc q h) hFc (fun u t H locs ht hvm h hB hz1 hk1 hS => ?_)
    obtain ⟨rc_45, rn_45, ro_45⟩ := u
    obtain ⟨hP, hK1, hD1⟩ := hB
    rw [ht] at hP
    have hD := hD1.weaken (fun _ _ _ q => hFc _ q)
    clear hFc hD1 hK1
    try dsimp only at h
    have hP : va_P (dC, dI) vwCl (TSw cA a0 aR aM aW aP aS aC aO nW nE R f us P S sc li rc_45 rn_45 ro_45 rd_9 st) H := hP
    have hD : va_D A (TSw cA a0 aR aM aW aP aS aC aO nW nE R f us P S sc li rc_45 rn_45 ro_45 rd_9 st) := hD
    refine lv_aload_n hx hb d_M_settle_48 rfl (lv_at hl 0 rfl) ?_
    have hFc := va_free (wc := TSw cA a0 aR aM aW aP aS aC aO nW nE R f us P S sc li rc_45 rn_45 ro_45 rd_9 st) hD hS hA [0, 1, 2, 3, 4, 5, 6, 7] rfl
    refine va_callv (va_runV (As := []) (rest := []) ⟨hx, hb, hml, hown, hw⟩ (mM_slide l dC dI cA a0 aR aM aW aP aS aC aO nW nE H.size R f us P S sc li rc_45 rn_45 ro_45 rd_9 st _ h) (cwV 0 hw g_M_108 rfl rfl rfl (by decide +kernel) ⟨Nat.le_of_ble_eq_true rfl, Nat.le_of_ble_eq_true rfl⟩) (rw_PV (ci := 1) (q0 := 2) hK hP hD rfl rfl) rfl rfl hl.1 rfl (lv_room (Nat.le_of_ble_eq_true rfl)) d_M_settle_49 ⟨Nat.le_of_ble_eq_true rfl, Nat.le_of_ble_eq_true rfl⟩) hS (fun q _ h => hFc q h) hFc (fun u t H locs ht hvm h hB hz1 hk1 hS => ?_)
    obtain ⟨f_49, us_49, P_49, S_49, sc_49⟩ := u
    obtain ⟨hP, hK1, hD1⟩ := hB
    rw [ht] at hP
    have hD := hD1.weaken (fun _ _ _ q => hFc _ q)
    clear hFc hD1 hK1
    try dsimp only at h
    have hP : va_P (dC, dI) vwCl (TSw cA a0 aR aM aW aP aS aC aO nW nE R f_49 us_49 P_49 S_49 sc_49 li rc_45 rn_45 ro_45 rd_9 st) H := hP
    have hD : va_D A (TSw cA a0 aR aM aW aP aS aC aO nW nE R f_49 us_49 P_49 S_49 sc_49 li rc_45 rn_45 ro_45 rd_9 st) := hD
    refine lv_aload_n hx hb d_M_settle_52 rfl (lv_at hl 0 rfl) ?_
    refine lv_iconst (v := (1 : Int32)) hx hb d_M_settle_53 (by decide) ?_
    refine va_put (D := (dC, dI)) (ci := 1) (v := .int (1 : Int32)) (ty := .boolean) (C := R_M) (T := T_M) (N := 11) hx hb hw in_M ty_M ty_M_ok nm_M hown hK hP hD hS 2 rfl rfl 10 (by decide) (hw _ wd_73) (fun _ h9 => h9) rfl (by decide +kernel) rfl rfl (Nat.le_of_ble_eq_true rfl) d_M_settle_54 (fun H locs hP hD hS => ?_)
    have hP : va_P (dC, dI) vwCl (TSw cA a0 aR aM aW aP aS aC aO nW nE R f_49 us_49 P_49 S_49 sc_49 li rc_45 rn_45 ro_45 rd_9 (1 : Int32)) H := hP
    have hD : va_D A (TSw cA a0 aR aM aW aP aS aC aO nW nE R f_49 us_49 P_49 S_49 sc_49 li rc_45 rn_45 ro_45 rd_9 (1 : Int32)) := hD
    exact W.vret hx hb hr9 (fun t ht hW => ⟨⟨(f_49, us_49, P_49, S_49, sc_49, rc_45, rn_45, ro_45, rd_9, (1 : Int32)), rfl, h, by rw [ht]; exact hP, va_K.moved hW.alike hK, hD⟩, hS.F ht⟩) hS.2.2 d_M_settle_57
  · have h := h.2 c_4
    exact W.vret hx hb hr9 (fun t ht hW => ⟨⟨(f, us, P, S, sc, rc, rn, ro, rd, st), rfl, h, by rw [ht]; exact hP, va_K.moved hW.alike hK, hD⟩, hS.F ht⟩) hS.2.2 d_M_settle_7
def wqM_leadsTo (nW : Nat) (nE : Nat) (f : Nat → Int32) (P : Nat → Int32) (rc : Nat → Int32) (rn : Int32) (ro : Nat → Int32) (rd : Int32) (a1 : Int32) (a2 : Int32) (post : Int32 → (Nat → Int32) → Int32 → (Nat → Int32) → Int32 → Prop) : Prop :=
  wqM_startRound nW nE rn rd (fun rn_1 rd_1 => wqM_reach nW nE rc rn_1 ro rd_1 a1 (fun rc_6 rn_6 ro_6 => wqM_spread nW nE f P rc_6 rn_6 ro_6 rd_1 (fun rc_10 rn_10 ro_10 => wqV_toEntry a2 (fun r15 => wqM_isReached nW nE ro_10 rd_1 r15 (fun r18 => narrow .boolean (.int r18) = .int r18 ∧ post r18 rc_10 rn_10 ro_10 rd_1)))))
set_option maxHeartbeats 4000000 in
set_option maxRecDepth 100000 in
theorem mM_leadsTo (l : Launch) (dC : Nat → ClassId) (dI : Nat → Nat → Nat) (cA : ClassId) (a0 : Nat) (aR : Nat) (aM : Nat) (aW : Nat) (aP : Nat) (aS : Nat) (aC : Nat) (aO : Nat) (nW : Nat) (nE : Nat) (sz : Nat) (R : Nat → Int32) (f : Nat → Int32) (us : Int32) (P : Nat → Int32) (S : Nat → Int32) (sc : Int32) (li : Int32) (rc : Nat → Int32) (rn : Int32) (ro : Nat → Int32) (rd : Int32) (st : Int32) (a1 : Int32) (a2 : Int32) (post : Int32 → (Nat → Int32) → Int32 → (Nat → Int32) → Int32 → Prop) (h : wqM_leadsTo nW nE f P rc rn ro rd a1 a2 post) : Met l y_M_leadsTo ws_M_leadsTo ({ frames := 4, cells := 0, slots := 0, locals := 87 }) (rw_P (dC, dI) vwCl (TSw cA a0 aR aM aW aP aS aC aO nW nE R f us P S sc li rc rn ro rd st) [(cA, .int)] sz [.ref aM, .int a1, .int a2]) (va_Qi (fun (r : Int32) (u : (Nat → Int32) × Int32 × (Nat → Int32) × Int32) => post r u.1 u.2.1 u.2.2.1 u.2.2.2) (rw_B (dC, dI) vwCl [(cA, .int)] (va_A (TSw cA a0 aR aM aW aP aS aC aO nW nE R f us P S sc li rc rn ro rd st) sz) (fun u : (Nat → Int32) × Int32 × (Nat → Int32) × Int32 => TSw cA a0 aR aM aW aP aS aC aO nW nE R f us P S sc li u.1 u.2.1 u.2.2.1 u.2.2.2 st)) (va_A (TSw cA a0 aR aM aW aP aS aC aO nW nE R f us P S sc li rc rn ro rd st) sz)) 0 0 (va_A (TSw cA a0 aR aM aW aP aS aC aO nW nE R f us P S sc li rc rn ro rd st) sz) := by
  refine Met.ofW (cc := c_M_leadsTo) (maxL := 3) (ret := (some .boolean)) (by decide) rfl ?_
  intro p e s m args below meth c s₁ B hml hv
  obtain ⟨rfl, hsz, hP, hK, hD0⟩ := hv
  have hx := B.exec
  have hb := B.bytes
  have hr9 := B.returns
  have hts := atoms_spec (ws := ws_M_leadsTo) B.pre
  have hw : ∀ w ∈ WB_, w.before _ s = true := fun w h => hts w (List.mem_cons_of_mem _ h)
  have hown : s.vm.findClass R_M = some m.cls := findClass_of_methodNamed B.named
  have hlocks := B.notSynchronized
  subst hsz
  have hD := hD0.self (sz := s.heap.size)
  generalize hAe : va_A (TSw cA a0 aR aM aW aP aS aC aO nW nE R f us P S sc li rc rn ro rd st) s.heap.size = A at hD ⊢
  have hA : ∀ q : Nat, s.heap.size ≤ q → A q := fun q h => by rw [← hAe]; exact Or.inr h
  have hS : va_S A s.heap s.heap [] := va_S.rf
  have hl := lv_entry ([.ref aM, .int a1, .int a2]) (n := 3) (Nat.le_of_ble_eq_true rfl)
  rw [lg_entry_eq]
  generalize (lg_sl ([.ref aM, .int a1, .int a2]) ++ List.replicate (3 - (lg_sl ([.ref aM, .int a1, .int a2])).length) Slot.unset).toArray = ls at hl ⊢
  have hl : lv_has ls 3 [(0, .ref aM), (1, .int a1), (2, .int a2)] := hl
  unfold wqM_leadsTo at h
  refine lv_aload_n hx hb d_M_leadsTo_0 rfl (lv_at hl 0 rfl) ?_
  have hFc := va_free (wc := TSw cA a0 aR aM aW aP aS aC aO nW nE R f us P S sc li rc rn ro rd st) hD hS hA [0, 1, 2, 3, 4, 5, 6, 7] rfl
  refine va_callv (va_runV (As := []) (rest := []) ⟨hx, hb, hml, hown, hw⟩ (mM_startRound l dC dI cA a0 aR aM aW aP aS aC aO nW nE s.heap.size R f us P S sc li rc rn ro rd st _ h) (cwV 0 hw g_M_99 rfl rfl rfl (by decide +kernel) ⟨Nat.le_of_ble_eq_true rfl, Nat.le_of_ble_eq_true rfl⟩) (rw_PV (ci := 1) (q0 := 2) hK hP hD rfl rfl) rfl rfl hl.1 rfl (lv_room (Nat.le_of_ble_eq_true rfl)) d_M_leadsTo_1 ⟨Nat.le_of_ble_eq_true rfl, Nat.le_of_ble_eq_true rfl⟩) hS (fun q _ h => hFc q h) hFc (fun u t H locs ht hvm h hB hz1 hk1 hS => ?_)
  obtain ⟨rn_1, rd_1⟩ := u
  obtain ⟨hP, hK1, hD1⟩ := hB
  rw [ht] at hP
  have hD := hD1.weaken (fun _ _ _ q => hFc _ q)
  clear hFc hD1 hK1
  try dsimp only at h
  have hP : va_P (dC, dI) vwCl (TSw cA a0 aR aM aW aP aS aC aO nW nE R f us P S sc li rc rn_1 ro rd_1 st) H := hP
  have hD : va_D A (TSw cA a0 aR aM aW aP aS aC aO nW nE R f us P S sc li rc rn_1 ro rd_1 st) := hD
  refine lv_aload_n hx hb d_M_leadsTo_4 rfl (lv_at hl 0 rfl) ?_
  refine lv_iload_n hx hb d_M_leadsTo_5 rfl (lv_at hl 1 rfl) ?_
  have hFc := va_free (wc := TSw cA a0 aR aM aW aP aS aC aO nW nE R f us P S sc li rc rn_1 ro rd_1 st) hD hS hA [0, 1, 2, 3, 4, 5, 6, 7] rfl
  refine va_callv (va_runV (As := [.int a1]) (rest := []) ⟨hx, hb, hml, hown, hw⟩ (mM_reach l dC dI cA a0 aR aM aW aP aS aC aO nW nE H.size R f us P S sc li rc rn_1 ro rd_1 st a1 _ h) (cwV 1 hw g_M_102 rfl rfl rfl (by decide +kernel) ⟨Nat.le_of_ble_eq_true rfl, Nat.le_of_ble_eq_true rfl⟩) (rw_PV (ci := 1) (q0 := 2) hK hP hD rfl rfl) rfl rfl hl.1 rfl (lv_room (Nat.le_of_ble_eq_true rfl)) d_M_leadsTo_6 ⟨Nat.le_of_ble_eq_true rfl, Nat.le_of_ble_eq_true rfl⟩) hS (fun q _ h => hFc q h) hFc (fun u t H locs ht hvm h hB hz1 hk1 hS => ?_)
  obtain ⟨rc_6, rn_6, ro_6⟩ := u
  obtain ⟨hP, hK1, hD1⟩ := hB
  rw [ht] at hP
  have hD := hD1.weaken (fun _ _ _ q => hFc _ q)
  clear hFc hD1 hK1
  try dsimp only at h
  have hP : va_P (dC, dI) vwCl (TSw cA a0 aR aM aW aP aS aC aO nW nE R f us P S sc li rc_6 rn_6 ro_6 rd_1 st) H := hP
  have hD : va_D A (TSw cA a0 aR aM aW aP aS aC aO nW nE R f us P S sc li rc_6 rn_6 ro_6 rd_1 st) := hD
  refine lv_aload_n hx hb d_M_leadsTo_9 rfl (lv_at hl 0 rfl) ?_
  have hFc := va_free (wc := TSw cA a0 aR aM aW aP aS aC aO nW nE R f us P S sc li rc_6 rn_6 ro_6 rd_1 st) hD hS hA [0, 1, 2, 3, 4, 5, 6, 7] rfl
  refine va_callv (va_runV (As := []) (rest := []) ⟨hx, hb, hml, hown, hw⟩ (mM_spread l dC dI cA a0 aR aM aW aP aS aC aO nW nE H.size R f us P S sc li rc_6 rn_6 ro_6 rd_1 st _ h) (cwV 0 hw g_M_105 rfl rfl rfl (by decide +kernel) ⟨Nat.le_of_ble_eq_true rfl, Nat.le_of_ble_eq_true rfl⟩) (rw_PV (ci := 1) (q0 := 2) hK hP hD rfl rfl) rfl rfl hl.1 rfl (lv_room (Nat.le_of_ble_eq_true rfl)) d_M_leadsTo_10 ⟨Nat.le_of_ble_eq_true rfl, Nat.le_of_ble_eq_true rfl⟩) hS (fun q _ h => hFc q h) hFc (fun u t H locs ht hvm h hB hz1 hk1 hS => ?_)
  obtain ⟨rc_10, rn_10, ro_10⟩ := u
  obtain ⟨hP, hK1, hD1⟩ := hB
  rw [ht] at hP
  have hD := hD1.weaken (fun _ _ _ q => hFc _ q)
  clear hFc hD1 hK1
  try dsimp only at h
  have hP : va_P (dC, dI) vwCl (TSw cA a0 aR aM aW aP aS aC aO nW nE R f us P S sc li rc_10 rn_10 ro_10 rd_1 st) H := hP
  have hD : va_D A (TSw cA a0 aR aM aW aP aS aC aO nW nE R f us P S sc li rc_10 rn_10 ro_10 rd_1 st) := hD
  refine lv_aload_n hx hb d_M_leadsTo_13 rfl (lv_at hl 0 rfl) ?_
  refine lv_iload_n hx hb d_M_leadsTo_14 rfl (lv_at hl 2 rfl) ?_
  refine rq_calli (W.runS (As := [.int a2]) (rest := [.ref aM]) ⟨hx, hb, hml, hown, hw⟩ (mV_toEntry l a2 _ h) (va_cwS 1 hw g_M_37 rfl rfl rfl (by decide +kernel) ⟨Nat.le_of_ble_eq_true rfl, Nat.le_of_ble_eq_true rfl⟩) preEq rfl rfl hl.1 rfl (lv_room (Nat.le_of_ble_eq_true rfl)) d_M_leadsTo_15 ⟨Nat.le_of_ble_eq_true rfl, Nat.le_of_ble_eq_true rfl⟩) (fun r15 h => ?_)
  refine rq_calli (W.runV (As := [.int r15]) (rest := []) ⟨hx, hb, hml, hown, hw⟩ (mM_isReached l dC dI cA a0 aR aM aW aP aS aC aO nW nE R f us P S sc li rc_10 rn_10 ro_10 rd_1 st r15 _ h) (cwV 1 hw g_M_111 rfl rfl rfl (by decide +kernel) ⟨Nat.le_of_ble_eq_true rfl, Nat.le_of_ble_eq_true rfl⟩) (ro_PV (ci := 1) (q0 := 2) hK hP rfl rfl) rfl rfl hl.1 rfl (lv_room (Nat.le_of_ble_eq_true rfl)) d_M_leadsTo_18 ⟨Nat.le_of_ble_eq_true rfl, Nat.le_of_ble_eq_true rfl⟩) (fun r18 h => ?_)
  exact W.zret (v := r18) (ty := .boolean) hx hb hr9 h.1 (fun t ht hW => ⟨⟨_, (rc_10, rn_10, ro_10, rd_1), rfl, h.2, by rw [ht]; exact hP, va_K.moved hW.alike hK, hD⟩, hS.F ht⟩) hS.2.2 d_M_leadsTo_21
def wqM_build_140 (nW : Nat) (nE : Nat) (R : Nat → Int32) (y1_140 : Int32) (y2_140 : Int32) (y4_140 : Int32) (y5_140 : Int32) (y6_140 : Int32) (usf_140 : Int32) (Pf_140 : Nat → Int32) (Sf_140 : Nat → Int32) (scf_140 : Int32) (lif_140 : Int32) (rcf_140 : Nat → Int32) (rnf_140 : Int32) (rof_140 : Nat → Int32) (rdf_140 : Int32) (stf_140 : Int32) (post : Int32 → (Nat → Int32) → Int32 → (Nat → Int32) → (Nat → Int32) → Int32 → Int32 → (Nat → Int32) → Int32 → (Nat → Int32) → Int32 → Int32 → Prop) (kx : Int32 → (Nat → Int32) → Prop) : Nat → Int32 → (Nat → Int32) → Prop
  | 0, _, _ => False
  | n + 1, x7_140, f_140 =>
    (usf_140 ≤ x7_140 → (kx x7_140 f_140)) ∧ (¬ (usf_140 ≤ x7_140) → (vp_in x7_140 nW ∧ (wqM_build_140 nW nE R y1_140 y2_140 y4_140 y5_140 y6_140 usf_140 Pf_140 Sf_140 scf_140 lif_140 rcf_140 rnf_140 rof_140 rdf_140 stf_140 post kx n (x7_140 + (1 : Int32)) (upd f_140 x7_140.toNatClampNeg (0 : Int32)))))
def wqM_build_22 (nW : Nat) (nE : Nat) (R : Nat → Int32) (y1_22 : Int32) (y2_22 : Int32) (y4_22 : Int32) (f_22 : Nat → Int32) (us_22 : Int32) (P_22 : Nat → Int32) (S_22 : Nat → Int32) (sc_22 : Int32) (li_22 : Int32) (rc_22 : Nat → Int32) (rn_22 : Int32) (ro_22 : Nat → Int32) (rd_22 : Int32) (st_22 : Int32) (post : Int32 → (Nat → Int32) → Int32 → (Nat → Int32) → (Nat → Int32) → Int32 → Int32 → (Nat → Int32) → Int32 → (Nat → Int32) → Int32 → Int32 → Prop) : Prop :=
  wqM_fits nW nE us_22 sc_22 y4_22 (fun r25 => (r25 = 0 → (post (0 : Int32) f_22 us_22 P_22 S_22 sc_22 li_22 rc_22 rn_22 ro_22 rd_22 st_22)) ∧ (¬ (r25 = 0) → (vp_in (sc_22 - (1 : Int32)) nE ∧ (vp_in (S_22 (sc_22 - (1 : Int32)).toNatClampNeg) nE ∧ (vp_in (us_22 + (0 : Int32)) nW ∧ (vp_in (us_22 + (1 : Int32)) nW ∧ (vp_in (us_22 + (2 : Int32)) nW ∧ (vp_in (us_22 + (3 : Int32)) nW ∧ (∃ k_140, wqM_build_140 nW nE R y1_22 y2_22 y4_22 (S_22 (sc_22 - (1 : Int32)).toNatClampNeg) us_22 (us_22 + y4_22) (upd P_22 (S_22 (sc_22 - (1 : Int32)).toNatClampNeg).toNatClampNeg us_22) S_22 (sc_22 - (1 : Int32)) (li_22 + (1 : Int32)) rc_22 rn_22 ro_22 rd_22 st_22 post (fun z7_140 fe_140 => wqV_ofEntry (S_22 (sc_22 - (1 : Int32)).toNatClampNeg) (fun r165 => post r165 fe_140 (us_22 + y4_22) (upd P_22 (S_22 (sc_22 - (1 : Int32)).toNatClampNeg).toNatClampNeg us_22) S_22 (sc_22 - (1 : Int32)) (li_22 + (1 : Int32)) rc_22 rn_22 ro_22 rd_22 st_22)) k_140 (us_22 + (4 : Int32)) (upd (upd (upd (upd f_22 (us_22 + (0 : Int32)).toNatClampNeg (S_22 (sc_22 - (1 : Int32)).toNatClampNeg)) (us_22 + (1 : Int32)).toNatClampNeg (li_22 + (1 : Int32))) (us_22 + (2 : Int32)).toNatClampNeg y1_22) (us_22 + (3 : Int32)).toNatClampNeg y2_22))))))))))
def wqM_build (nW : Nat) (nE : Nat) (R : Nat → Int32) (f : Nat → Int32) (us : Int32) (P : Nat → Int32) (S : Nat → Int32) (sc : Int32) (li : Int32) (rc : Nat → Int32) (rn : Int32) (ro : Nat → Int32) (rd : Int32) (st : Int32) (a1 : Int32) (a2 : Int32) (post : Int32 → (Nat → Int32) → Int32 → (Nat → Int32) → (Nat → Int32) → Int32 → Int32 → (Nat → Int32) → Int32 → (Nat → Int32) → Int32 → Int32 → Prop) : Prop :=
  wqM_bodyWords a2 (fun r2 => wqM_fits nW nE us sc ((4 : Int32) + r2) (fun r11 => (r11 = 0 → (wqM_settle nW nE R f us P S sc rc rn ro rd st (fun f_19 us_19 P_19 S_19 sc_19 rc_19 rn_19 ro_19 rd_19 st_19 => wqM_build_22 nW nE R a1 a2 ((4 : Int32) + r2) f_19 us_19 P_19 S_19 sc_19 li rc_19 rn_19 ro_19 rd_19 st_19 post))) ∧ (¬ (r11 = 0) → (wqM_build_22 nW nE R a1 a2 ((4 : Int32) + r2) f us P S sc li rc rn ro rd st post))))
set_option maxHeartbeats 4000000 in
set_option maxRecDepth 100000 in
theorem mM_build (l : Launch) (dC : Nat → ClassId) (dI : Nat → Nat → Nat) (cA : ClassId) (a0 : Nat) (aR : Nat) (aM : Nat) (aW : Nat) (aP : Nat) (aS : Nat) (aC : Nat) (aO : Nat) (nW : Nat) (nE : Nat) (sz : Nat) (R : Nat → Int32) (f : Nat → Int32) (us : Int32) (P : Nat → Int32) (S : Nat → Int32) (sc : Int32) (li : Int32) (rc : Nat → Int32) (rn : Int32) (ro : Nat → Int32) (rd : Int32) (st : Int32) (a1 : Int32) (a2 : Int32) (post : Int32 → (Nat → Int32) → Int32 → (Nat → Int32) → (Nat → Int32) → Int32 → Int32 → (Nat → Int32) → Int32 → (Nat → Int32) → Int32 → Int32 → Prop) (h : wqM_build nW nE R f us P S sc li rc rn ro rd st a1 a2 post) : Met l y_M_build ws_M_build ({ frames := 5, cells := 0, slots := 0, locals := 112 }) (rw_P (dC, dI) vwCl (TSw cA a0 aR aM aW aP aS aC aO nW nE R f us P S sc li rc rn ro rd st) [(cA, .int)] sz [.ref aM, .int a1, .int a2, .ref aR]) (va_Qi (fun (r : Int32) (u : (Nat → Int32) × Int32 × (Nat → Int32) × (Nat → Int32) × Int32 × Int32 × (Nat → Int32) × Int32 × (Nat → Int32) × Int32 × Int32) => post r u.1 u.2.1 u.2.2.1 u.2.2.2.1 u.2.2.2.2.1 u.2.2.2.2.2.1 u.2.2.2.2.2.2.1 u.2.2.2.2.2.2.2.1 u.2.2.2.2.2.2.2.2.1 u.2.2.2.2.2.2.2.2.2.1 u.2.2.2.2.2.2.2.2.2.2) (rw_B (dC, dI) vwCl [(cA, .int)] (va_A (TSw cA a0 aR aM aW aP aS aC aO nW nE R f us P S sc li rc rn ro rd st) sz) (fun u : (Nat → Int32) × Int32 × (Nat → Int32) × (Nat → Int32) × Int32 × Int32 × (Nat → Int32) × Int32 × (Nat → Int32) × Int32 × Int32 => TSw cA a0 aR aM aW aP aS aC aO nW nE R u.1 u.2.1 u.2.2.1 u.2.2.2.1 u.2.2.2.2.1 u.2.2.2.2.2.1 u.2.2.2.2.2.2.1 u.2.2.2.2.2.2.2.1 u.2.2.2.2.2.2.2.2.1 u.2.2.2.2.2.2.2.2.2.1 u.2.2.2.2.2.2.2.2.2.2)) (va_A (TSw cA a0 aR aM aW aP aS aC aO nW nE R f us P S sc li rc rn ro rd st) sz)) 0 0 (va_A (TSw cA a0 aR aM aW aP aS aC aO nW nE R f us P S sc li rc rn ro rd st) sz) := by
  refine Met.ofW (cc := c_M_build) (maxL := 8) (ret := (some .int)) (by decide) rfl ?_
  intro p e s m args below meth c s₁ B hml hv
  obtain ⟨rfl, hsz, hP, hK, hD0⟩ := hv
  have hx := B.exec
  have hb := B.bytes
  have hr9 := B.returns
  have hts := atoms_spec (ws := ws_M_build) B.pre
  have hw : ∀ w ∈ WB_, w.before _ s = true := fun w h => hts w (List.mem_cons_of_mem _ h)
  have hown : s.vm.findClass R_M = some m.cls := findClass_of_methodNamed B.named
  have hlocks := B.notSynchronized
  subst hsz
  have hD := hD0.self (sz := s.heap.size)
  generalize hAe : va_A (TSw cA a0 aR aM aW aP aS aC aO nW nE R f us P S sc li rc rn ro rd st) s.heap.size = A at hD ⊢
  have hA : ∀ q : Nat, s.heap.size ≤ q → A q := fun q h => by rw [← hAe]; exact Or.inr h
  have hS : va_S A s.heap s.heap [] := va_S.rf
  have hl := lv_entry ([.ref aM, .int a1, .int a2, .ref aR]) (n := 8) (Nat.le_of_ble_eq_true rfl)
  rw [lg_entry_eq]
  generalize (lg_sl ([.ref aM, .int a1, .int a2, .ref aR]) ++ List.replicate (8 - (lg_sl ([.ref aM, .int a1, .int a2, .ref aR])).length) Slot.unset).toArray = ls at hl ⊢
  have hl : lv_has ls 8 [(0, .ref aM), (1, .int a1), (2, .int a2), (3, .ref aR)] := hl
  have lp_140 : ∀ (y1_140 : Int32) (y2_140 : Int32) (y4_140 : Int32) (y5_140 : Int32) (y6_140 : Int32) (usf_140 : Int32) (Pf_140 : Nat → Int32) (Sf_140 : Nat → Int32) (scf_140 : Int32) (lif_140 : Int32) (rcf_140 : Nat → Int32) (rnf_140 : Int32) (rof_140 : Nat → Int32) (rdf_140 : Int32) (stf_140 : Int32) (kx : Int32 → (Nat → Int32) → Prop), (∀ (z7_140 : Int32) (fe_140 : Nat → Int32) (H : Heap) (locs : List Loc) (ls : Array Slot), va_P (dC, dI) vwCl (TSw cA a0 aR aM aW aP aS aC aO nW nE R fe_140 usf_140 Pf_140 Sf_140 scf_140 lif_140 rcf_140 rnf_140 rof_140 rdf_140 stf_140) H → va_D A (TSw cA a0 aR aM aW aP aS aC aO nW nE R fe_140 usf_140 Pf_140 Sf_140 scf_140 lif_140 rcf_140 rnf_140 rof_140 rdf_140 stf_140) → va_S A s.heap H locs → lv_has ls 8 [(0, .ref aM), (1, .int y1_140), (2, .int y2_140), (3, .ref aR), (4, .int y4_140), (5, .int y5_140), (6, .int y6_140), (7, .int z7_140)] → kx z7_140 fe_140 → W p l e (headSpec ws_M_build ({ frames := 5, cells := 0, slots := 0, locals := 112 })).room s m ([.ref aM, .int a1, .int a2, .ref aR] : List Value).toArray below meth c H locs 0 0 (MQ below (va_Qi (fun (r : Int32) (u : (Nat → Int32) × Int32 × (Nat → Int32) × (Nat → Int32) × Int32 × Int32 × (Nat → Int32) × Int32 × (Nat → Int32) × Int32 × Int32) => post r u.1 u.2.1 u.2.2.1 u.2.2.2.1 u.2.2.2.2.1 u.2.2.2.2.2.1 u.2.2.2.2.2.2.1 u.2.2.2.2.2.2.2.1 u.2.2.2.2.2.2.2.2.1 u.2.2.2.2.2.2.2.2.2.1 u.2.2.2.2.2.2.2.2.2.2) (rw_B (dC, dI) vwCl [(cA, .int)] A (fun u : (Nat → Int32) × Int32 × (Nat → Int32) × (Nat → Int32) × Int32 × Int32 × (Nat → Int32) × Int32 × (Nat → Int32) × Int32 × Int32 => TSw cA a0 aR aM aW aP aS aC aO nW nE R u.1 u.2.1 u.2.2.1 u.2.2.2.1 u.2.2.2.2.1 u.2.2.2.2.2.1 u.2.2.2.2.2.2.1 u.2.2.2.2.2.2.2.1 u.2.2.2.2.2.2.2.2.1 u.2.2.2.2.2.2.2.2.2.1 u.2.2.2.2.2.2.2.2.2.2)) A) ([.ref aM, .int a1, .int a2, .ref aR] : List Value).toArray s 0 0 A) (F0 m 163 ls [])) → ∀ (n : Nat) (x7_140 : Int32) (f_140 : Nat → Int32) (H : Heap) (locs : List Loc) (ls : Array Slot), va_P (dC, dI) vwCl (TSw cA a0 aR aM aW aP aS aC aO nW nE R f_140 usf_140 Pf_140 Sf_140 scf_140 lif_140 rcf_140 rnf_140 rof_140 rdf_140 stf_140) H → va_D A (TSw cA a0 aR aM aW aP aS aC aO nW nE R f_140 usf_140 Pf_140 Sf_140 scf_140 lif_140 rcf_140 rnf_140 rof_140 rdf_140 stf_140) → va_S A s.heap H locs → lv_has ls 8 [(0, .ref aM), (1, .int y1_140), (2, .int y2_140), (3, .ref aR), (4, .int y4_140), (5, .int y5_140), (6, .int y6_140), (7, .int x7_140)] → wqM_build_140 nW nE R y1_140 y2_140 y4_140 y5_140 y6_140 usf_140 Pf_140 Sf_140 scf_140 lif_140 rcf_140 rnf_140 rof_140 rdf_140 stf_140 post kx n x7_140 f_140 → W p l e (headSpec ws_M_build ({ frames := 5, cells := 0, slots := 0, locals := 112 })).room s m ([.ref aM, .int a1, .int a2, .ref aR] : List Value).toArray below meth c H locs 0 0 (MQ below (va_Qi (fun (r : Int32) (u : (Nat → Int32) × Int32 × (Nat → Int32) × (Nat → Int32) × Int32 × Int32 × (Nat → Int32) × Int32 × (Nat → Int32) × Int32 × Int32) => post r u.1 u.2.1 u.2.2.1 u.2.2.2.1 u.2.2.2.2.1 u.2.2.2.2.2.1 u.2.2.2.2.2.2.1 u.2.2.2.2.2.2.2.1 u.2.2.2.2.2.2.2.2.1 u.2.2.2.2.2.2.2.2.2.1 u.2.2.2.2.2.2.2.2.2.2) (rw_B (dC, dI) vwCl [(cA, .int)] A (fun u : (Nat → Int32) × Int32 × (Nat → Int32) × (Nat → Int32) × Int32 × Int32 × (Nat → Int32) × Int32 × (Nat → Int32) × Int32 × Int32 => TSw cA a0 aR aM aW aP aS aC aO nW nE R u.1 u.2.1 u.2.2.1 u.2.2.2.1 u.2.2.2.2.1 u.2.2.2.2.2.1 u.2.2.2.2.2.2.1 u.2.2.2.2.2.2.2.1 u.2.2.2.2.2.2.2.2.1 u.2.2.2.2.2.2.2.2.2.1 u.2.2.2.2.2.2.2.2.2.2)) A) ([.ref aM, .int a1, .int a2, .ref aR] : List Value).toArray s 0 0 A) (F0 m 140 ls []) := by
    intro y1_140 y2_140 y4_140 y5_140 y6_140 usf_140 Pf_140 Sf_140 scf_140 lif_140 rcf_140 rnf_140 rof_140 rdf_140 stf_140 kx K n
    induction n with
    | zero => intro x7_140 f_140 H locs ls hP hD hS hl h; exact h.elim
    | succ n ih =>
      intro x7_140 f_140 H locs ls hP hD hS hl h
      refine lv_iload hx hb d_M_build_140 (lv_at hl 7 rfl) ?_
      refine lv_aload_n hx hb d_M_build_142 rfl (lv_at hl 0 rfl) ?_
      refine va_get (D := (dC, dI)) (ci := 1) (v := .int usf_140) (C := R_M) (T := T_M) (N := 11) hx hb hw in_M hown hK hP 2 rfl rfl 1 (by decide) (hw _ wd_64) (fun _ h9 => h9) rfl d_M_build_143 ?_
      refine lv_icmp_ge (tgt := 163) hx hb d_M_build_146 (by decide) (fun c_146 => ?_) (fun c_146 => ?_)
      · have h := h.1 c_146
        exact K x7_140 f_140 H locs ls hP hD hS (lv_sub hl [0, 1, 2, 3, 4, 5, 6, 7] rfl) h
      · have h := h.2 c_146
        refine lv_aload_n hx hb d_M_build_149 rfl (lv_at hl 0 rfl) ?_
        refine va_get (D := (dC, dI)) (ci := 1) (v := .ref aW) (C := R_M) (T := T_M) (N := 11) hx hb hw in_M hown hK hP 2 rfl rfl 0 (by decide) (hw _ wd_63) (fun _ h9 => h9) rfl d_M_build_150 ?_
        refine lv_iload hx hb d_M_build_153 (lv_at hl 7 rfl) ?_
        refine lv_iconst (v := (0 : Int32)) hx hb d_M_build_155 (by decide) ?_
        refine va_iast hx hb hK hP hD hS 3 0 rfl rfl h.1 d_M_build_156 (fun H locs hP hD hS => ?_)
        have hP : va_P (dC, dI) vwCl (TSw cA a0 aR aM aW aP aS aC aO nW nE R (upd f_140 x7_140.toNatClampNeg (0 : Int32)) usf_140 Pf_140 Sf_140 scf_140 lif_140 rcf_140 rnf_140 rof_140 rdf_140 stf_140) H := hP
        have hD : va_D A (TSw cA a0 aR aM aW aP aS aC aO nW nE R (upd f_140 x7_140.toNatClampNeg (0 : Int32)) usf_140 Pf_140 Sf_140 scf_140 lif_140 rcf_140 rnf_140 rof_140 rdf_140 stf_140) := hD
        have h := h.2
        refine lv_iinc (v := x7_140 + (1 : Int32)) (lv' := [(7, .int (x7_140 + (1 : Int32))), (0, .ref aM), (1, .int y1_140), (2, .int y2_140), (3, .ref aR), (4, .int y4_140), (5, .int y5_140), (6, .int y6_140)]) hx hb d_M_build_157 hl (k := 7) rfl rfl (by decide) rfl (fun ls hl => ?_)
        refine lv_goto (tgt := 140) hx hb d_M_build_160 (by decide) ?_
        exact ih (x7_140 + (1 : Int32)) (upd f_140 x7_140.toNatClampNeg (0 : Int32)) H locs ls hP hD hS (lv_sub hl [1, 2, 3, 4, 5, 6, 7, 0] rfl) h
  have lp_22 : ∀ (y1_22 : Int32) (y2_22 : Int32) (y4_22 : Int32) (f_22 : Nat → Int32) (us_22 : Int32) (P_22 : Nat → Int32) (S_22 : Nat → Int32) (sc_22 : Int32) (li_22 : Int32) (rc_22 : Nat → Int32) (rn_22 : Int32) (ro_22 : Nat → Int32) (rd_22 : Int32) (st_22 : Int32) (H : Heap) (locs : List Loc) (ls : Array Slot), va_P (dC, dI) vwCl (TSw cA a0 aR aM aW aP aS aC aO nW nE R f_22 us_22 P_22 S_22 sc_22 li_22 rc_22 rn_22 ro_22 rd_22 st_22) H → va_D A (TSw cA a0 aR aM aW aP aS aC aO nW nE R f_22 us_22 P_22 S_22 sc_22 li_22 rc_22 rn_22 ro_22 rd_22 st_22) → va_S A s.heap H locs → lv_has ls 8 [(0, .ref aM), (1, .int y1_22), (2, .int y2_22), (3, .ref aR), (4, .int y4_22)] → wqM_build_22 nW nE R y1_22 y2_22 y4_22 f_22 us_22 P_22 S_22 sc_22 li_22 rc_22 rn_22 ro_22 rd_22 st_22 post → W p l e (headSpec ws_M_build ({ frames := 5, cells := 0, slots := 0, locals := 112 })).room s m ([.ref aM, .int a1, .int a2, .ref aR] : List Value).toArray below meth c H locs 0 0 (MQ below (va_Qi (fun (r : Int32) (u : (Nat → Int32) × Int32 × (Nat → Int32) × (Nat → Int32) × Int32 × Int32 × (Nat → Int32) × Int32 × (Nat → Int32) × Int32 × Int32) => post r u.1 u.2.1 u.2.2.1 u.2.2.2.1 u.2.2.2.2.1 u.2.2.2.2.2.1 u.2.2.2.2.2.2.1 u.2.2.2.2.2.2.2.1 u.2.2.2.2.2.2.2.2.1 u.2.2.2.2.2.2.2.2.2.1 u.2.2.2.2.2.2.2.2.2.2) (rw_B (dC, dI) vwCl [(cA, .int)] A (fun u : (Nat → Int32) × Int32 × (Nat → Int32) × (Nat → Int32) × Int32 × Int32 × (Nat → Int32) × Int32 × (Nat → Int32) × Int32 × Int32 => TSw cA a0 aR aM aW aP aS aC aO nW nE R u.1 u.2.1 u.2.2.1 u.2.2.2.1 u.2.2.2.2.1 u.2.2.2.2.2.1 u.2.2.2.2.2.2.1 u.2.2.2.2.2.2.2.1 u.2.2.2.2.2.2.2.2.1 u.2.2.2.2.2.2.2.2.2.1 u.2.2.2.2.2.2.2.2.2.2)) A) ([.ref aM, .int a1, .int a2, .ref aR] : List Value).toArray s 0 0 A) (F0 m 22 ls []) := by
    intro y1_22 y2_22 y4_22 f_22 us_22 P_22 S_22 sc_22 li_22 rc_22 rn_22 ro_22 rd_22 st_22 H locs ls hP hD hS hl h
    unfold wqM_build_22 at h
    refine lv_aload_n hx hb d_M_build_22 rfl (lv_at hl 0 rfl) ?_
    refine lv_iload hx hb d_M_build_23 (lv_at hl 4 rfl) ?_
    refine rq_calli (W.runV (As := [.int y4_22]) (rest := []) ⟨hx, hb, hml, hown, hw⟩ (mM_fits l dC dI cA a0 aR aM aW aP aS aC aO nW nE R f_22 us_22 P_22 S_22 sc_22 li_22 rc_22 rn_22 ro_22 rd_22 st_22 y4_22 _ h) (cwV 1 hw g_M_66 rfl rfl rfl (by decide +kernel) ⟨Nat.le_of_ble_eq_true rfl, Nat.le_of_ble_eq_true rfl⟩) (ro_PV (ci := 1) (q0 := 2) hK hP rfl rfl) rfl rfl hl.1 rfl (lv_room (Nat.le_of_ble_eq_true rfl)) d_M_build_25 ⟨Nat.le_of_ble_eq_true rfl, Nat.le_of_ble_eq_true rfl⟩) (fun r25 h => ?_)
    refine lv_if_ne (tgt := 33) hx hb d_M_build_28 (by decide) (fun c_28 => ?_) (fun c_28 => ?_)
    · have h := h.2 c_28
      refine lv_aload_n hx hb d_M_build_33 rfl (lv_at hl 0 rfl) ?_
      refine lv_dup hx hb d_M_build_34 rfl ?_
      refine va_get (D := (dC, dI)) (ci := 1) (v := .int sc_22) (C := R_M) (T := T_M) (N := 11) hx hb hw in_M hown hK hP 2 rfl rfl 4 (by decide) (hw _ wd_67) (fun _ h9 => h9) rfl d_M_build_35 ?_
      refine lv_iconst (v := (1 : Int32)) hx hb d_M_build_38 (by decide) ?_
      refine lv_isub hx hb d_M_build_39 ?_
      refine va_put (D := (dC, dI)) (ci := 1) (v := .int (sc_22 - (1 : Int32))) (ty := .int) (C := R_M) (T := T_M) (N := 11) hx hb hw in_M ty_M ty_M_ok nm_M hown hK hP hD hS 2 rfl rfl 4 (by decide) (hw _ wd_67) (fun _ h9 => h9) rfl (by decide +kernel) rfl rfl (Nat.le_of_ble_eq_true rfl) d_M_build_40 (fun H locs hP hD hS => ?_)
      have hP : va_P (dC, dI) vwCl (TSw cA a0 aR aM aW aP aS aC aO nW nE R f_22 us_22 P_22 S_22 (sc_22 - (1 : Int32)) li_22 rc_22 rn_22 ro_22 rd_22 st_22) H := hP
      have hD : va_D A (TSw cA a0 aR aM aW aP aS aC aO nW nE R f_22 us_22 P_22 S_22 (sc_22 - (1 : Int32)) li_22 rc_22 rn_22 ro_22 rd_22 st_22) := hD
      refine lv_aload_n hx hb d_M_build_43 rfl (lv_at hl 0 rfl) ?_
      refine va_get (D := (dC, dI)) (ci := 1) (v := .ref aS) (C := R_M) (T := T_M) (N := 11) hx hb hw in_M hown hK hP 2 rfl rfl 3 (by decide) (hw _ wd_66) (fun _ h9 => h9) rfl d_M_build_44 ?_
      refine lv_aload_n hx hb d_M_build_47 rfl (lv_at hl 0 rfl) ?_
      refine va_get (D := (dC, dI)) (ci := 1) (v := .int (sc_22 - (1 : Int32))) (C := R_M) (T := T_M) (N := 11) hx hb hw in_M hown hK hP 2 rfl rfl 4 (by decide) (hw _ wd_67) (fun _ h9 => h9) rfl d_M_build_48 ?_
      refine va_iald hx hb hK hP 5 0 rfl rfl h.1 d_M_build_51 ?_
      have h := h.2
      refine lv_istore (lv' := [(5, .int (S_22 (sc_22 - (1 : Int32)).toNatClampNeg)), (0, .ref aM), (1, .int y1_22), (2, .int y2_22), (3, .ref aR), (4, .int y4_22)]) hx hb d_M_build_52 hl (by decide) rfl (fun ls hl => ?_)
      refine lv_aload_n hx hb d_M_build_54 rfl (lv_at hl 1 rfl) ?_
      refine va_get (D := (dC, dI)) (ci := 1) (v := .int us_22) (C := R_M) (T := T_M) (N := 11) hx hb hw in_M hown hK hP 2 rfl rfl 1 (by decide) (hw _ wd_64) (fun _ h9 => h9) rfl d_M_build_55 ?_
      refine lv_istore (lv' := [(6, .int us_22), (5, .int (S_22 (sc_22 - (1 : Int32)).toNatClampNeg)), (0, .ref aM), (1, .int y1_22), (2, .int y2_22), (3, .ref aR), (4, .int y4_22)]) hx hb d_M_build_58 hl (by decide) rfl (fun ls hl => ?_)
      refine lv_aload_n hx hb d_M_build_60 rfl (lv_at hl 2 rfl) ?_
      refine lv_dup hx hb d_M_build_61 rfl ?_
      refine va_get (D := (dC, dI)) (ci := 1) (v := .int us_22) (C := R_M) (T := T_M) (N := 11) hx hb hw in_M hown hK hP 2 rfl rfl 1 (by decide) (hw _ wd_64) (fun _ h9 => h9) rfl d_M_build_62 ?_
      refine lv_iload hx hb d_M_build_65 (lv_at hl 6 rfl) ?_
      refine lv_iadd hx hb d_M_build_67 ?_
      refine va_put (D := (dC, dI)) (ci := 1) (v := .int (us_22 + y4_22)) (ty := .int) (C := R_M) (T := T_M) (N := 11) hx hb hw in_M ty_M ty_M_ok nm_M hown hK hP hD hS 2 rfl rfl 1 (by decide) (hw _ wd_64) (fun _ h9 => h9) rfl (by decide +kernel) rfl rfl (Nat.le_of_ble_eq_true rfl) d_M_build_68 (fun H locs hP hD hS => ?_)
      have hP : va_P (dC, dI) vwCl (TSw cA a0 aR aM aW aP aS aC aO nW nE R f_22 (us_22 + y4_22) P_22 S_22 (sc_22 - (1 : Int32)) li_22 rc_22 rn_22 ro_22 rd_22 st_22) H := hP
      have hD : va_D A (TSw cA a0 aR aM aW aP aS aC aO nW nE R f_22 (us_22 + y4_22) P_22 S_22 (sc_22 - (1 : Int32)) li_22 rc_22 rn_22 ro_22 rd_22 st_22) := hD
      refine lv_aload_n hx hb d_M_build_71 rfl (lv_at hl 2 rfl) ?_
      refine lv_dup hx hb d_M_build_72 rfl ?_
      refine va_get (D := (dC, dI)) (ci := 1) (v := .int li_22) (C := R_M) (T := T_M) (N := 11) hx hb hw in_M hown hK hP 2 rfl rfl 5 (by decide) (hw _ wd_68) (fun _ h9 => h9) rfl d_M_build_73 ?_
      refine lv_iconst (v := (1 : Int32)) hx hb d_M_build_76 (by decide) ?_
      refine lv_iadd hx hb d_M_build_77 ?_
      refine va_put (D := (dC, dI)) (ci := 1) (v := .int (li_22 + (1 : Int32))) (ty := .int) (C := R_M) (T := T_M) (N := 11) hx hb hw in_M ty_M ty_M_ok nm_M hown hK hP hD hS 2 rfl rfl 5 (by decide) (hw _ wd_68) (fun _ h9 => h9) rfl (by decide +kernel) rfl rfl (Nat.le_of_ble_eq_true rfl) d_M_build_78 (fun H locs hP hD hS => ?_)
      have hP : va_P (dC, dI) vwCl (TSw cA a0 aR aM aW aP aS aC aO nW nE R f_22 (us_22 + y4_22) P_22 S_22 (sc_22 - (1 : Int32)) (li_22 + (1 : Int32)) rc_22 rn_22 ro_22 rd_22 st_22) H := hP
      have hD : va_D A (TSw cA a0 aR aM aW aP aS aC aO nW nE R f_22 (us_22 + y4_22) P_22 S_22 (sc_22 - (1 : Int32)) (li_22 + (1 : Int32)) rc_22 rn_22 ro_22 rd_22 st_22) := hD
      refine lv_aload_n hx hb d_M_build_81 rfl (lv_at hl 2 rfl) ?_
      refine va_get (D := (dC, dI)) (ci := 1) (v := .ref aP) (C := R_M) (T := T_M) (N := 11) hx hb hw in_M hown hK hP 2 rfl rfl 2 (by decide) (hw _ wd_65) (fun _ h9 => h9) rfl d_M_build_82 ?_
      refine lv_iload hx hb d_M_build_85 (lv_at hl 1 rfl) ?_
      refine lv_iload hx hb d_M_build_87 (lv_at hl 0 rfl) ?_
      refine va_iast hx hb hK hP hD hS 4 0 rfl rfl h.1 d_M_build_89 (fun H locs hP hD hS => ?_)
      have hP : va_P (dC, dI) vwCl (TSw cA a0 aR aM aW aP aS aC aO nW nE R f_22 (us_22 + y4_22) (upd P_22 (S_22 (sc_22 - (1 : Int32)).toNatClampNeg).toNatClampNeg us_22) S_22 (sc_22 - (1 : Int32)) (li_22 + (1 : Int32)) rc_22 rn_22 ro_22 rd_22 st_22) H := hP
      have hD : va_D A (TSw cA a0 aR aM aW aP aS aC aO nW nE R f_22 (us_22 + y4_22) (upd P_22 (S_22 (sc_22 - (1 : Int32)).toNatClampNeg).toNatClampNeg us_22) S_22 (sc_22 - (1 : Int32)) (li_22 + (1 : Int32)) rc_22 rn_22 ro_22 rd_22 st_22) := hD
      have h := h.2
      refine lv_aload_n hx hb d_M_build_90 rfl (lv_at hl 2 rfl) ?_
      refine va_get (D := (dC, dI)) (ci := 1) (v := .ref aW) (C := R_M) (T := T_M) (N := 11) hx hb hw in_M hown hK hP 2 rfl rfl 0 (by decide) (hw _ wd_63) (fun _ h9 => h9) rfl d_M_build_91 ?_
      refine lv_iload hx hb d_M_build_94 (lv_at hl 0 rfl) ?_
      refine lv_iconst (v := (0 : Int32)) hx hb d_M_build_96 (by decide) ?_
      refine lv_iadd hx hb d_M_build_97 ?_
      refine lv_iload hx hb d_M_build_98 (lv_at hl 1 rfl) ?_
      refine va_iast hx hb hK hP hD hS 3 0 rfl rfl h.1 d_M_build_100 (fun H locs hP hD hS => ?_)
      have hP : va_P (dC, dI) vwCl (TSw cA a0 aR aM aW aP aS aC aO nW nE R (upd f_22 (us_22 + (0 : Int32)).toNatClampNeg (S_22 (sc_22 - (1 : Int32)).toNatClampNeg)) (us_22 + y4_22) (upd P_22 (S_22 (sc_22 - (1 : Int32)).toNatClampNeg).toNatClampNeg us_22) S_22 (sc_22 - (1 : Int32)) (li_22 + (1 : Int32)) rc_22 rn_22 ro_22 rd_22 st_22) H := hP
      have hD : va_D A (TSw cA a0 aR aM aW aP aS aC aO nW nE R (upd f_22 (us_22 + (0 : Int32)).toNatClampNeg (S_22 (sc_22 - (1 : Int32)).toNatClampNeg)) (us_22 + y4_22) (upd P_22 (S_22 (sc_22 - (1 : Int32)).toNatClampNeg).toNatClampNeg us_22) S_22 (sc_22 - (1 : Int32)) (li_22 + (1 : Int32)) rc_22 rn_22 ro_22 rd_22 st_22) := hD
      have h := h.2
      refine lv_aload_n hx hb d_M_build_101 rfl (lv_at hl 2 rfl) ?_
      refine va_get (D := (dC, dI)) (ci := 1) (v := .ref aW) (C := R_M) (T := T_M) (N := 11) hx hb hw in_M hown hK hP 2 rfl rfl 0 (by decide) (hw _ wd_63) (fun _ h9 => h9) rfl d_M_build_102 ?_
      refine lv_iload hx hb d_M_build_105 (lv_at hl 0 rfl) ?_
      refine lv_iconst (v := (1 : Int32)) hx hb d_M_build_107 (by decide) ?_
      refine lv_iadd hx hb d_M_build_108 ?_
      refine lv_aload_n hx hb d_M_build_109 rfl (lv_at hl 2 rfl) ?_
      refine va_get (D := (dC, dI)) (ci := 1) (v := .int (li_22 + (1 : Int32))) (C := R_M) (T := T_M) (N := 11) hx hb hw in_M hown hK hP 2 rfl rfl 5 (by decide) (hw _ wd_68) (fun _ h9 => h9) rfl d_M_build_110 ?_
      refine va_iast hx hb hK hP hD hS 3 0 rfl rfl h.1 d_M_build_113 (fun H locs hP hD hS => ?_)
      have hP : va_P (dC, dI) vwCl (TSw cA a0 aR aM aW aP aS aC aO nW nE R (upd (upd f_22 (us_22 + (0 : Int32)).toNatClampNeg (S_22 (sc_22 - (1 : Int32)).toNatClampNeg)) (us_22 + (1 : Int32)).toNatClampNeg (li_22 + (1 : Int32))) (us_22 + y4_22) (upd P_22 (S_22 (sc_22 - (1 : Int32)).toNatClampNeg).toNatClampNeg us_22) S_22 (sc_22 - (1 : Int32)) (li_22 + (1 : Int32)) rc_22 rn_22 ro_22 rd_22 st_22) H := hP
      have hD : va_D A (TSw cA a0 aR aM aW aP aS aC aO nW nE R (upd (upd f_22 (us_22 + (0 : Int32)).toNatClampNeg (S_22 (sc_22 - (1 : Int32)).toNatClampNeg)) (us_22 + (1 : Int32)).toNatClampNeg (li_22 + (1 : Int32))) (us_22 + y4_22) (upd P_22 (S_22 (sc_22 - (1 : Int32)).toNatClampNeg).toNatClampNeg us_22) S_22 (sc_22 - (1 : Int32)) (li_22 + (1 : Int32)) rc_22 rn_22 ro_22 rd_22 st_22) := hD
      have h := h.2
      refine lv_aload_n hx hb d_M_build_114 rfl (lv_at hl 2 rfl) ?_
      refine va_get (D := (dC, dI)) (ci := 1) (v := .ref aW) (C := R_M) (T := T_M) (N := 11) hx hb hw in_M hown hK hP 2 rfl rfl 0 (by decide) (hw _ wd_63) (fun _ h9 => h9) rfl d_M_build_115 ?_
      refine lv_iload hx hb d_M_build_118 (lv_at hl 0 rfl) ?_
      refine lv_iconst (v := (2 : Int32)) hx hb d_M_build_120 (by decide) ?_
      refine lv_iadd hx hb d_M_build_121 ?_
      refine lv_iload_n hx hb d_M_build_122 rfl (lv_at hl 3 rfl) ?_
      refine va_iast hx hb hK hP hD hS 3 0 rfl rfl h.1 d_M_build_123 (fun H locs hP hD hS => ?_)
      have hP : va_P (dC, dI) vwCl (TSw cA a0 aR aM aW aP aS aC aO nW nE R (upd (upd (upd f_22 (us_22 + (0 : Int32)).toNatClampNeg (S_22 (sc_22 - (1 : Int32)).toNatClampNeg)) (us_22 + (1 : Int32)).toNatClampNeg (li_22 + (1 : Int32))) (us_22 + (2 : Int32)).toNatClampNeg y1_22) (us_22 + y4_22) (upd P_22 (S_22 (sc_22 - (1 : Int32)).toNatClampNeg).toNatClampNeg us_22) S_22 (sc_22 - (1 : Int32)) (li_22 + (1 : Int32)) rc_22 rn_22 ro_22 rd_22 st_22) H := hP
      have hD : va_D A (TSw cA a0 aR aM aW aP aS aC aO nW nE R (upd (upd (upd f_22 (us_22 + (0 : Int32)).toNatClampNeg (S_22 (sc_22 - (1 : Int32)).toNatClampNeg)) (us_22 + (1 : Int32)).toNatClampNeg (li_22 + (1 : Int32))) (us_22 + (2 : Int32)).toNatClampNeg y1_22) (us_22 + y4_22) (upd P_22 (S_22 (sc_22 - (1 : Int32)).toNatClampNeg).toNatClampNeg us_22) S_22 (sc_22 - (1 : Int32)) (li_22 + (1 : Int32)) rc_22 rn_22 ro_22 rd_22 st_22) := hD
      have h := h.2
      refine lv_aload_n hx hb d_M_build_124 rfl (lv_at hl 2 rfl) ?_
      refine va_get (D := (dC, dI)) (ci := 1) (v := .ref aW) (C := R_M) (T := T_M) (N := 11) hx hb hw in_M hown hK hP 2 rfl rfl 0 (by decide) (hw _ wd_63) (fun _ h9 => h9) rfl d_M_build_125 ?_
      refine lv_iload hx hb d_M_build_128 (lv_at hl 0 rfl) ?_
      refine lv_iconst (v := (3 : Int32)) hx hb d_M_build_130 (by decide) ?_
      refine lv_iadd hx hb d_M_build_131 ?_
      refine lv_iload_n hx hb d_M_build_132 rfl (lv_at hl 4 rfl) ?_
      refine va_iast hx hb hK hP hD hS 3 0 rfl rfl h.1 d_M_build_133 (fun H locs hP hD hS => ?_)
      have hP : va_P (dC, dI) vwCl (TSw cA a0 aR aM aW aP aS aC aO nW nE R (upd (upd (upd (upd f_22 (us_22 + (0 : Int32)).toNatClampNeg (S_22 (sc_22 - (1 : Int32)).toNatClampNeg)) (us_22 + (1 : Int32)).toNatClampNeg (li_22 + (1 : Int32))) (us_22 + (2 : Int32)).toNatClampNeg y1_22) (us_22 + (3 : Int32)).toNatClampNeg y2_22) (us_22 + y4_22) (upd P_22 (S_22 (sc_22 - (1 : Int32)).toNatClampNeg).toNatClampNeg us_22) S_22 (sc_22 - (1 : Int32)) (li_22 + (1 : Int32)) rc_22 rn_22 ro_22 rd_22 st_22) H := hP
      have hD : va_D A (TSw cA a0 aR aM aW aP aS aC aO nW nE R (upd (upd (upd (upd f_22 (us_22 + (0 : Int32)).toNatClampNeg (S_22 (sc_22 - (1 : Int32)).toNatClampNeg)) (us_22 + (1 : Int32)).toNatClampNeg (li_22 + (1 : Int32))) (us_22 + (2 : Int32)).toNatClampNeg y1_22) (us_22 + (3 : Int32)).toNatClampNeg y2_22) (us_22 + y4_22) (upd P_22 (S_22 (sc_22 - (1 : Int32)).toNatClampNeg).toNatClampNeg us_22) S_22 (sc_22 - (1 : Int32)) (li_22 + (1 : Int32)) rc_22 rn_22 ro_22 rd_22 st_22) := hD
      have h := h.2
      refine lv_iload hx hb d_M_build_134 (lv_at hl 0 rfl) ?_
      refine lv_iconst (v := (4 : Int32)) hx hb d_M_build_136 (by decide) ?_
      refine lv_iadd hx hb d_M_build_137 ?_
      refine lv_istore (lv' := [(7, .int (us_22 + (4 : Int32))), (6, .int us_22), (5, .int (S_22 (sc_22 - (1 : Int32)).toNatClampNeg)), (0, .ref aM), (1, .int y1_22), (2, .int y2_22), (3, .ref aR), (4, .int y4_22)]) hx hb d_M_build_138 hl (by decide) rfl (fun ls hl => ?_)
      obtain ⟨n_140, h⟩ := h
      refine lp_140 y1_22 y2_22 y4_22 (S_22 (sc_22 - (1 : Int32)).toNatClampNeg) us_22 (us_22 + y4_22) (upd P_22 (S_22 (sc_22 - (1 : Int32)).toNatClampNeg).toNatClampNeg us_22) S_22 (sc_22 - (1 : Int32)) (li_22 + (1 : Int32)) rc_22 rn_22 ro_22 rd_22 st_22 _ (fun z7_140 fe_140 H locs ls hP hD hS hl h => ?_) n_140 (us_22 + (4 : Int32)) (upd (upd (upd (upd f_22 (us_22 + (0 : Int32)).toNatClampNeg (S_22 (sc_22 - (1 : Int32)).toNatClampNeg)) (us_22 + (1 : Int32)).toNatClampNeg (li_22 + (1 : Int32))) (us_22 + (2 : Int32)).toNatClampNeg y1_22) (us_22 + (3 : Int32)).toNatClampNeg y2_22) H locs ls hP hD hS (lv_sub hl [3, 4, 5, 6, 7, 2, 1, 0] rfl) h
      refine lv_iload hx hb d_M_build_163 (lv_at hl 5 rfl) ?_
      refine rq_calli (W.runS (As := [.int (S_22 (sc_22 - (1 : Int32)).toNatClampNeg)]) (rest := []) ⟨hx, hb, hml, hown, hw⟩ (mV_ofEntry l (S_22 (sc_22 - (1 : Int32)).toNatClampNeg) _ h) (va_cwS 1 hw g_M_76 rfl rfl rfl (by decide +kernel) ⟨Nat.le_of_ble_eq_true rfl, Nat.le_of_ble_eq_true rfl⟩) preEq rfl rfl hl.1 rfl (lv_room (Nat.le_of_ble_eq_true rfl)) d_M_build_165 ⟨Nat.le_of_ble_eq_true rfl, Nat.le_of_ble_eq_true rfl⟩) (fun r165 h => ?_)
      exact W.iret (v := r165) hx hb hr9 (fun t ht hW => ⟨⟨_, (fe_140, us_22 + y4_22, upd P_22 (S_22 (sc_22 - (1 : Int32)).toNatClampNeg).toNatClampNeg us_22, S_22, sc_22 - (1 : Int32), li_22 + (1 : Int32), rc_22, rn_22, ro_22, rd_22, st_22), rfl, h, by rw [ht]; exact hP, va_K.moved hW.alike hK, hD⟩, hS.F ht⟩) hS.2.2 d_M_build_168
    · have h := h.1 c_28
      refine lv_iconst (v := (0 : Int32)) hx hb d_M_build_31 (by decide) ?_
      exact W.iret (v := (0 : Int32)) hx hb hr9 (fun t ht hW => ⟨⟨_, (f_22, us_22, P_22, S_22, sc_22, li_22, rc_22, rn_22, ro_22, rd_22, st_22), rfl, h, by rw [ht]; exact hP, va_K.moved hW.alike hK, hD⟩, hS.F ht⟩) hS.2.2 d_M_build_32
  unfold wqM_build at h
  refine lv_iconst (v := (4 : Int32)) hx hb d_M_build_0 (by decide) ?_
  refine lv_iload_n hx hb d_M_build_1 rfl (lv_at hl 2 rfl) ?_
  refine rq_calli (W.runS (As := [.int a2]) (rest := [.int (4 : Int32)]) ⟨hx, hb, hml, hown, hw⟩ (mM_bodyWords l a2 _ h) (va_cwS 1 hw g_M_63 rfl rfl rfl (by decide +kernel) ⟨Nat.le_of_ble_eq_true rfl, Nat.le_of_ble_eq_true rfl⟩) preEq rfl rfl hl.1 rfl (lv_room (Nat.le_of_ble_eq_true rfl)) d_M_build_2 ⟨Nat.le_of_ble_eq_true rfl, Nat.le_of_ble_eq_true rfl⟩) (fun r2 h => ?_)
  refine lv_iadd hx hb d_M_build_5 ?_
  refine lv_istore (lv' := [(4, .int ((4 : Int32) + r2)), (0, .ref aM), (1, .int a1), (2, .int a2), (3, .ref aR)]) hx hb d_M_build_6 hl (by decide) rfl (fun ls hl => ?_)
  refine lv_aload_n hx hb d_M_build_8 rfl (lv_at hl 1 rfl) ?_
  refine lv_iload hx hb d_M_build_9 (lv_at hl 0 rfl) ?_
  refine rq_calli (W.runV (As := [.int ((4 : Int32) + r2)]) (rest := []) ⟨hx, hb, hml, hown, hw⟩ (mM_fits l dC dI cA a0 aR aM aW aP aS aC aO nW nE R f us P S sc li rc rn ro rd st ((4 : Int32) + r2) _ h) (cwV 1 hw g_M_66 rfl rfl rfl (by decide +kernel) ⟨Nat.le_of_ble_eq_true rfl, Nat.le_of_ble_eq_true rfl⟩) (ro_PV (ci := 1) (q0 := 2) hK hP rfl rfl) rfl rfl hl.1 rfl (lv_room (Nat.le_of_ble_eq_true rfl)) d_M_build_11 ⟨Nat.le_of_ble_eq_true rfl, Nat.le_of_ble_eq_true rfl⟩) (fun r11 h => ?_)
  refine lv_if_ne (tgt := 22) hx hb d_M_build_14 (by decide) (fun c_14 => ?_) (fun c_14 => ?_)
  · have h := h.2 c_14
    exact lp_22 a1 a2 ((4 : Int32) + r2) f us P S sc li rc rn ro rd st s.heap [] ls hP hD hS (lv_sub hl [1, 2, 3, 4, 0] rfl) h
  · have h := h.1 c_14
    refine lv_aload_n hx hb d_M_build_17 rfl (lv_at hl 1 rfl) ?_
    refine lv_aload_n hx hb d_M_build_18 rfl (lv_at hl 4 rfl) ?_
    have hFc := va_free (wc := TSw cA a0 aR aM aW aP aS aC aO nW nE R f us P S sc li rc rn ro rd st) hD hS hA [0, 1, 2, 3, 4, 5, 6, 7] rfl
    refine va_callv (va_runV (As := [.ref aR]) (rest := []) ⟨hx, hb, hml, hown, hw⟩ (mM_settle l dC dI cA a0 aR aM aW aP aS aC aO nW nE s.heap.size R f us P S sc li rc rn ro rd st _ h) (cwV 1 hw g_M_69 rfl rfl rfl (by decide +kernel) ⟨Nat.le_of_ble_eq_true rfl, Nat.le_of_ble_eq_true rfl⟩) (rw_PV (ci := 1) (q0 := 2) hK hP hD rfl rfl) rfl rfl hl.1 rfl (lv_room (Nat.le_of_ble_eq_true rfl)) d_M_build_19 ⟨Nat.le_of_ble_eq_true rfl, Nat.le_of_ble_eq_true rfl⟩) hS (fun q _ h => hFc q h) hFc (fun u t H locs ht hvm h hB hz1 hk1 hS => ?_)
    obtain ⟨f_19, us_19, P_19, S_19, sc_19, rc_19, rn_19, ro_19, rd_19, st_19⟩ := u
    obtain ⟨hP, hK1, hD1⟩ := hB
    rw [ht] at hP
    have hD := hD1.weaken (fun _ _ _ q => hFc _ q)
    clear hFc hD1 hK1
    try dsimp only at h
    have hP : va_P (dC, dI) vwCl (TSw cA a0 aR aM aW aP aS aC aO nW nE R f_19 us_19 P_19 S_19 sc_19 li rc_19 rn_19 ro_19 rd_19 st_19) H := hP
    have hD : va_D A (TSw cA a0 aR aM aW aP aS aC aO nW nE R f_19 us_19 P_19 S_19 sc_19 li rc_19 rn_19 ro_19 rd_19 st_19) := hD
    exact lp_22 a1 a2 ((4 : Int32) + r2) f_19 us_19 P_19 S_19 sc_19 li rc_19 rn_19 ro_19 rd_19 st_19 H locs ls hP hD hS (lv_sub hl [1, 2, 3, 4, 0] rfl) h
def wqM_buildLike (nW : Nat) (nE : Nat) (R : Nat → Int32) (f : Nat → Int32) (us : Int32) (P : Nat → Int32) (S : Nat → Int32) (sc : Int32) (li : Int32) (rc : Nat → Int32) (rn : Int32) (ro : Nat → Int32) (rd : Int32) (st : Int32) (a1 : Int32) (post : Int32 → (Nat → Int32) → Int32 → (Nat → Int32) → (Nat → Int32) → Int32 → Int32 → (Nat → Int32) → Int32 → (Nat → Int32) → Int32 → Int32 → Prop) : Prop :=
  wqM_place nW nE P a1 (fun r6 => vp_in (r6 + (3 : Int32)) nW ∧ (wqM_itsClass nW nE f P a1 (fun r16 => wqM_build nW nE R f us P S sc li rc rn ro rd st r16 (f (r6 + (3 : Int32)).toNatClampNeg) (fun r21 f_21 us_21 P_21 S_21 sc_21 li_21 rc_21 rn_21 ro_21 rd_21 st_21 => (r21 = 0 → (post r21 f_21 us_21 P_21 S_21 sc_21 li_21 rc_21 rn_21 ro_21 rd_21 st_21)) ∧ (¬ (r21 = 0) → (wqM_place nW nE P_21 a1 (fun r37 => wqM_place nW nE P_21 r21 (fun r49 => wqM_bodyWords (f (r6 + (3 : Int32)).toNatClampNeg) (fun r55 => ¬ (r37 + (4 : Int32)) < 0 ∧ ¬ (r49 + (4 : Int32)) < 0 ∧ ¬ r55 < 0 ∧ (r37 + (4 : Int32)).toNatClampNeg + r55.toNatClampNeg ≤ nW ∧ (r49 + (4 : Int32)).toNatClampNeg + r55.toNatClampNeg ≤ nW ∧ (post r21 (va_cpy f_21 f_21 (r37 + (4 : Int32)).toNatClampNeg (r49 + (4 : Int32)).toNatClampNeg r55.toNatClampNeg) us_21 P_21 S_21 sc_21 li_21 rc_21 rn_21 ro_21 rd_21 st_21))))))))))
set_option maxHeartbeats 4000000 in
set_option maxRecDepth 100000 in
theorem mM_buildLike (l : Launch) (dC : Nat → ClassId) (dI : Nat → Nat → Nat) (cA : ClassId) (a0 : Nat) (aR : Nat) (aM : Nat) (aW : Nat) (aP : Nat) (aS : Nat) (aC : Nat) (aO : Nat) (nW : Nat) (nE : Nat) (sz : Nat) (R : Nat → Int32) (f : Nat → Int32) (us : Int32) (P : Nat → Int32) (S : Nat → Int32) (sc : Int32) (li : Int32) (rc : Nat → Int32) (rn : Int32) (ro : Nat → Int32) (rd : Int32) (st : Int32) (a1 : Int32) (post : Int32 → (Nat → Int32) → Int32 → (Nat → Int32) → (Nat → Int32) → Int32 → Int32 → (Nat → Int32) → Int32 → (Nat → Int32) → Int32 → Int32 → Prop) (h : wqM_buildLike nW nE R f us P S sc li rc rn ro rd st a1 post) : Met l y_M_buildLike ws_M_buildLike ({ frames := 6, cells := 0, slots := 0, locals := 139 }) (rw_P (dC, dI) vwCl (TSw cA a0 aR aM aW aP aS aC aO nW nE R f us P S sc li rc rn ro rd st) [(cA, .int)] sz [.ref aM, .int a1, .ref aR]) (va_Qi (fun (r : Int32) (u : (Nat → Int32) × Int32 × (Nat → Int32) × (Nat → Int32) × Int32 × Int32 × (Nat → Int32) × Int32 × (Nat → Int32) × Int32 × Int32) => post r u.1 u.2.1 u.2.2.1 u.2.2.2.1 u.2.2.2.2.1 u.2.2.2.2.2.1 u.2.2.2.2.2.2.1 u.2.2.2.2.2.2.2.1 u.2.2.2.2.2.2.2.2.1 u.2.2.2.2.2.2.2.2.2.1 u.2.2.2.2.2.2.2.2.2.2) (rw_B (dC, dI) vwCl [(cA, .int)] (va_A (TSw cA a0 aR aM aW aP aS aC aO nW nE R f us P S sc li rc rn ro rd st) sz) (fun u : (Nat → Int32) × Int32 × (Nat → Int32) × (Nat → Int32) × Int32 × Int32 × (Nat → Int32) × Int32 × (Nat → Int32) × Int32 × Int32 => TSw cA a0 aR aM aW aP aS aC aO nW nE R u.1 u.2.1 u.2.2.1 u.2.2.2.1 u.2.2.2.2.1 u.2.2.2.2.2.1 u.2.2.2.2.2.2.1 u.2.2.2.2.2.2.2.1 u.2.2.2.2.2.2.2.2.1 u.2.2.2.2.2.2.2.2.2.1 u.2.2.2.2.2.2.2.2.2.2)) (va_A (TSw cA a0 aR aM aW aP aS aC aO nW nE R f us P S sc li rc rn ro rd st) sz)) 0 0 (va_A (TSw cA a0 aR aM aW aP aS aC aO nW nE R f us P S sc li rc rn ro rd st) sz) := by
  refine Met.ofW (cc := c_M_buildLike) (maxL := 5) (ret := (some .int)) (by decide) rfl ?_
  intro p e s m args below meth c s₁ B hml hv
  obtain ⟨rfl, hsz, hP, hK, hD0⟩ := hv
  have hx := B.exec
  have hb := B.bytes
  have hr9 := B.returns
  have hts := atoms_spec (ws := ws_M_buildLike) B.pre
  have hw : ∀ w ∈ WB_, w.before _ s = true := fun w h => hts w (List.mem_cons_of_mem _ h)
  have hown : s.vm.findClass R_M = some m.cls := findClass_of_methodNamed B.named
  have hlocks := B.notSynchronized
  subst hsz
  have hD := hD0.self (sz := s.heap.size)
  generalize hAe : va_A (TSw cA a0 aR aM aW aP aS aC aO nW nE R f us P S sc li rc rn ro rd st) s.heap.size = A at hD ⊢
  have hA : ∀ q : Nat, s.heap.size ≤ q → A q := fun q h => by rw [← hAe]; exact Or.inr h
  have hS : va_S A s.heap s.heap [] := va_S.rf
  have hl := lv_entry ([.ref aM, .int a1, .ref aR]) (n := 5) (Nat.le_of_ble_eq_true rfl)
  rw [lg_entry_eq]
  generalize (lg_sl ([.ref aM, .int a1, .ref aR]) ++ List.replicate (5 - (lg_sl ([.ref aM, .int a1, .ref aR])).length) Slot.unset).toArray = ls at hl ⊢
  have hl : lv_has ls 5 [(0, .ref aM), (1, .int a1), (2, .ref aR)] := hl
  unfold wqM_buildLike at h
  refine lv_aload_n hx hb d_M_buildLike_0 rfl (lv_at hl 0 rfl) ?_
  refine va_get (D := (dC, dI)) (ci := 1) (v := .ref aW) (C := R_M) (T := T_M) (N := 11) hx hb hw in_M hown hK hP 2 rfl rfl 0 (by decide) (hw _ wd_63) (fun _ h9 => h9) rfl d_M_buildLike_1 ?_
  refine lv_aload_n hx hb d_M_buildLike_4 rfl (lv_at hl 0 rfl) ?_
  refine lv_iload_n hx hb d_M_buildLike_5 rfl (lv_at hl 1 rfl) ?_
  refine rq_calli (W.runV (As := [.int a1]) (rest := [.ref aW]) ⟨hx, hb, hml, hown, hw⟩ (mM_place l dC dI cA a0 aR aM aW aP aS aC aO nW nE R f us P S sc li rc rn ro rd st a1 _ h) (cwV 1 hw g_M_46 rfl rfl rfl (by decide +kernel) ⟨Nat.le_of_ble_eq_true rfl, Nat.le_of_ble_eq_true rfl⟩) (ro_PV (ci := 1) (q0 := 2) hK hP rfl rfl) rfl rfl hl.1 rfl (lv_room (Nat.le_of_ble_eq_true rfl)) d_M_buildLike_6 ⟨Nat.le_of_ble_eq_true rfl, Nat.le_of_ble_eq_true rfl⟩) (fun r6 h => ?_)
  refine lv_iconst (v := (3 : Int32)) hx hb d_M_buildLike_9 (by decide) ?_
  refine lv_iadd hx hb d_M_buildLike_10 ?_
  refine va_iald hx hb hK hP 3 0 rfl rfl h.1 d_M_buildLike_11 ?_
  have h := h.2
  refine lv_istore_n (lv' := [(3, .int (f (r6 + (3 : Int32)).toNatClampNeg)), (0, .ref aM), (1, .int a1), (2, .ref aR)]) hx hb d_M_buildLike_12 rfl hl (by decide) rfl (fun ls hl => ?_)
  refine lv_aload_n hx hb d_M_buildLike_13 rfl (lv_at hl 1 rfl) ?_
  refine lv_aload_n hx hb d_M_buildLike_14 rfl (lv_at hl 1 rfl) ?_
  refine lv_iload_n hx hb d_M_buildLike_15 rfl (lv_at hl 2 rfl) ?_
  refine rq_calli (W.runV (As := [.int a1]) (rest := [.ref aM]) ⟨hx, hb, hml, hown, hw⟩ (mM_itsClass l dC dI cA a0 aR aM aW aP aS aC aO nW nE R f us P S sc li rc rn ro rd st a1 _ h) (cwV 1 hw g_M_79 rfl rfl rfl (by decide +kernel) ⟨Nat.le_of_ble_eq_true rfl, Nat.le_of_ble_eq_true rfl⟩) (ro_PV (ci := 1) (q0 := 2) hK hP rfl rfl) rfl rfl hl.1 rfl (lv_room (Nat.le_of_ble_eq_true rfl)) d_M_buildLike_16 ⟨Nat.le_of_ble_eq_true rfl, Nat.le_of_ble_eq_true rfl⟩) (fun r16 h => ?_)
  refine lv_iload_n hx hb d_M_buildLike_19 rfl (lv_at hl 0 rfl) ?_
  refine lv_aload_n hx hb d_M_buildLike_20 rfl (lv_at hl 3 rfl) ?_
  have hFc := va_free (wc := TSw cA a0 aR aM aW aP aS aC aO nW nE R f us P S sc li rc rn ro rd st) hD hS hA [0, 1, 2, 3, 4, 5, 6, 7] rfl
  refine va_calli (va_runV (As := [.int r16, .int (f (r6 + (3 : Int32)).toNatClampNeg), .ref aR]) (rest := []) ⟨hx, hb, hml, hown, hw⟩ (mM_build l dC dI cA a0 aR aM aW aP aS aC aO nW nE s.heap.size R f us P S sc li rc rn ro rd st r16 (f (r6 + (3 : Int32)).toNatClampNeg) _ h) (cwV 3 hw g_M_82 rfl rfl rfl (by decide +kernel) ⟨Nat.le_of_ble_eq_true rfl, Nat.le_of_ble_eq_true rfl⟩) (rw_PV (ci := 1) (q0 := 2) hK hP hD rfl rfl) rfl rfl hl.1 rfl (lv_room (Nat.le_of_ble_eq_true rfl)) d_M_buildLike_21 ⟨Nat.le_of_ble_eq_true rfl, Nat.le_of_ble_eq_true rfl⟩) hS (fun q _ h => hFc q h) hFc (fun r21 u t H locs ht hvm h hB hz1 hk1 hS => ?_)
  obtain ⟨f_21, us_21, P_21, S_21, sc_21, li_21, rc_21, rn_21, ro_21, rd_21, st_21⟩ := u
  obtain ⟨hP, hK1, hD1⟩ := hB
  rw [ht] at hP
  have hD := hD1.weaken (fun _ _ _ q => hFc _ q)
  clear hFc hD1 hK1
  try dsimp only at h
  have hP : va_P (dC, dI) vwCl (TSw cA a0 aR aM aW aP aS aC aO nW nE R f_21 us_21 P_21 S_21 sc_21 li_21 rc_21 rn_21 ro_21 rd_21 st_21) H := hP
  have hD : va_D A (TSw cA a0 aR aM aW aP aS aC aO nW nE R f_21 us_21 P_21 S_21 sc_21 li_21 rc_21 rn_21 ro_21 rd_21 st_21) := hD
  refine lv_istore (lv' := [(4, .int r21), (3, .int (f (r6 + (3 : Int32)).toNatClampNeg)), (0, .ref aM), (1, .int a1), (2, .ref aR)]) hx hb d_M_buildLike_24 hl (by decide) rfl (fun ls hl => ?_)
  refine lv_iload hx hb d_M_buildLike_26 (lv_at hl 0 rfl) ?_
  refine lv_if_eq (tgt := 61) hx hb d_M_buildLike_28 (by decide) (fun c_28 => ?_) (fun c_28 => ?_)
  · have h := h.1 c_28
    refine lv_iload hx hb d_M_buildLike_61 (lv_at hl 0 rfl) ?_
    exact W.iret (v := r21) hx hb hr9 (fun t ht hW => ⟨⟨_, (f_21, us_21, P_21, S_21, sc_21, li_21, rc_21, rn_21, ro_21, rd_21, st_21), rfl, h, by rw [ht]; exact hP, va_K.moved hW.alike hK, hD⟩, hS.F ht⟩) hS.2.2 d_M_buildLike_63
  · have h := h.2 c_28
    refine lv_aload_n hx hb d_M_buildLike_31 rfl (lv_at hl 2 rfl) ?_
    refine va_get (D := (dC, dI)) (ci := 1) (v := .ref aW) (C := R_M) (T := T_M) (N := 11) hx hb hw in_M hown hK hP 2 rfl rfl 0 (by decide) (hw _ wd_63) (fun _ h9 => h9) rfl d_M_buildLike_32 ?_
    refine lv_aload_n hx hb d_M_buildLike_35 rfl (lv_at hl 2 rfl) ?_
    refine lv_iload_n hx hb d_M_buildLike_36 rfl (lv_at hl 3 rfl) ?_
    refine rq_calli (W.runV (As := [.int a1]) (rest := [.ref aW]) ⟨hx, hb, hml, hown, hw⟩ (mM_place l dC dI cA a0 aR aM aW aP aS aC aO nW nE R f_21 us_21 P_21 S_21 sc_21 li_21 rc_21 rn_21 ro_21 rd_21 st_21 a1 _ h) (cwV 1 hw g_M_46 rfl rfl rfl (by decide +kernel) ⟨Nat.le_of_ble_eq_true rfl, Nat.le_of_ble_eq_true rfl⟩) (ro_PV (ci := 1) (q0 := 2) hK hP rfl rfl) rfl rfl hl.1 rfl (lv_room (Nat.le_of_ble_eq_true rfl)) d_M_buildLike_37 ⟨Nat.le_of_ble_eq_true rfl, Nat.le_of_ble_eq_true rfl⟩) (fun r37 h => ?_)
    refine lv_iconst (v := (4 : Int32)) hx hb d_M_buildLike_40 (by decide) ?_
    refine lv_iadd hx hb d_M_buildLike_41 ?_
    refine lv_aload_n hx hb d_M_buildLike_42 rfl (lv_at hl 2 rfl) ?_
    refine va_get (D := (dC, dI)) (ci := 1) (v := .ref aW) (C := R_M) (T := T_M) (N := 11) hx hb hw in_M hown hK hP 2 rfl rfl 0 (by decide) (hw _ wd_63) (fun _ h9 => h9) rfl d_M_buildLike_43 ?_
    refine lv_aload_n hx hb d_M_buildLike_46 rfl (lv_at hl 2 rfl) ?_
    refine lv_iload hx hb d_M_buildLike_47 (lv_at hl 0 rfl) ?_
    refine rq_calli (W.runV (As := [.int r21]) (rest := [.ref aW, .int (r37 + (4 : Int32)), .ref aW]) ⟨hx, hb, hml, hown, hw⟩ (mM_place l dC dI cA a0 aR aM aW aP aS aC aO nW nE R f_21 us_21 P_21 S_21 sc_21 li_21 rc_21 rn_21 ro_21 rd_21 st_21 r21 _ h) (cwV 1 hw g_M_46 rfl rfl rfl (by decide +kernel) ⟨Nat.le_of_ble_eq_true rfl, Nat.le_of_ble_eq_true rfl⟩) (ro_PV (ci := 1) (q0 := 2) hK hP rfl rfl) rfl rfl hl.1 rfl (lv_room (Nat.le_of_ble_eq_true rfl)) d_M_buildLike_49 ⟨Nat.le_of_ble_eq_true rfl, Nat.le_of_ble_eq_true rfl⟩) (fun r49 h => ?_)
    refine lv_iconst (v := (4 : Int32)) hx hb d_M_buildLike_52 (by decide) ?_
    refine lv_iadd hx hb d_M_buildLike_53 ?_
    refine lv_iload_n hx hb d_M_buildLike_54 rfl (lv_at hl 1 rfl) ?_
    refine rq_calli (W.runS (As := [.int (f (r6 + (3 : Int32)).toNatClampNeg)]) (rest := [.int (r49 + (4 : Int32)), .ref aW, .int (r37 + (4 : Int32)), .ref aW]) ⟨hx, hb, hml, hown, hw⟩ (mM_bodyWords l (f (r6 + (3 : Int32)).toNatClampNeg) _ h) (va_cwS 1 hw g_M_63 rfl rfl rfl (by decide +kernel) ⟨Nat.le_of_ble_eq_true rfl, Nat.le_of_ble_eq_true rfl⟩) preEq rfl rfl hl.1 rfl (lv_room (Nat.le_of_ble_eq_true rfl)) d_M_buildLike_55 ⟨Nat.le_of_ble_eq_true rfl, Nat.le_of_ble_eq_true rfl⟩) (fun r55 h => ?_)
    obtain ⟨k1, k2, k3, k4, k5, h⟩ := h
    refine va_copyi hx hb (hml.trans hl.1.symm) hown (hw _ wd_156) (hw _ wd_158) (hw _ wd_157) (hw _ wd_41) hK hP hD hS 3 3 0 0 rfl rfl rfl rfl rfl k1 k2 k3 k4 k5 (fun _ _ => rfl) (Nat.le_of_ble_eq_true rfl) (Nat.le_of_ble_eq_true rfl) d_M_buildLike_58 (fun H locs hP hD hS => ?_)
    have hP : va_P (dC, dI) vwCl (TSw cA a0 aR aM aW aP aS aC aO nW nE R (va_cpy f_21 f_21 (r37 + (4 : Int32)).toNatClampNeg (r49 + (4 : Int32)).toNatClampNeg r55.toNatClampNeg) us_21 P_21 S_21 sc_21 li_21 rc_21 rn_21 ro_21 rd_21 st_21) H := hP
    have hD : va_D A (TSw cA a0 aR aM aW aP aS aC aO nW nE R (va_cpy f_21 f_21 (r37 + (4 : Int32)).toNatClampNeg (r49 + (4 : Int32)).toNatClampNeg r55.toNatClampNeg) us_21 P_21 S_21 sc_21 li_21 rc_21 rn_21 ro_21 rd_21 st_21) := hD
    refine lv_iload hx hb d_M_buildLike_61 (lv_at hl 0 rfl) ?_
    exact W.iret (v := r21) hx hb hr9 (fun t ht hW => ⟨⟨_, (va_cpy f_21 f_21 (r37 + (4 : Int32)).toNatClampNeg (r49 + (4 : Int32)).toNatClampNeg r55.toNatClampNeg, us_21, P_21, S_21, sc_21, li_21, rc_21, rn_21, ro_21, rd_21, st_21), rfl, h, by rw [ht]; exact hP, va_K.moved hW.alike hK, hD⟩, hS.F ht⟩) hS.2.2 d_M_buildLike_63

def wqV_ofNumber (a1 : Int32) (post : Int32 → Prop) : Prop :=
  post (((2 : Int32) * a1) + (1 : Int32))
set_option maxHeartbeats 4000000 in
set_option maxRecDepth 100000 in
theorem mV_ofNumber (l : Launch) (a1 : Int32) (post : Int32 → Prop) (h : wqV_ofNumber a1 post) : Met l y_V_ofNumber ws_V_ofNumber ({ frames := 0, cells := 0, slots := 0, locals := 0 }) (fun v _ => v = ([.int a1] : List Value).toArray) (rq_i post) 0 0 (fun _ => False) := by
  refine Met.ofW (cc := c_V_ofNumber) (maxL := 1) (ret := (some .int)) (by decide) rfl ?_
  intro p e s m args below meth c s₁ B hml hv
  subst hv
  have hx := B.exec
  have hb := B.bytes
  have hr9 := B.returns
  have hts := atoms_spec (ws := ws_V_ofNumber) B.pre
  have hw : ∀ w ∈ WB_, w.before _ s = true := fun w h => hts w (List.mem_cons_of_mem _ h)
  have hown : s.vm.findClass R_V = some m.cls := findClass_of_methodNamed B.named
  have hlocks := B.notSynchronized
  have hl := lv_entry ([.int a1]) (n := 1) (Nat.le_of_ble_eq_true rfl)
  rw [lg_entry_eq]
  generalize (lg_sl ([.int a1]) ++ List.replicate (1 - (lg_sl ([.int a1])).length) Slot.unset).toArray = ls at hl ⊢
  have hl : lv_has ls 1 [(0, .int a1)] := hl
  unfold wqV_ofNumber at h
  refine lv_iconst (v := (2 : Int32)) hx hb d_V_ofNumber_0 (by decide) ?_
  refine lv_iload_n hx hb d_V_ofNumber_1 rfl (lv_at hl 0 rfl) ?_
  refine lv_imul hx hb d_V_ofNumber_2 ?_
  refine lv_iconst (v := (1 : Int32)) hx hb d_V_ofNumber_3 (by decide) ?_
  refine lv_iadd hx hb d_V_ofNumber_4 ?_
  exact W.iret (v := ((2 : Int32) * a1) + (1 : Int32)) hx hb hr9 (fun t ht hW => ⟨_, rfl, h, ht⟩) (fun _ h9 => nomatch h9) d_V_ofNumber_5
def wqV_ofEntry (a1 : Int32) (post : Int32 → Prop) : Prop :=
  post (((2 : Int32) * a1) + (2 : Int32))
set_option maxHeartbeats 4000000 in
set_option maxRecDepth 100000 in
theorem mV_ofEntry (l : Launch) (a1 : Int32) (post : Int32 → Prop) (h : wqV_ofEntry a1 post) : Met l y_V_ofEntry ws_V_ofEntry ({ frames := 0, cells := 0, slots := 0, locals := 0 }) (fun v _ => v = ([.int a1] : List Value).toArray) (rq_i post) 0 0 (fun _ => False) := by
  refine Met.ofW (cc := c_V_ofEntry) (maxL := 1) (ret := (some .int)) (by decide) rfl ?_
  intro p e s m args below meth c s₁ B hml hv
  subst hv
  have hx := B.exec
  have hb := B.bytes
  have hr9 := B.returns
  have hts := atoms_spec (ws := ws_V_ofEntry) B.pre
  have hw : ∀ w ∈ WB_, w.before _ s = true := fun w h => hts w (List.mem_cons_of_mem _ h)
  have hown : s.vm.findClass R_V = some m.cls := findClass_of_methodNamed B.named
  have hlocks := B.notSynchronized
  have hl := lv_entry ([.int a1]) (n := 1) (Nat.le_of_ble_eq_true rfl)
  rw [lg_entry_eq]
  generalize (lg_sl ([.int a1]) ++ List.replicate (1 - (lg_sl ([.int a1])).length) Slot.unset).toArray = ls at hl ⊢
  have hl : lv_has ls 1 [(0, .int a1)] := hl
  unfold wqV_ofEntry at h
  refine lv_iconst (v := (2 : Int32)) hx hb d_V_ofEntry_0 (by decide) ?_
  refine lv_iload_n hx hb d_V_ofEntry_1 rfl (lv_at hl 0 rfl) ?_
  refine lv_imul hx hb d_V_ofEntry_2 ?_
  refine lv_iconst (v := (2 : Int32)) hx hb d_V_ofEntry_3 (by decide) ?_
  refine lv_iadd hx hb d_V_ofEntry_4 ?_
  exact W.iret (v := ((2 : Int32) * a1) + (2 : Int32)) hx hb hr9 (fun t ht hW => ⟨_, rfl, h, ht⟩) (fun _ h9 => nomatch h9) d_V_ofEntry_5
def wqV_isNumber (a1 : Int32) (post : Int32 → Prop) : Prop :=
  ((a1 &&& (1 : Int32)) = 0 → (post (0 : Int32))) ∧ (¬ ((a1 &&& (1 : Int32)) = 0) → (post (1 : Int32)))
set_option maxHeartbeats 4000000 in
set_option maxRecDepth 100000 in
theorem mV_isNumber (l : Launch) (a1 : Int32) (post : Int32 → Prop) (h : wqV_isNumber a1 post) : Met l y_V_isNumber ws_V_isNumber ({ frames := 0, cells := 0, slots := 0, locals := 0 }) (fun v _ => v = ([.int a1] : List Value).toArray) (rq_i post) 0 0 (fun _ => False) := by
  refine Met.ofW (cc := c_V_isNumber) (maxL := 1) (ret := (some .boolean)) (by decide) rfl ?_
  intro p e s m args below meth c s₁ B hml hv
  subst hv
  have hx := B.exec
  have hb := B.bytes
  have hr9 := B.returns
  have hts := atoms_spec (ws := ws_V_isNumber) B.pre
  have hw : ∀ w ∈ WB_, w.before _ s = true := fun w h => hts w (List.mem_cons_of_mem _ h)
  have hown : s.vm.findClass R_V = some m.cls := findClass_of_methodNamed B.named
  have hlocks := B.notSynchronized
  have hl := lv_entry ([.int a1]) (n := 1) (Nat.le_of_ble_eq_true rfl)
  rw [lg_entry_eq]
  generalize (lg_sl ([.int a1]) ++ List.replicate (1 - (lg_sl ([.int a1])).length) Slot.unset).toArray = ls at hl ⊢
  have hl : lv_has ls 1 [(0, .int a1)] := hl
  unfold wqV_isNumber at h
  refine lv_iload_n hx hb d_V_isNumber_0 rfl (lv_at hl 0 rfl) ?_
  refine lv_iconst (v := (1 : Int32)) hx hb d_V_isNumber_1 (by decide) ?_
  refine lv_iand hx hb d_V_isNumber_2 ?_
  refine lv_if_eq (tgt := 10) hx hb d_V_isNumber_3 (by decide) (fun c_3 => ?_) (fun c_3 => ?_)
  · have h := h.1 c_3
    refine lv_iconst (v := (0 : Int32)) hx hb d_V_isNumber_10 (by decide) ?_
    exact W.zret (v := (0 : Int32)) (ty := .boolean) hx hb hr9 rfl (fun t ht hW => ⟨_, rfl, h, ht⟩) (fun _ h9 => nomatch h9) d_V_isNumber_11
  · have h := h.2 c_3
    refine lv_iconst (v := (1 : Int32)) hx hb d_V_isNumber_6 (by decide) ?_
    refine lv_goto (tgt := 11) hx hb d_V_isNumber_7 (by decide) ?_
    exact W.zret (v := (1 : Int32)) (ty := .boolean) hx hb hr9 rfl (fun t ht hW => ⟨_, rfl, h, ht⟩) (fun _ h9 => nomatch h9) d_V_isNumber_11
def wqV_isObject (a1 : Int32) (post : Int32 → Prop) : Prop :=
  (a1 = 0 → (post (0 : Int32))) ∧ (¬ (a1 = 0) → (((a1 &&& (1 : Int32)) = 0 → (post (1 : Int32))) ∧ (¬ ((a1 &&& (1 : Int32)) = 0) → (post (0 : Int32)))))
set_option maxHeartbeats 4000000 in
set_option maxRecDepth 100000 in
theorem mV_isObject (l : Launch) (a1 : Int32) (post : Int32 → Prop) (h : wqV_isObject a1 post) : Met l y_V_isObject ws_V_isObject ({ frames := 0, cells := 0, slots := 0, locals := 0 }) (fun v _ => v = ([.int a1] : List Value).toArray) (rq_i post) 0 0 (fun _ => False) := by
  refine Met.ofW (cc := c_V_isObject) (maxL := 1) (ret := (some .boolean)) (by decide) rfl ?_
  intro p e s m args below meth c s₁ B hml hv
  subst hv
  have hx := B.exec
  have hb := B.bytes
  have hr9 := B.returns
  have hts := atoms_spec (ws := ws_V_isObject) B.pre
  have hw : ∀ w ∈ WB_, w.before _ s = true := fun w h => hts w (List.mem_cons_of_mem _ h)
  have hown : s.vm.findClass R_V = some m.cls := findClass_of_methodNamed B.named
  have hlocks := B.notSynchronized
  have hl := lv_entry ([.int a1]) (n := 1) (Nat.le_of_ble_eq_true rfl)
  rw [lg_entry_eq]
  generalize (lg_sl ([.int a1]) ++ List.replicate (1 - (lg_sl ([.int a1])).length) Slot.unset).toArray = ls at hl ⊢
  have hl : lv_has ls 1 [(0, .int a1)] := hl
  unfold wqV_isObject at h
  refine lv_iload_n hx hb d_V_isObject_0 rfl (lv_at hl 0 rfl) ?_
  refine lv_if_eq (tgt := 14) hx hb d_V_isObject_1 (by decide) (fun c_1 => ?_) (fun c_1 => ?_)
  · have h := h.1 c_1
    refine lv_iconst (v := (0 : Int32)) hx hb d_V_isObject_14 (by decide) ?_
    exact W.zret (v := (0 : Int32)) (ty := .boolean) hx hb hr9 rfl (fun t ht hW => ⟨_, rfl, h, ht⟩) (fun _ h9 => nomatch h9) d_V_isObject_15
  · have h := h.2 c_1
    refine lv_iload_n hx hb d_V_isObject_4 rfl (lv_at hl 0 rfl) ?_
    refine lv_iconst (v := (1 : Int32)) hx hb d_V_isObject_5 (by decide) ?_
    refine lv_iand hx hb d_V_isObject_6 ?_
    refine lv_if_ne (tgt := 14) hx hb d_V_isObject_7 (by decide) (fun c_7 => ?_) (fun c_7 => ?_)
    · have h := h.2 c_7
      refine lv_iconst (v := (0 : Int32)) hx hb d_V_isObject_14 (by decide) ?_
      exact W.zret (v := (0 : Int32)) (ty := .boolean) hx hb hr9 rfl (fun t ht hW => ⟨_, rfl, h, ht⟩) (fun _ h9 => nomatch h9) d_V_isObject_15
    · have h := h.1 c_7
      refine lv_iconst (v := (1 : Int32)) hx hb d_V_isObject_10 (by decide) ?_
      refine lv_goto (tgt := 15) hx hb d_V_isObject_11 (by decide) ?_
      exact W.zret (v := (1 : Int32)) (ty := .boolean) hx hb hr9 rfl (fun t ht hW => ⟨_, rfl, h, ht⟩) (fun _ h9 => nomatch h9) d_V_isObject_15
def wqV_toNumber (a1 : Int32) (post : Int32 → Prop) : Prop :=
  post (a1 >>> ((1 : Int32) &&& 31))
set_option maxHeartbeats 4000000 in
set_option maxRecDepth 100000 in
theorem mV_toNumber (l : Launch) (a1 : Int32) (post : Int32 → Prop) (h : wqV_toNumber a1 post) : Met l y_V_toNumber ws_V_toNumber ({ frames := 0, cells := 0, slots := 0, locals := 0 }) (fun v _ => v = ([.int a1] : List Value).toArray) (rq_i post) 0 0 (fun _ => False) := by
  refine Met.ofW (cc := c_V_toNumber) (maxL := 1) (ret := (some .int)) (by decide) rfl ?_
  intro p e s m args below meth c s₁ B hml hv
  subst hv
  have hx := B.exec
  have hb := B.bytes
  have hr9 := B.returns
  have hts := atoms_spec (ws := ws_V_toNumber) B.pre
  have hw : ∀ w ∈ WB_, w.before _ s = true := fun w h => hts w (List.mem_cons_of_mem _ h)
  have hown : s.vm.findClass R_V = some m.cls := findClass_of_methodNamed B.named
  have hlocks := B.notSynchronized
  have hl := lv_entry ([.int a1]) (n := 1) (Nat.le_of_ble_eq_true rfl)
  rw [lg_entry_eq]
  generalize (lg_sl ([.int a1]) ++ List.replicate (1 - (lg_sl ([.int a1])).length) Slot.unset).toArray = ls at hl ⊢
  have hl : lv_has ls 1 [(0, .int a1)] := hl
  unfold wqV_toNumber at h
  refine lv_iload_n hx hb d_V_toNumber_0 rfl (lv_at hl 0 rfl) ?_
  refine lv_iconst (v := (1 : Int32)) hx hb d_V_toNumber_1 (by decide) ?_
  refine lv_ishr hx hb d_V_toNumber_2 ?_
  exact W.iret (v := a1 >>> ((1 : Int32) &&& 31)) hx hb hr9 (fun t ht hW => ⟨_, rfl, h, ht⟩) (fun _ h9 => nomatch h9) d_V_toNumber_3
def wqV_toEntry (a1 : Int32) (post : Int32 → Prop) : Prop :=
  post ((a1 >>> ((1 : Int32) &&& 31)) - (1 : Int32))
set_option maxHeartbeats 4000000 in
set_option maxRecDepth 100000 in
theorem mV_toEntry (l : Launch) (a1 : Int32) (post : Int32 → Prop) (h : wqV_toEntry a1 post) : Met l y_V_toEntry ws_V_toEntry ({ frames := 0, cells := 0, slots := 0, locals := 0 }) (fun v _ => v = ([.int a1] : List Value).toArray) (rq_i post) 0 0 (fun _ => False) := by
  refine Met.ofW (cc := c_V_toEntry) (maxL := 1) (ret := (some .int)) (by decide) rfl ?_
  intro p e s m args below meth c s₁ B hml hv
  subst hv
  have hx := B.exec
  have hb := B.bytes
  have hr9 := B.returns
  have hts := atoms_spec (ws := ws_V_toEntry) B.pre
  have hw : ∀ w ∈ WB_, w.before _ s = true := fun w h => hts w (List.mem_cons_of_mem _ h)
  have hown : s.vm.findClass R_V = some m.cls := findClass_of_methodNamed B.named
  have hlocks := B.notSynchronized
  have hl := lv_entry ([.int a1]) (n := 1) (Nat.le_of_ble_eq_true rfl)
  rw [lg_entry_eq]
  generalize (lg_sl ([.int a1]) ++ List.replicate (1 - (lg_sl ([.int a1])).length) Slot.unset).toArray = ls at hl ⊢
  have hl : lv_has ls 1 [(0, .int a1)] := hl
  unfold wqV_toEntry at h
  refine lv_iload_n hx hb d_V_toEntry_0 rfl (lv_at hl 0 rfl) ?_
  refine lv_iconst (v := (1 : Int32)) hx hb d_V_toEntry_1 (by decide) ?_
  refine lv_ishr hx hb d_V_toEntry_2 ?_
  refine lv_iconst (v := (1 : Int32)) hx hb d_V_toEntry_3 (by decide) ?_
  refine lv_isub hx hb d_V_toEntry_4 ?_
  exact W.iret (v := (a1 >>> ((1 : Int32) &&& 31)) - (1 : Int32)) hx hb hr9 (fun t ht hW => ⟨_, rfl, h, ht⟩) (fun _ h9 => nomatch h9) d_V_toEntry_5
def wqM_shape (a1 : Int32) (a2 : Int32) (post : Int32 → Prop) : Prop :=
  (a2 = 0 → (post (((2 : Int32) * a1) + (1 : Int32)))) ∧ (¬ (a2 = 0) → (post ((2 : Int32) * a1)))
set_option maxHeartbeats 4000000 in
set_option maxRecDepth 100000 in
theorem mM_shape (l : Launch) (a1 : Int32) (a2 : Int32) (post : Int32 → Prop) (h : wqM_shape a1 a2 post) : Met l y_M_shape ws_M_shape ({ frames := 0, cells := 0, slots := 0, locals := 0 }) (fun v _ => v = ([.int a1, .int a2] : List Value).toArray) (rq_i post) 0 0 (fun _ => False) := by
  refine Met.ofW (cc := c_M_shape) (maxL := 2) (ret := (some .int)) (by decide) rfl ?_
  intro p e s m args below meth c s₁ B hml hv
  subst hv
  have hx := B.exec
  have hb := B.bytes
  have hr9 := B.returns
  have hts := atoms_spec (ws := ws_M_shape) B.pre
  have hw : ∀ w ∈ WB_, w.before _ s = true := fun w h => hts w (List.mem_cons_of_mem _ h)
  have hown : s.vm.findClass R_M = some m.cls := findClass_of_methodNamed B.named
  have hlocks := B.notSynchronized
  have hl := lv_entry ([.int a1, .int a2]) (n := 2) (Nat.le_of_ble_eq_true rfl)
  rw [lg_entry_eq]
  generalize (lg_sl ([.int a1, .int a2]) ++ List.replicate (2 - (lg_sl ([.int a1, .int a2])).length) Slot.unset).toArray = ls at hl ⊢
  have hl : lv_has ls 2 [(0, .int a1), (1, .int a2)] := hl
  unfold wqM_shape at h
  refine lv_iload_n hx hb d_M_shape_0 rfl (lv_at hl 1 rfl) ?_
  refine lv_if_eq (tgt := 10) hx hb d_M_shape_1 (by decide) (fun c_1 => ?_) (fun c_1 => ?_)
  · have h := h.1 c_1
    refine lv_iconst (v := (2 : Int32)) hx hb d_M_shape_10 (by decide) ?_
    refine lv_iload_n hx hb d_M_shape_11 rfl (lv_at hl 0 rfl) ?_
    refine lv_imul hx hb d_M_shape_12 ?_
    refine lv_iconst (v := (1 : Int32)) hx hb d_M_shape_13 (by decide) ?_
    refine lv_iadd hx hb d_M_shape_14 ?_
    exact W.iret (v := ((2 : Int32) * a1) + (1 : Int32)) hx hb hr9 (fun t ht hW => ⟨_, rfl, h, ht⟩) (fun _ h9 => nomatch h9) d_M_shape_15
  · have h := h.2 c_1
    refine lv_iconst (v := (2 : Int32)) hx hb d_M_shape_4 (by decide) ?_
    refine lv_iload_n hx hb d_M_shape_5 rfl (lv_at hl 0 rfl) ?_
    refine lv_imul hx hb d_M_shape_6 ?_
    refine lv_goto (tgt := 15) hx hb d_M_shape_7 (by decide) ?_
    exact W.iret (v := (2 : Int32) * a1) hx hb hr9 (fun t ht hW => ⟨_, rfl, h, ht⟩) (fun _ h9 => nomatch h9) d_M_shape_15
def wqM_isOfBytes (a1 : Int32) (post : Int32 → Prop) : Prop :=
  ((a1 &&& (1 : Int32)) = 0 → (post (0 : Int32))) ∧ (¬ ((a1 &&& (1 : Int32)) = 0) → (post (1 : Int32)))
set_option maxHeartbeats 4000000 in
set_option maxRecDepth 100000 in
theorem mM_isOfBytes (l : Launch) (a1 : Int32) (post : Int32 → Prop) (h : wqM_isOfBytes a1 post) : Met l y_M_isOfBytes ws_M_isOfBytes ({ frames := 0, cells := 0, slots := 0, locals := 0 }) (fun v _ => v = ([.int a1] : List Value).toArray) (rq_i post) 0 0 (fun _ => False) := by
  refine Met.ofW (cc := c_M_isOfBytes) (maxL := 1) (ret := (some .boolean)) (by decide) rfl ?_
  intro p e s m args below meth c s₁ B hml hv
  subst hv
  have hx := B.exec
  have hb := B.bytes
  have hr9 := B.returns
  have hts := atoms_spec (ws := ws_M_isOfBytes) B.pre
  have hw : ∀ w ∈ WB_, w.before _ s = true := fun w h => hts w (List.mem_cons_of_mem _ h)
  have hown : s.vm.findClass R_M = some m.cls := findClass_of_methodNamed B.named
  have hlocks := B.notSynchronized
  have hl := lv_entry ([.int a1]) (n := 1) (Nat.le_of_ble_eq_true rfl)
  rw [lg_entry_eq]
  generalize (lg_sl ([.int a1]) ++ List.replicate (1 - (lg_sl ([.int a1])).length) Slot.unset).toArray = ls at hl ⊢
  have hl : lv_has ls 1 [(0, .int a1)] := hl
  unfold wqM_isOfBytes at h
  refine lv_iload_n hx hb d_M_isOfBytes_0 rfl (lv_at hl 0 rfl) ?_
  refine lv_iconst (v := (1 : Int32)) hx hb d_M_isOfBytes_1 (by decide) ?_
  refine lv_iand hx hb d_M_isOfBytes_2 ?_
  refine lv_if_eq (tgt := 10) hx hb d_M_isOfBytes_3 (by decide) (fun c_3 => ?_) (fun c_3 => ?_)
  · have h := h.1 c_3
    refine lv_iconst (v := (0 : Int32)) hx hb d_M_isOfBytes_10 (by decide) ?_
    exact W.zret (v := (0 : Int32)) (ty := .boolean) hx hb hr9 rfl (fun t ht hW => ⟨_, rfl, h, ht⟩) (fun _ h9 => nomatch h9) d_M_isOfBytes_11
  · have h := h.2 c_3
    refine lv_iconst (v := (1 : Int32)) hx hb d_M_isOfBytes_6 (by decide) ?_
    refine lv_goto (tgt := 11) hx hb d_M_isOfBytes_7 (by decide) ?_
    exact W.zret (v := (1 : Int32)) (ty := .boolean) hx hb hr9 rfl (fun t ht hW => ⟨_, rfl, h, ht⟩) (fun _ h9 => nomatch h9) d_M_isOfBytes_11
def wqM_bodyWords (a1 : Int32) (post : Int32 → Prop) : Prop :=
  wqM_isOfBytes a1 (fun r5 => (r5 = 0 → (post (a1 >>> ((1 : Int32) &&& 31)))) ∧ (¬ (r5 = 0) → (post (((a1 >>> ((1 : Int32) &&& 31)) + (3 : Int32)) >>> ((2 : Int32) &&& 31)))))
set_option maxHeartbeats 4000000 in
set_option maxRecDepth 100000 in
theorem mM_bodyWords (l : Launch) (a1 : Int32) (post : Int32 → Prop) (h : wqM_bodyWords a1 post) : Met l y_M_bodyWords ws_M_bodyWords ({ frames := 1, cells := 0, slots := 0, locals := 20 }) (fun v _ => v = ([.int a1] : List Value).toArray) (rq_i post) 0 0 (fun _ => False) := by
  refine Met.ofW (cc := c_M_bodyWords) (maxL := 2) (ret := (some .int)) (by decide) rfl ?_
  intro p e s m args below meth c s₁ B hml hv
  subst hv
  have hx := B.exec
  have hb := B.bytes
  have hr9 := B.returns
  have hts := atoms_spec (ws := ws_M_bodyWords) B.pre
  have hw : ∀ w ∈ WB_, w.before _ s = true := fun w h => hts w (List.mem_cons_of_mem _ h)
  have hown : s.vm.findClass R_M = some m.cls := findClass_of_methodNamed B.named
  have hlocks := B.notSynchronized
  have hl := lv_entry ([.int a1]) (n := 2) (Nat.le_of_ble_eq_true rfl)
  rw [lg_entry_eq]
  generalize (lg_sl ([.int a1]) ++ List.replicate (2 - (lg_sl ([.int a1])).length) Slot.unset).toArray = ls at hl ⊢
  have hl : lv_has ls 2 [(0, .int a1)] := hl
  unfold wqM_bodyWords at h
  refine lv_iload_n hx hb d_M_bodyWords_0 rfl (lv_at hl 0 rfl) ?_
  refine lv_iconst (v := (1 : Int32)) hx hb d_M_bodyWords_1 (by decide) ?_
  refine lv_ishr hx hb d_M_bodyWords_2 ?_
  refine lv_istore_n (lv' := [(1, .int (a1 >>> ((1 : Int32) &&& 31))), (0, .int a1)]) hx hb d_M_bodyWords_3 rfl hl (by decide) rfl (fun ls hl => ?_)
  refine lv_iload_n hx hb d_M_bodyWords_4 rfl (lv_at hl 1 rfl) ?_
  refine rq_calli (W.runS (As := [.int a1]) (rest := []) ⟨hx, hb, hml, hown, hw⟩ (mM_isOfBytes l a1 _ h) (va_cwS 1 hw g_M_33 rfl rfl rfl (by decide +kernel) ⟨Nat.le_of_ble_eq_true rfl, Nat.le_of_ble_eq_true rfl⟩) preEq rfl rfl hl.1 rfl (lv_room (Nat.le_of_ble_eq_true rfl)) d_M_bodyWords_5 ⟨Nat.le_of_ble_eq_true rfl, Nat.le_of_ble_eq_true rfl⟩) (fun r5 h => ?_)
  refine lv_if_eq (tgt := 19) hx hb d_M_bodyWords_8 (by decide) (fun c_8 => ?_) (fun c_8 => ?_)
  · have h := h.1 c_8
    refine lv_iload_n hx hb d_M_bodyWords_19 rfl (lv_at hl 0 rfl) ?_
    exact W.iret (v := a1 >>> ((1 : Int32) &&& 31)) hx hb hr9 (fun t ht hW => ⟨_, rfl, h, ht⟩) (fun _ h9 => nomatch h9) d_M_bodyWords_20
  · have h := h.2 c_8
    refine lv_iload_n hx hb d_M_bodyWords_11 rfl (lv_at hl 0 rfl) ?_
    refine lv_iconst (v := (3 : Int32)) hx hb d_M_bodyWords_12 (by decide) ?_
    refine lv_iadd hx hb d_M_bodyWords_13 ?_
    refine lv_iconst (v := (2 : Int32)) hx hb d_M_bodyWords_14 (by decide) ?_
    refine lv_ishr hx hb d_M_bodyWords_15 ?_
    refine lv_goto (tgt := 20) hx hb d_M_bodyWords_16 (by decide) ?_
    exact W.iret (v := ((a1 >>> ((1 : Int32) &&& 31)) + (3 : Int32)) >>> ((2 : Int32) &&& 31)) hx hb hr9 (fun t ht hW => ⟨_, rfl, h, ht⟩) (fun _ h9 => nomatch h9) d_M_bodyWords_20
def wqM_shiftOf (a1 : Int32) (post : Int32 → Prop) : Prop :=
  post ((8 : Int32) * (a1 &&& (3 : Int32)))
set_option maxHeartbeats 4000000 in
set_option maxRecDepth 100000 in
theorem mM_shiftOf (l : Launch) (a1 : Int32) (post : Int32 → Prop) (h : wqM_shiftOf a1 post) : Met l y_M_shiftOf ws_M_shiftOf ({ frames := 0, cells := 0, slots := 0, locals := 0 }) (fun v _ => v = ([.int a1] : List Value).toArray) (rq_i post) 0 0 (fun _ => False) := by
  refine Met.ofW (cc := c_M_shiftOf) (maxL := 1) (ret := (some .int)) (by decide) rfl ?_
  intro p e s m args below meth c s₁ B hml hv
  subst hv
  have hx := B.exec
  have hb := B.bytes
  have hr9 := B.returns
  have hts := atoms_spec (ws := ws_M_shiftOf) B.pre
  have hw : ∀ w ∈ WB_, w.before _ s = true := fun w h => hts w (List.mem_cons_of_mem _ h)
  have hown : s.vm.findClass R_M = some m.cls := findClass_of_methodNamed B.named
  have hlocks := B.notSynchronized
  have hl := lv_entry ([.int a1]) (n := 1) (Nat.le_of_ble_eq_true rfl)
  rw [lg_entry_eq]
  generalize (lg_sl ([.int a1]) ++ List.replicate (1 - (lg_sl ([.int a1])).length) Slot.unset).toArray = ls at hl ⊢
  have hl : lv_has ls 1 [(0, .int a1)] := hl
  unfold wqM_shiftOf at h
  refine lv_bipush (v := (8 : Int32)) hx hb d_M_shiftOf_0 (by decide) ?_
  refine lv_iload_n hx hb d_M_shiftOf_2 rfl (lv_at hl 0 rfl) ?_
  refine lv_iconst (v := (3 : Int32)) hx hb d_M_shiftOf_3 (by decide) ?_
  refine lv_iand hx hb d_M_shiftOf_4 ?_
  refine lv_imul hx hb d_M_shiftOf_5 ?_
  exact W.iret (v := (8 : Int32) * (a1 &&& (3 : Int32))) hx hb hr9 (fun t ht hW => ⟨_, rfl, h, ht⟩) (fun _ h9 => nomatch h9) d_M_shiftOf_6
def wqM_word (nW : Nat) (nE : Nat) (f : Nat → Int32) (a1 : Int32) (post : Int32 → Prop) : Prop :=
  (a1 < 0 → (post (0 : Int32))) ∧ (¬ (a1 < 0) → (((nI nW) ≤ a1 → (post (0 : Int32))) ∧ (¬ ((nI nW) ≤ a1) → (vp_in a1 nW ∧ (post (f a1.toNatClampNeg))))))
set_option maxHeartbeats 4000000 in
set_option maxRecDepth 100000 in
theorem mM_word (l : Launch) (dC : Nat → ClassId) (dI : Nat → Nat → Nat) (cA : ClassId) (a0 : Nat) (aR : Nat) (aM : Nat) (aW : Nat) (aP : Nat) (aS : Nat) (aC : Nat) (aO : Nat) (nW : Nat) (nE : Nat) (R : Nat → Int32) (f : Nat → Int32) (us : Int32) (P : Nat → Int32) (S : Nat → Int32) (sc : Int32) (li : Int32) (rc : Nat → Int32) (rn : Int32) (ro : Nat → Int32) (rd : Int32) (st : Int32) (a1 : Int32) (post : Int32 → Prop) (h : wqM_word nW nE f a1 post) : Met l y_M_word ws_M_word ({ frames := 0, cells := 0, slots := 0, locals := 0 }) (ro_P (dC, dI) vwCl (TSw cA a0 aR aM aW aP aS aC aO nW nE R f us P S sc li rc rn ro rd st) [(cA, .int)] [.ref aM, .int a1]) (rq_i post) 0 0 (fun _ => False) := by
  refine Met.ofW (cc := c_M_word) (maxL := 2) (ret := (some .int)) (by decide) rfl ?_
  intro p e s m args below meth c s₁ B hml hv
  obtain ⟨rfl, hP, hK⟩ := hv
  have hx := B.exec
  have hb := B.bytes
  have hr9 := B.returns
  have hts := atoms_spec (ws := ws_M_word) B.pre
  have hw : ∀ w ∈ WB_, w.before _ s = true := fun w h => hts w (List.mem_cons_of_mem _ h)
  have hown : s.vm.findClass R_M = some m.cls := findClass_of_methodNamed B.named
  have hlocks := B.notSynchronized
  have hl := lv_entry ([.ref aM, .int a1]) (n := 2) (Nat.le_of_ble_eq_true rfl)
  rw [lg_entry_eq]
  generalize (lg_sl ([.ref aM, .int a1]) ++ List.replicate (2 - (lg_sl ([.ref aM, .int a1])).length) Slot.unset).toArray = ls at hl ⊢
  have hl : lv_has ls 2 [(0, .ref aM), (1, .int a1)] := hl
  unfold wqM_word at h
  refine lv_iload_n hx hb d_M_word_0 rfl (lv_at hl 1 rfl) ?_
  refine lv_if_lt (tgt := 22) hx hb d_M_word_1 (by decide) (fun c_1 => ?_) (fun c_1 => ?_)
  · have h := h.1 c_1
    refine lv_iconst (v := (0 : Int32)) hx hb d_M_word_22 (by decide) ?_
    exact W.iret (v := (0 : Int32)) hx hb hr9 (fun t ht hW => ⟨_, rfl, h, ht⟩) (fun _ h9 => nomatch h9) d_M_word_23
  · have h := h.2 c_1
    refine lv_iload_n hx hb d_M_word_4 rfl (lv_at hl 1 rfl) ?_
    refine lv_aload_n hx hb d_M_word_5 rfl (lv_at hl 0 rfl) ?_
    refine va_get (D := (dC, dI)) (ci := 1) (v := .ref aW) (C := R_M) (T := T_M) (N := 11) hx hb hw in_M hown hK hP 2 rfl rfl 0 (by decide) (hw _ wd_68) (fun _ h9 => h9) rfl d_M_word_6 ?_
    refine va_alen (v := nI nW) hx hb hK hP 3 0 rfl rfl rfl d_M_word_9 ?_
    refine lv_icmp_ge (tgt := 22) hx hb d_M_word_10 (by decide) (fun c_10 => ?_) (fun c_10 => ?_)
    · have h := h.1 c_10
      refine lv_iconst (v := (0 : Int32)) hx hb d_M_word_22 (by decide) ?_
      exact W.iret (v := (0 : Int32)) hx hb hr9 (fun t ht hW => ⟨_, rfl, h, ht⟩) (fun _ h9 => nomatch h9) d_M_word_23
    · have h := h.2 c_10
      refine lv_aload_n hx hb d_M_word_13 rfl (lv_at hl 0 rfl) ?_
      refine va_get (D := (dC, dI)) (ci := 1) (v := .ref aW) (C := R_M) (T := T_M) (N := 11) hx hb hw in_M hown hK hP 2 rfl rfl 0 (by decide) (hw _ wd_68) (fun _ h9 => h9) rfl d_M_word_14 ?_
      refine lv_iload_n hx hb d_M_word_17 rfl (lv_at hl 1 rfl) ?_
      refine va_iald hx hb hK hP 3 0 rfl rfl h.1 d_M_word_18 ?_
      have h := h.2
      refine lv_goto (tgt := 23) hx hb d_M_word_19 (by decide) ?_
      exact W.iret (v := f a1.toNatClampNeg) hx hb hr9 (fun t ht hW => ⟨_, rfl, h, ht⟩) (fun _ h9 => nomatch h9) d_M_word_23
def wqM_setWord (nW : Nat) (nE : Nat) (f : Nat → Int32) (a1 : Int32) (a2 : Int32) (post : (Nat → Int32) → Prop) : Prop :=
  (a1 < 0 → (post f)) ∧ (¬ (a1 < 0) → (((nI nW) ≤ a1 → (post f)) ∧ (¬ ((nI nW) ≤ a1) → (vp_in a1 nW ∧ (post (upd f a1.toNatClampNeg a2))))))
set_option maxHeartbeats 4000000 in
set_option maxRecDepth 100000 in
theorem mM_setWord (l : Launch) (dC : Nat → ClassId) (dI : Nat → Nat → Nat) (cA : ClassId) (a0 : Nat) (aR : Nat) (aM : Nat) (aW : Nat) (aP : Nat) (aS : Nat) (aC : Nat) (aO : Nat) (nW : Nat) (nE : Nat) (sz : Nat) (R : Nat → Int32) (f : Nat → Int32) (us : Int32) (P : Nat → Int32) (S : Nat → Int32) (sc : Int32) (li : Int32) (rc : Nat → Int32) (rn : Int32) (ro : Nat → Int32) (rd : Int32) (st : Int32) (a1 : Int32) (a2 : Int32) (post : (Nat → Int32) → Prop) (h : wqM_setWord nW nE f a1 a2 post) : Met l y_M_setWord ws_M_setWord ({ frames := 0, cells := 0, slots := 0, locals := 0 }) (rw_P (dC, dI) vwCl (TSw cA a0 aR aM aW aP aS aC aO nW nE R f us P S sc li rc rn ro rd st) [(cA, .int)] sz [.ref aM, .int a1, .int a2]) (va_Qv (fun u : (Nat → Int32) => post u) (rw_B (dC, dI) vwCl [(cA, .int)] (va_A (TSw cA a0 aR aM aW aP aS aC aO nW nE R f us P S sc li rc rn ro rd st) sz) (fun u : (Nat → Int32) => TSw cA a0 aR aM aW aP aS aC aO nW nE R u us P S sc li rc rn ro rd st)) (va_A (TSw cA a0 aR aM aW aP aS aC aO nW nE R f us P S sc li rc rn ro rd st) sz)) 0 0 (va_A (TSw cA a0 aR aM aW aP aS aC aO nW nE R f us P S sc li rc rn ro rd st) sz) := by
  refine Met.ofW (cc := c_M_setWord) (maxL := 3) (ret := none) (by decide) rfl ?_
  intro p e s m args below meth c s₁ B hml hv
  obtain ⟨rfl, hsz, hP, hK, hD0⟩ := hv
  have hx := B.exec
  have hb := B.bytes
  have hr9 := B.returns
  have hts := atoms_spec (ws := ws_M_setWord) B.pre
  have hw : ∀ w ∈ WB_, w.before _ s = true := fun w h => hts w (List.mem_cons_of_mem _ h)
  have hown : s.vm.findClass R_M = some m.cls := findClass_of_methodNamed B.named
  have hlocks := B.notSynchronized
  subst hsz
  have hD := hD0.self (sz := s.heap.size)
  generalize hAe : va_A (TSw cA a0 aR aM aW aP aS aC aO nW nE R f us P S sc li rc rn ro rd st) s.heap.size = A at hD ⊢
  have hA : ∀ q : Nat, s.heap.size ≤ q → A q := fun q h => by rw [← hAe]; exact Or.inr h
  have hS : va_S A s.heap s.heap [] := va_S.rf
  have hl := lv_entry ([.ref aM, .int a1, .int a2]) (n := 3) (Nat.le_of_ble_eq_true rfl)
  rw [lg_entry_eq]
  generalize (lg_sl ([.ref aM, .int a1, .int a2]) ++ List.replicate (3 - (lg_sl ([.ref aM, .int a1, .int a2])).length) Slot.unset).toArray = ls at hl ⊢
  have hl : lv_has ls 3 [(0, .ref aM), (1, .int a1), (2, .int a2)] := hl
  unfold wqM_setWord at h
  refine lv_iload_n hx hb d_M_setWord_0 rfl (lv_at hl 1 rfl) ?_
  refine lv_if_lt (tgt := 20) hx hb d_M_setWord_1 (by decide) (fun c_1 => ?_) (fun c_1 => ?_)
  · have h := h.1 c_1
    exact W.vret hx hb hr9 (fun t ht hW => ⟨⟨(f), rfl, h, by rw [ht]; exact hP, va_K.moved hW.alike hK, hD⟩, hS.F ht⟩) hS.2.2 d_M_setWord_20
  · have h := h.2 c_1
    refine lv_iload_n hx hb d_M_setWord_4 rfl (lv_at hl 1 rfl) ?_
    refine lv_aload_n hx hb d_M_setWord_5 rfl (lv_at hl 0 rfl) ?_
    refine va_get (D := (dC, dI)) (ci := 1) (v := .ref aW) (C := R_M) (T := T_M) (N := 11) hx hb hw in_M hown hK hP 2 rfl rfl 0 (by decide) (hw _ wd_68) (fun _ h9 => h9) rfl d_M_setWord_6 ?_
    refine va_alen (v := nI nW) hx hb hK hP 3 0 rfl rfl rfl d_M_setWord_9 ?_
    refine lv_icmp_ge (tgt := 20) hx hb d_M_setWord_10 (by decide) (fun c_10 => ?_) (fun c_10 => ?_)
    · have h := h.1 c_10
      exact W.vret hx hb hr9 (fun t ht hW => ⟨⟨(f), rfl, h, by rw [ht]; exact hP, va_K.moved hW.alike hK, hD⟩, hS.F ht⟩) hS.2.2 d_M_setWord_20
    · have h := h.2 c_10
      refine lv_aload_n hx hb d_M_setWord_13 rfl (lv_at hl 0 rfl) ?_
      refine va_get (D := (dC, dI)) (ci := 1) (v := .ref aW) (C := R_M) (T := T_M) (N := 11) hx hb hw in_M hown hK hP 2 rfl rfl 0 (by decide) (hw _ wd_68) (fun _ h9 => h9) rfl d_M_setWord_14 ?_
      refine lv_iload_n hx hb d_M_setWord_17 rfl (lv_at hl 1 rfl) ?_
      refine lv_iload_n hx hb d_M_setWord_18 rfl (lv_at hl 2 rfl) ?_
      refine va_iast hx hb hK hP hD hS 3 0 rfl rfl h.1 d_M_setWord_19 (fun H locs hP hD hS => ?_)
      have hP : va_P (dC, dI) vwCl (TSw cA a0 aR aM aW aP aS aC aO nW nE R (upd f a1.toNatClampNeg a2) us P S sc li rc rn ro rd st) H := hP
      have hD : va_D A (TSw cA a0 aR aM aW aP aS aC aO nW nE R (upd f a1.toNatClampNeg a2) us P S sc li rc rn ro rd st) := hD
      have h := h.2
      exact W.vret hx hb hr9 (fun t ht hW => ⟨⟨(upd f a1.toNatClampNeg a2), rfl, h, by rw [ht]; exact hP, va_K.moved hW.alike hK, hD⟩, hS.F ht⟩) hS.2.2 d_M_setWord_20
def wqM_copyWords (nW : Nat) (nE : Nat) (f : Nat → Int32) (a1 : Int32) (a2 : Int32) (a3 : Int32) (post : (Nat → Int32) → Prop) : Prop :=
  (a1 < 0 → (post f)) ∧ (¬ (a1 < 0) → ((a2 < 0 → (post f)) ∧ (¬ (a2 < 0) → ((a3 < 0 → (post f)) ∧ (¬ (a3 < 0) → ((((nI nW) - (if a1 < a2 then a2 else a1)) < a3 → (post f)) ∧ (¬ (((nI nW) - (if a1 < a2 then a2 else a1)) < a3) → (¬ a1 < 0 ∧ ¬ a2 < 0 ∧ ¬ a3 < 0 ∧ a1.toNatClampNeg + a3.toNatClampNeg ≤ nW ∧ a2.toNatClampNeg + a3.toNatClampNeg ≤ nW ∧ (post (va_cpy f f a1.toNatClampNeg a2.toNatClampNeg a3.toNatClampNeg))))))))))
set_option maxHeartbeats 4000000 in
set_option maxRecDepth 100000 in
theorem mM_copyWords (l : Launch) (dC : Nat → ClassId) (dI : Nat → Nat → Nat) (cA : ClassId) (a0 : Nat) (aR : Nat) (aM : Nat) (aW : Nat) (aP : Nat) (aS : Nat) (aC : Nat) (aO : Nat) (nW : Nat) (nE : Nat) (sz : Nat) (R : Nat → Int32) (f : Nat → Int32) (us : Int32) (P : Nat → Int32) (S : Nat → Int32) (sc : Int32) (li : Int32) (rc : Nat → Int32) (rn : Int32) (ro : Nat → Int32) (rd : Int32) (st : Int32) (a1 : Int32) (a2 : Int32) (a3 : Int32) (post : (Nat → Int32) → Prop) (h : wqM_copyWords nW nE f a1 a2 a3 post) : Met l y_M_copyWords ws_M_copyWords ({ frames := 1, cells := 0, slots := 0, locals := 40 }) (rw_P (dC, dI) vwCl (TSw cA a0 aR aM aW aP aS aC aO nW nE R f us P S sc li rc rn ro rd st) [(cA, .int)] sz [.ref aM, .int a1, .int a2, .int a3]) (va_Qv (fun u : (Nat → Int32) => post u) (rw_B (dC, dI) vwCl [(cA, .int)] (va_A (TSw cA a0 aR aM aW aP aS aC aO nW nE R f us P S sc li rc rn ro rd st) sz) (fun u : (Nat → Int32) => TSw cA a0 aR aM aW aP aS aC aO nW nE R u us P S sc li rc rn ro rd st)) (va_A (TSw cA a0 aR aM aW aP aS aC aO nW nE R f us P S sc li rc rn ro rd st) sz)) 0 0 (va_A (TSw cA a0 aR aM aW aP aS aC aO nW nE R f us P S sc li rc rn ro rd st) sz) := by
  refine Met.ofW (cc := c_M_copyWords) (maxL := 4) (ret := none) (by decide) rfl ?_
  intro p e s m args below meth c s₁ B hml hv
  obtain ⟨rfl, hsz, hP, hK, hD0⟩ := hv
  have hx := B.exec
  have hb := B.bytes
  have hr9 := B.returns
  have hts := atoms_spec (ws := ws_M_copyWords) B.pre
  have hw : ∀ w ∈ WB_, w.before _ s = true := fun w h => hts w (List.mem_cons_of_mem _ h)
  have hown : s.vm.findClass R_M = some m.cls := findClass_of_methodNamed B.named
  have hlocks := B.notSynchronized
  subst hsz
  have hD := hD0.self (sz := s.heap.size)
  generalize hAe : va_A (TSw cA a0 aR aM aW aP aS aC aO nW nE R f us P S sc li rc rn ro rd st) s.heap.size = A at hD ⊢
  have hA : ∀ q : Nat, s.heap.size ≤ q → A q := fun q h => by rw [← hAe]; exact Or.inr h
  have hS : va_S A s.heap s.heap [] := va_S.rf
  have hl := lv_entry ([.ref aM, .int a1, .int a2, .int a3]) (n := 4) (Nat.le_of_ble_eq_true rfl)
  rw [lg_entry_eq]
  generalize (lg_sl ([.ref aM, .int a1, .int a2, .int a3]) ++ List.replicate (4 - (lg_sl ([.ref aM, .int a1, .int a2, .int a3])).length) Slot.unset).toArray = ls at hl ⊢
  have hl : lv_has ls 4 [(0, .ref aM), (1, .int a1), (2, .int a2), (3, .int a3)] := hl
  unfold wqM_copyWords at h
  refine lv_iload_n hx hb d_M_copyWords_0 rfl (lv_at hl 1 rfl) ?_
  refine lv_if_lt (tgt := 41) hx hb d_M_copyWords_1 (by decide) (fun c_1 => ?_) (fun c_1 => ?_)
  · have h := h.1 c_1
    exact W.vret hx hb hr9 (fun t ht hW => ⟨⟨(f), rfl, h, by rw [ht]; exact hP, va_K.moved hW.alike hK, hD⟩, hS.F ht⟩) hS.2.2 d_M_copyWords_41
  · have h := h.2 c_1
    refine lv_iload_n hx hb d_M_copyWords_4 rfl (lv_at hl 2 rfl) ?_
    refine lv_if_lt (tgt := 41) hx hb d_M_copyWords_5 (by decide) (fun c_5 => ?_) (fun c_5 => ?_)
    · have h := h.1 c_5
      exact W.vret hx hb hr9 (fun t ht hW => ⟨⟨(f), rfl, h, by rw [ht]; exact hP, va_K.moved hW.alike hK, hD⟩, hS.F ht⟩) hS.2.2 d_M_copyWords_41
    · have h := h.2 c_5
      refine lv_iload_n hx hb d_M_copyWords_8 rfl (lv_at hl 3 rfl) ?_
      refine lv_if_lt (tgt := 41) hx hb d_M_copyWords_9 (by decide) (fun c_9 => ?_) (fun c_9 => ?_)
      · have h := h.1 c_9
        exact W.vret hx hb hr9 (fun t ht hW => ⟨⟨(f), rfl, h, by rw [ht]; exact hP, va_K.moved hW.alike hK, hD⟩, hS.F ht⟩) hS.2.2 d_M_copyWords_41
      · have h := h.2 c_9
        refine lv_iload_n hx hb d_M_copyWords_12 rfl (lv_at hl 3 rfl) ?_
        refine lv_aload_n hx hb d_M_copyWords_13 rfl (lv_at hl 0 rfl) ?_
        refine va_get (D := (dC, dI)) (ci := 1) (v := .ref aW) (C := R_M) (T := T_M) (N := 11) hx hb hw in_M hown hK hP 2 rfl rfl 0 (by decide) (hw _ wd_68) (fun _ h9 => h9) rfl d_M_copyWords_14 ?_
        refine va_alen (v := nI nW) hx hb hK hP 3 0 rfl rfl rfl d_M_copyWords_17 ?_
        refine lv_iload_n hx hb d_M_copyWords_18 rfl (lv_at hl 1 rfl) ?_
        refine lv_iload_n hx hb d_M_copyWords_19 rfl (lv_at hl 2 rfl) ?_
        refine va_mmax hx hb (hml.trans hl.1.symm) hown (hw _ wd_157) (hw _ wd_158) (hw _ wd_46) (hw _ wd_159) (Nat.le_of_ble_eq_true rfl) (Nat.le_of_ble_eq_true rfl) (Nat.le_of_ble_eq_true rfl) (Nat.le_of_ble_eq_true rfl) d_M_copyWords_20 ?_
        refine lv_isub hx hb d_M_copyWords_23 ?_
        refine lv_icmp_gt (tgt := 41) hx hb d_M_copyWords_24 (by decide) (fun c_24 => ?_) (fun c_24 => ?_)
        · have h := h.1 c_24
          exact W.vret hx hb hr9 (fun t ht hW => ⟨⟨(f), rfl, h, by rw [ht]; exact hP, va_K.moved hW.alike hK, hD⟩, hS.F ht⟩) hS.2.2 d_M_copyWords_41
        · have h := h.2 c_24
          refine lv_aload_n hx hb d_M_copyWords_27 rfl (lv_at hl 0 rfl) ?_
          refine va_get (D := (dC, dI)) (ci := 1) (v := .ref aW) (C := R_M) (T := T_M) (N := 11) hx hb hw in_M hown hK hP 2 rfl rfl 0 (by decide) (hw _ wd_68) (fun _ h9 => h9) rfl d_M_copyWords_28 ?_
          refine lv_iload_n hx hb d_M_copyWords_31 rfl (lv_at hl 1 rfl) ?_
          refine lv_aload_n hx hb d_M_copyWords_32 rfl (lv_at hl 0 rfl) ?_
          refine va_get (D := (dC, dI)) (ci := 1) (v := .ref aW) (C := R_M) (T := T_M) (N := 11) hx hb hw in_M hown hK hP 2 rfl rfl 0 (by decide) (hw _ wd_68) (fun _ h9 => h9) rfl d_M_copyWords_33 ?_
          refine lv_iload_n hx hb d_M_copyWords_36 rfl (lv_at hl 2 rfl) ?_
          refine lv_iload_n hx hb d_M_copyWords_37 rfl (lv_at hl 3 rfl) ?_
          obtain ⟨k1, k2, k3, k4, k5, h⟩ := h
          refine va_copyi hx hb (hml.trans hl.1.symm) hown (hw _ wd_176) (hw _ wd_178) (hw _ wd_177) (hw _ wd_47) hK hP hD hS 3 3 0 0 rfl rfl rfl rfl rfl k1 k2 k3 k4 k5 (fun _ _ => rfl) (Nat.le_of_ble_eq_true rfl) (Nat.le_of_ble_eq_true rfl) d_M_copyWords_38 (fun H locs hP hD hS => ?_)
          have hP : va_P (dC, dI) vwCl (TSw cA a0 aR aM aW aP aS aC aO nW nE R (va_cpy f f a1.toNatClampNeg a2.toNatClampNeg a3.toNatClampNeg) us P S sc li rc rn ro rd st) H := hP
          have hD : va_D A (TSw cA a0 aR aM aW aP aS aC aO nW nE R (va_cpy f f a1.toNatClampNeg a2.toNatClampNeg a3.toNatClampNeg) us P S sc li rc rn ro rd st) := hD
          exact W.vret hx hb hr9 (fun t ht hW => ⟨⟨(va_cpy f f a1.toNatClampNeg a2.toNatClampNeg a3.toNatClampNeg), rfl, h, by rw [ht]; exact hP, va_K.moved hW.alike hK, hD⟩, hS.F ht⟩) hS.2.2 d_M_copyWords_41
def wqM_place (nW : Nat) (nE : Nat) (P : Nat → Int32) (a1 : Int32) (post : Int32 → Prop) : Prop :=
  wqV_toEntry a1 (fun r1 => (r1 < 0 → (post (0 : Int32))) ∧ (¬ (r1 < 0) → (((nI nE) ≤ r1 → (post (0 : Int32))) ∧ (¬ ((nI nE) ≤ r1) → (vp_in r1 nE ∧ (post (P r1.toNatClampNeg)))))))
set_option maxHeartbeats 4000000 in
set_option maxRecDepth 100000 in
theorem mM_place (l : Launch) (dC : Nat → ClassId) (dI : Nat → Nat → Nat) (cA : ClassId) (a0 : Nat) (aR : Nat) (aM : Nat) (aW : Nat) (aP : Nat) (aS : Nat) (aC : Nat) (aO : Nat) (nW : Nat) (nE : Nat) (R : Nat → Int32) (f : Nat → Int32) (us : Int32) (P : Nat → Int32) (S : Nat → Int32) (sc : Int32) (li : Int32) (rc : Nat → Int32) (rn : Int32) (ro : Nat → Int32) (rd : Int32) (st : Int32) (a1 : Int32) (post : Int32 → Prop) (h : wqM_place nW nE P a1 post) : Met l y_M_place ws_M_place ({ frames := 1, cells := 0, slots := 0, locals := 20 }) (ro_P (dC, dI) vwCl (TSw cA a0 aR aM aW aP aS aC aO nW nE R f us P S sc li rc rn ro rd st) [(cA, .int)] [.ref aM, .int a1]) (rq_i post) 0 0 (fun _ => False) := by
  refine Met.ofW (cc := c_M_place) (maxL := 3) (ret := (some .int)) (by decide) rfl ?_
  intro p e s m args below meth c s₁ B hml hv
  obtain ⟨rfl, hP, hK⟩ := hv
  have hx := B.exec
  have hb := B.bytes
  have hr9 := B.returns
  have hts := atoms_spec (ws := ws_M_place) B.pre
  have hw : ∀ w ∈ WB_, w.before _ s = true := fun w h => hts w (List.mem_cons_of_mem _ h)
  have hown : s.vm.findClass R_M = some m.cls := findClass_of_methodNamed B.named
  have hlocks := B.notSynchronized
  have hl := lv_entry ([.ref aM, .int a1]) (n := 3) (Nat.le_of_ble_eq_true rfl)
  rw [lg_entry_eq]
  generalize (lg_sl ([.ref aM, .int a1]) ++ List.replicate (3 - (lg_sl ([.ref aM, .int a1])).length) Slot.unset).toArray = ls at hl ⊢
  have hl : lv_has ls 3 [(0, .ref aM), (1, .int a1)] := hl
  unfold wqM_place at h
  refine lv_iload_n hx hb d_M_place_0 rfl (lv_at hl 1 rfl) ?_
  refine rq_calli (W.runS (As := [.int a1]) (rest := []) ⟨hx, hb, hml, hown, hw⟩ (mV_toEntry l a1 _ h) (va_cwS 1 hw g_M_49 rfl rfl rfl (by decide +kernel) ⟨Nat.le_of_ble_eq_true rfl, Nat.le_of_ble_eq_true rfl⟩) preEq rfl rfl hl.1 rfl (lv_room (Nat.le_of_ble_eq_true rfl)) d_M_place_1 ⟨Nat.le_of_ble_eq_true rfl, Nat.le_of_ble_eq_true rfl⟩) (fun r1 h => ?_)
  refine lv_istore_n (lv' := [(2, .int r1), (0, .ref aM), (1, .int a1)]) hx hb d_M_place_4 rfl hl (by decide) rfl (fun ls hl => ?_)
  refine lv_iload_n hx hb d_M_place_5 rfl (lv_at hl 0 rfl) ?_
  refine lv_if_lt (tgt := 27) hx hb d_M_place_6 (by decide) (fun c_6 => ?_) (fun c_6 => ?_)
  · have h := h.1 c_6
    refine lv_iconst (v := (0 : Int32)) hx hb d_M_place_27 (by decide) ?_
    exact W.iret (v := (0 : Int32)) hx hb hr9 (fun t ht hW => ⟨_, rfl, h, ht⟩) (fun _ h9 => nomatch h9) d_M_place_28
  · have h := h.2 c_6
    refine lv_iload_n hx hb d_M_place_9 rfl (lv_at hl 0 rfl) ?_
    refine lv_aload_n hx hb d_M_place_10 rfl (lv_at hl 1 rfl) ?_
    refine va_get (D := (dC, dI)) (ci := 1) (v := .ref aP) (C := R_M) (T := T_M) (N := 11) hx hb hw in_M hown hK hP 2 rfl rfl 2 (by decide) (hw _ wd_70) (fun _ h9 => h9) rfl d_M_place_11 ?_
    refine va_alen (v := nI nE) hx hb hK hP 4 0 rfl rfl rfl d_M_place_14 ?_
    refine lv_icmp_ge (tgt := 27) hx hb d_M_place_15 (by decide) (fun c_15 => ?_) (fun c_15 => ?_)
    · have h := h.1 c_15
      refine lv_iconst (v := (0 : Int32)) hx hb d_M_place_27 (by decide) ?_
      exact W.iret (v := (0 : Int32)) hx hb hr9 (fun t ht hW => ⟨_, rfl, h, ht⟩) (fun _ h9 => nomatch h9) d_M_place_28
    · have h := h.2 c_15
      refine lv_aload_n hx hb d_M_place_18 rfl (lv_at hl 1 rfl) ?_
      refine va_get (D := (dC, dI)) (ci := 1) (v := .ref aP) (C := R_M) (T := T_M) (N := 11) hx hb hw in_M hown hK hP 2 rfl rfl 2 (by decide) (hw _ wd_70) (fun _ h9 => h9) rfl d_M_place_19 ?_
      refine lv_iload_n hx hb d_M_place_22 rfl (lv_at hl 0 rfl) ?_
      refine va_iald hx hb hK hP 4 0 rfl rfl h.1 d_M_place_23 ?_
      have h := h.2
      refine lv_goto (tgt := 28) hx hb d_M_place_24 (by decide) ?_
      exact W.iret (v := P r1.toNatClampNeg) hx hb hr9 (fun t ht hW => ⟨_, rfl, h, ht⟩) (fun _ h9 => nomatch h9) d_M_place_28
def wqM_shapeOf (nW : Nat) (nE : Nat) (f : Nat → Int32) (P : Nat → Int32) (a1 : Int32) (post : Int32 → Prop) : Prop :=
  wqM_place nW nE P a1 (fun r3 => wqM_word nW nE f (r3 + (3 : Int32)) (fun r8 => post r8))
set_option maxHeartbeats 4000000 in
set_option maxRecDepth 100000 in
theorem mM_shapeOf (l : Launch) (dC : Nat → ClassId) (dI : Nat → Nat → Nat) (cA : ClassId) (a0 : Nat) (aR : Nat) (aM : Nat) (aW : Nat) (aP : Nat) (aS : Nat) (aC : Nat) (aO : Nat) (nW : Nat) (nE : Nat) (R : Nat → Int32) (f : Nat → Int32) (us : Int32) (P : Nat → Int32) (S : Nat → Int32) (sc : Int32) (li : Int32) (rc : Nat → Int32) (rn : Int32) (ro : Nat → Int32) (rd : Int32) (st : Int32) (a1 : Int32) (post : Int32 → Prop) (h : wqM_shapeOf nW nE f P a1 post) : Met l y_M_shapeOf ws_M_shapeOf ({ frames := 2, cells := 0, slots := 0, locals := 42 }) (ro_P (dC, dI) vwCl (TSw cA a0 aR aM aW aP aS aC aO nW nE R f us P S sc li rc rn ro rd st) [(cA, .int)] [.ref aM, .int a1]) (rq_i post) 0 0 (fun _ => False) := by
  refine Met.ofW (cc := c_M_shapeOf) (maxL := 2) (ret := (some .int)) (by decide) rfl ?_
  intro p e s m args below meth c s₁ B hml hv
  obtain ⟨rfl, hP, hK⟩ := hv
  have hx := B.exec
  have hb := B.bytes
  have hr9 := B.returns
  have hts := atoms_spec (ws := ws_M_shapeOf) B.pre
  have hw : ∀ w ∈ WB_, w.before _ s = true := fun w h => hts w (List.mem_cons_of_mem _ h)
  have hown : s.vm.findClass R_M = some m.cls := findClass_of_methodNamed B.named
  have hlocks := B.notSynchronized
  have hl := lv_entry ([.ref aM, .int a1]) (n := 2) (Nat.le_of_ble_eq_true rfl)
  rw [lg_entry_eq]
  generalize (lg_sl ([.ref aM, .int a1]) ++ List.replicate (2 - (lg_sl ([.ref aM, .int a1])).length) Slot.unset).toArray = ls at hl ⊢
  have hl : lv_has ls 2 [(0, .ref aM), (1, .int a1)] := hl
  unfold wqM_shapeOf at h
  refine lv_aload_n hx hb d_M_shapeOf_0 rfl (lv_at hl 0 rfl) ?_
  refine lv_aload_n hx hb d_M_shapeOf_1 rfl (lv_at hl 0 rfl) ?_
  refine lv_iload_n hx hb d_M_shapeOf_2 rfl (lv_at hl 1 rfl) ?_
  refine rq_calli (W.runV (As := [.int a1]) (rest := [.ref aM]) ⟨hx, hb, hml, hown, hw⟩ (mM_place l dC dI cA a0 aR aM aW aP aS aC aO nW nE R f us P S sc li rc rn ro rd st a1 _ h) (cwV 1 hw g_M_55 rfl rfl rfl (by decide +kernel) ⟨Nat.le_of_ble_eq_true rfl, Nat.le_of_ble_eq_true rfl⟩) (ro_PV (ci := 1) (q0 := 2) hK hP rfl rfl) rfl rfl hl.1 rfl (lv_room (Nat.le_of_ble_eq_true rfl)) d_M_shapeOf_3 ⟨Nat.le_of_ble_eq_true rfl, Nat.le_of_ble_eq_true rfl⟩) (fun r3 h => ?_)
  refine lv_iconst (v := (3 : Int32)) hx hb d_M_shapeOf_6 (by decide) ?_
  refine lv_iadd hx hb d_M_shapeOf_7 ?_
  refine rq_calli (W.runV (As := [.int (r3 + (3 : Int32))]) (rest := []) ⟨hx, hb, hml, hown, hw⟩ (mM_word l dC dI cA a0 aR aM aW aP aS aC aO nW nE R f us P S sc li rc rn ro rd st (r3 + (3 : Int32)) _ h) (cwV 1 hw g_M_58 rfl rfl rfl (by decide +kernel) ⟨Nat.le_of_ble_eq_true rfl, Nat.le_of_ble_eq_true rfl⟩) (ro_PV (ci := 1) (q0 := 2) hK hP rfl rfl) rfl rfl hl.1 rfl (lv_room (Nat.le_of_ble_eq_true rfl)) d_M_shapeOf_8 ⟨Nat.le_of_ble_eq_true rfl, Nat.le_of_ble_eq_true rfl⟩) (fun r8 h => ?_)
  exact W.iret (v := r8) hx hb hr9 (fun t ht hW => ⟨_, rfl, h, ht⟩) (fun _ h9 => nomatch h9) d_M_shapeOf_11
def wqM_holdsSlots (nW : Nat) (nE : Nat) (f : Nat → Int32) (P : Nat → Int32) (a1 : Int32) (post : Int32 → Prop) : Prop :=
  wqV_isObject a1 (fun r1 => (r1 = 0 → (post (0 : Int32))) ∧ (¬ (r1 = 0) → (wqM_shapeOf nW nE f P a1 (fun r9 => wqM_isOfBytes r9 (fun r12 => (r12 = 0 → (post (1 : Int32))) ∧ (¬ (r12 = 0) → (post (0 : Int32))))))))
set_option maxHeartbeats 4000000 in
set_option maxRecDepth 100000 in
theorem mM_holdsSlots (l : Launch) (dC : Nat → ClassId) (dI : Nat → Nat → Nat) (cA : ClassId) (a0 : Nat) (aR : Nat) (aM : Nat) (aW : Nat) (aP : Nat) (aS : Nat) (aC : Nat) (aO : Nat) (nW : Nat) (nE : Nat) (R : Nat → Int32) (f : Nat → Int32) (us : Int32) (P : Nat → Int32) (S : Nat → Int32) (sc : Int32) (li : Int32) (rc : Nat → Int32) (rn : Int32) (ro : Nat → Int32) (rd : Int32) (st : Int32) (a1 : Int32) (post : Int32 → Prop) (h : wqM_holdsSlots nW nE f P a1 post) : Met l y_M_holdsSlots ws_M_holdsSlots ({ frames := 3, cells := 0, slots := 0, locals := 63 }) (ro_P (dC, dI) vwCl (TSw cA a0 aR aM aW aP aS aC aO nW nE R f us P S sc li rc rn ro rd st) [(cA, .int)] [.ref aM, .int a1]) (rq_i post) 0 0 (fun _ => False) := by
  refine Met.ofW (cc := c_M_holdsSlots) (maxL := 2) (ret := (some .boolean)) (by decide) rfl ?_
  intro p e s m args below meth c s₁ B hml hv
  obtain ⟨rfl, hP, hK⟩ := hv
  have hx := B.exec
  have hb := B.bytes
  have hr9 := B.returns
  have hts := atoms_spec (ws := ws_M_holdsSlots) B.pre
  have hw : ∀ w ∈ WB_, w.before _ s = true := fun w h => hts w (List.mem_cons_of_mem _ h)
  have hown : s.vm.findClass R_M = some m.cls := findClass_of_methodNamed B.named
  have hlocks := B.notSynchronized
  have hl := lv_entry ([.ref aM, .int a1]) (n := 2) (Nat.le_of_ble_eq_true rfl)
  rw [lg_entry_eq]
  generalize (lg_sl ([.ref aM, .int a1]) ++ List.replicate (2 - (lg_sl ([.ref aM, .int a1])).length) Slot.unset).toArray = ls at hl ⊢
  have hl : lv_has ls 2 [(0, .ref aM), (1, .int a1)] := hl
  unfold wqM_holdsSlots at h
  refine lv_iload_n hx hb d_M_holdsSlots_0 rfl (lv_at hl 1 rfl) ?_
  refine rq_calli (W.runS (As := [.int a1]) (rest := []) ⟨hx, hb, hml, hown, hw⟩ (mV_isObject l a1 _ h) (va_cwS 1 hw g_M_61 rfl rfl rfl (by decide +kernel) ⟨Nat.le_of_ble_eq_true rfl, Nat.le_of_ble_eq_true rfl⟩) preEq rfl rfl hl.1 rfl (lv_room (Nat.le_of_ble_eq_true rfl)) d_M_holdsSlots_1 ⟨Nat.le_of_ble_eq_true rfl, Nat.le_of_ble_eq_true rfl⟩) (fun r1 h => ?_)
  refine lv_if_eq (tgt := 22) hx hb d_M_holdsSlots_4 (by decide) (fun c_4 => ?_) (fun c_4 => ?_)
  · have h := h.1 c_4
    refine lv_iconst (v := (0 : Int32)) hx hb d_M_holdsSlots_22 (by decide) ?_
    exact W.zret (v := (0 : Int32)) (ty := .boolean) hx hb hr9 rfl (fun t ht hW => ⟨_, rfl, h, ht⟩) (fun _ h9 => nomatch h9) d_M_holdsSlots_23
  · have h := h.2 c_4
    refine lv_aload_n hx hb d_M_holdsSlots_7 rfl (lv_at hl 0 rfl) ?_
    refine lv_iload_n hx hb d_M_holdsSlots_8 rfl (lv_at hl 1 rfl) ?_
    refine rq_calli (W.runV (As := [.int a1]) (rest := []) ⟨hx, hb, hml, hown, hw⟩ (mM_shapeOf l dC dI cA a0 aR aM aW aP aS aC aO nW nE R f us P S sc li rc rn ro rd st a1 _ h) (cwV 1 hw g_M_64 rfl rfl rfl (by decide +kernel) ⟨Nat.le_of_ble_eq_true rfl, Nat.le_of_ble_eq_true rfl⟩) (ro_PV (ci := 1) (q0 := 2) hK hP rfl rfl) rfl rfl hl.1 rfl (lv_room (Nat.le_of_ble_eq_true rfl)) d_M_holdsSlots_9 ⟨Nat.le_of_ble_eq_true rfl, Nat.le_of_ble_eq_true rfl⟩) (fun r9 h => ?_)
    refine rq_calli (W.runS (As := [.int r9]) (rest := []) ⟨hx, hb, hml, hown, hw⟩ (mM_isOfBytes l r9 _ h) (va_cwS 1 hw g_M_33 rfl rfl rfl (by decide +kernel) ⟨Nat.le_of_ble_eq_true rfl, Nat.le_of_ble_eq_true rfl⟩) preEq rfl rfl hl.1 rfl (lv_room (Nat.le_of_ble_eq_true rfl)) d_M_holdsSlots_12 ⟨Nat.le_of_ble_eq_true rfl, Nat.le_of_ble_eq_true rfl⟩) (fun r12 h => ?_)
    refine lv_if_ne (tgt := 22) hx hb d_M_holdsSlots_15 (by decide) (fun c_15 => ?_) (fun c_15 => ?_)
    · have h := h.2 c_15
      refine lv_iconst (v := (0 : Int32)) hx hb d_M_holdsSlots_22 (by decide) ?_
      exact W.zret (v := (0 : Int32)) (ty := .boolean) hx hb hr9 rfl (fun t ht hW => ⟨_, rfl, h, ht⟩) (fun _ h9 => nomatch h9) d_M_holdsSlots_23
    · have h := h.1 c_15
      refine lv_iconst (v := (1 : Int32)) hx hb d_M_holdsSlots_18 (by decide) ?_
      refine lv_goto (tgt := 23) hx hb d_M_holdsSlots_19 (by decide) ?_
      exact W.zret (v := (1 : Int32)) (ty := .boolean) hx hb hr9 rfl (fun t ht hW => ⟨_, rfl, h, ht⟩) (fun _ h9 => nomatch h9) d_M_holdsSlots_23
def wqM_holdsBytes (nW : Nat) (nE : Nat) (f : Nat → Int32) (P : Nat → Int32) (a1 : Int32) (post : Int32 → Prop) : Prop :=
  wqV_isObject a1 (fun r1 => (r1 = 0 → (post (0 : Int32))) ∧ (¬ (r1 = 0) → (wqM_shapeOf nW nE f P a1 (fun r9 => wqM_isOfBytes r9 (fun r12 => (r12 = 0 → (post (0 : Int32))) ∧ (¬ (r12 = 0) → (post (1 : Int32))))))))
set_option maxHeartbeats 4000000 in
set_option maxRecDepth 100000 in
theorem mM_holdsBytes (l : Launch) (dC : Nat → ClassId) (dI : Nat → Nat → Nat) (cA : ClassId) (a0 : Nat) (aR : Nat) (aM : Nat) (aW : Nat) (aP : Nat) (aS : Nat) (aC : Nat) (aO : Nat) (nW : Nat) (nE : Nat) (R : Nat → Int32) (f : Nat → Int32) (us : Int32) (P : Nat → Int32) (S : Nat → Int32) (sc : Int32) (li : Int32) (rc : Nat → Int32) (rn : Int32) (ro : Nat → Int32) (rd : Int32) (st : Int32) (a1 : Int32) (post : Int32 → Prop) (h : wqM_holdsBytes nW nE f P a1 post) : Met l y_M_holdsBytes ws_M_holdsBytes ({ frames := 3, cells := 0, slots := 0, locals := 63 }) (ro_P (dC, dI) vwCl (TSw cA a0 aR aM aW aP aS aC aO nW nE R f us P S sc li rc rn ro rd st) [(cA, .int)] [.ref aM, .int a1]) (rq_i post) 0 0 (fun _ => False) := by
  refine Met.ofW (cc := c_M_holdsBytes) (maxL := 2) (ret := (some .boolean)) (by decide) rfl ?_
  intro p e s m args below meth c s₁ B hml hv
  obtain ⟨rfl, hP, hK⟩ := hv
  have hx := B.exec
  have hb := B.bytes
  have hr9 := B.returns
  have hts := atoms_spec (ws := ws_M_holdsBytes) B.pre
  have hw : ∀ w ∈ WB_, w.before _ s = true := fun w h => hts w (List.mem_cons_of_mem _ h)
  have hown : s.vm.findClass R_M = some m.cls := findClass_of_methodNamed B.named
  have hlocks := B.notSynchronized
  have hl := lv_entry ([.ref aM, .int a1]) (n := 2) (Nat.le_of_ble_eq_true rfl)
  rw [lg_entry_eq]
  generalize (lg_sl ([.ref aM, .int a1]) ++ List.replicate (2 - (lg_sl ([.ref aM, .int a1])).length) Slot.unset).toArray = ls at hl ⊢
  have hl : lv_has ls 2 [(0, .ref aM), (1, .int a1)] := hl
  unfold wqM_holdsBytes at h
  refine lv_iload_n hx hb d_M_holdsBytes_0 rfl (lv_at hl 1 rfl) ?_
  refine rq_calli (W.runS (As := [.int a1]) (rest := []) ⟨hx, hb, hml, hown, hw⟩ (mV_isObject l a1 _ h) (va_cwS 1 hw g_M_61 rfl rfl rfl (by decide +kernel) ⟨Nat.le_of_ble_eq_true rfl, Nat.le_of_ble_eq_true rfl⟩) preEq rfl rfl hl.1 rfl (lv_room (Nat.le_of_ble_eq_true rfl)) d_M_holdsBytes_1 ⟨Nat.le_of_ble_eq_true rfl, Nat.le_of_ble_eq_true rfl⟩) (fun r1 h => ?_)
  refine lv_if_eq (tgt := 22) hx hb d_M_holdsBytes_4 (by decide) (fun c_4 => ?_) (fun c_4 => ?_)
  · have h := h.1 c_4
    refine lv_iconst (v := (0 : Int32)) hx hb d_M_holdsBytes_22 (by decide) ?_
    exact W.zret (v := (0 : Int32)) (ty := .boolean) hx hb hr9 rfl (fun t ht hW => ⟨_, rfl, h, ht⟩) (fun _ h9 => nomatch h9) d_M_holdsBytes_23
  · have h := h.2 c_4
    refine lv_aload_n hx hb d_M_holdsBytes_7 rfl (lv_at hl 0 rfl) ?_
    refine lv_iload_n hx hb d_M_holdsBytes_8 rfl (lv_at hl 1 rfl) ?_
    refine rq_calli (W.runV (As := [.int a1]) (rest := []) ⟨hx, hb, hml, hown, hw⟩ (mM_shapeOf l dC dI cA a0 aR aM aW aP aS aC aO nW nE R f us P S sc li rc rn ro rd st a1 _ h) (cwV 1 hw g_M_64 rfl rfl rfl (by decide +kernel) ⟨Nat.le_of_ble_eq_true rfl, Nat.le_of_ble_eq_true rfl⟩) (ro_PV (ci := 1) (q0 := 2) hK hP rfl rfl) rfl rfl hl.1 rfl (lv_room (Nat.le_of_ble_eq_true rfl)) d_M_holdsBytes_9 ⟨Nat.le_of_ble_eq_true rfl, Nat.le_of_ble_eq_true rfl⟩) (fun r9 h => ?_)
    refine rq_calli (W.runS (As := [.int r9]) (rest := []) ⟨hx, hb, hml, hown, hw⟩ (mM_isOfBytes l r9 _ h) (va_cwS 1 hw g_M_33 rfl rfl rfl (by decide +kernel) ⟨Nat.le_of_ble_eq_true rfl, Nat.le_of_ble_eq_true rfl⟩) preEq rfl rfl hl.1 rfl (lv_room (Nat.le_of_ble_eq_true rfl)) d_M_holdsBytes_12 ⟨Nat.le_of_ble_eq_true rfl, Nat.le_of_ble_eq_true rfl⟩) (fun r12 h => ?_)
    refine lv_if_eq (tgt := 22) hx hb d_M_holdsBytes_15 (by decide) (fun c_15 => ?_) (fun c_15 => ?_)
    · have h := h.1 c_15
      refine lv_iconst (v := (0 : Int32)) hx hb d_M_holdsBytes_22 (by decide) ?_
      exact W.zret (v := (0 : Int32)) (ty := .boolean) hx hb hr9 rfl (fun t ht hW => ⟨_, rfl, h, ht⟩) (fun _ h9 => nomatch h9) d_M_holdsBytes_23
    · have h := h.2 c_15
      refine lv_iconst (v := (1 : Int32)) hx hb d_M_holdsBytes_18 (by decide) ?_
      refine lv_goto (tgt := 23) hx hb d_M_holdsBytes_19 (by decide) ?_
      exact W.zret (v := (1 : Int32)) (ty := .boolean) hx hb hr9 rfl (fun t ht hW => ⟨_, rfl, h, ht⟩) (fun _ h9 => nomatch h9) d_M_holdsBytes_23
def wqM_count (nW : Nat) (nE : Nat) (f : Nat → Int32) (P : Nat → Int32) (a1 : Int32) (post : Int32 → Prop) : Prop :=
  wqM_shapeOf nW nE f P a1 (fun r2 => post (r2 >>> ((1 : Int32) &&& 31)))
set_option maxHeartbeats 4000000 in
set_option maxRecDepth 100000 in
theorem mM_count (l : Launch) (dC : Nat → ClassId) (dI : Nat → Nat → Nat) (cA : ClassId) (a0 : Nat) (aR : Nat) (aM : Nat) (aW : Nat) (aP : Nat) (aS : Nat) (aC : Nat) (aO : Nat) (nW : Nat) (nE : Nat) (R : Nat → Int32) (f : Nat → Int32) (us : Int32) (P : Nat → Int32) (S : Nat → Int32) (sc : Int32) (li : Int32) (rc : Nat → Int32) (rn : Int32) (ro : Nat → Int32) (rd : Int32) (st : Int32) (a1 : Int32) (post : Int32 → Prop) (h : wqM_count nW nE f P a1 post) : Met l y_M_count ws_M_count ({ frames := 3, cells := 0, slots := 0, locals := 63 }) (ro_P (dC, dI) vwCl (TSw cA a0 aR aM aW aP aS aC aO nW nE R f us P S sc li rc rn ro rd st) [(cA, .int)] [.ref aM, .int a1]) (rq_i post) 0 0 (fun _ => False) := by
  refine Met.ofW (cc := c_M_count) (maxL := 2) (ret := (some .int)) (by decide) rfl ?_
  intro p e s m args below meth c s₁ B hml hv
  obtain ⟨rfl, hP, hK⟩ := hv
  have hx := B.exec
  have hb := B.bytes
  have hr9 := B.returns
  have hts := atoms_spec (ws := ws_M_count) B.pre
  have hw : ∀ w ∈ WB_, w.before _ s = true := fun w h => hts w (List.mem_cons_of_mem _ h)
  have hown : s.vm.findClass R_M = some m.cls := findClass_of_methodNamed B.named
  have hlocks := B.notSynchronized
  have hl := lv_entry ([.ref aM, .int a1]) (n := 2) (Nat.le_of_ble_eq_true rfl)
  rw [lg_entry_eq]
  generalize (lg_sl ([.ref aM, .int a1]) ++ List.replicate (2 - (lg_sl ([.ref aM, .int a1])).length) Slot.unset).toArray = ls at hl ⊢
  have hl : lv_has ls 2 [(0, .ref aM), (1, .int a1)] := hl
  unfold wqM_count at h
  refine lv_aload_n hx hb d_M_count_0 rfl (lv_at hl 0 rfl) ?_
  refine lv_iload_n hx hb d_M_count_1 rfl (lv_at hl 1 rfl) ?_
  refine rq_calli (W.runV (As := [.int a1]) (rest := []) ⟨hx, hb, hml, hown, hw⟩ (mM_shapeOf l dC dI cA a0 aR aM aW aP aS aC aO nW nE R f us P S sc li rc rn ro rd st a1 _ h) (cwV 1 hw g_M_64 rfl rfl rfl (by decide +kernel) ⟨Nat.le_of_ble_eq_true rfl, Nat.le_of_ble_eq_true rfl⟩) (ro_PV (ci := 1) (q0 := 2) hK hP rfl rfl) rfl rfl hl.1 rfl (lv_room (Nat.le_of_ble_eq_true rfl)) d_M_count_2 ⟨Nat.le_of_ble_eq_true rfl, Nat.le_of_ble_eq_true rfl⟩) (fun r2 h => ?_)
  refine lv_iconst (v := (1 : Int32)) hx hb d_M_count_5 (by decide) ?_
  refine lv_ishr hx hb d_M_count_6 ?_
  exact W.iret (v := r2 >>> ((1 : Int32) &&& 31)) hx hb hr9 (fun t ht hW => ⟨_, rfl, h, ht⟩) (fun _ h9 => nomatch h9) d_M_count_7
def wqM_identity (nW : Nat) (nE : Nat) (f : Nat → Int32) (P : Nat → Int32) (a1 : Int32) (post : Int32 → Prop) : Prop :=
  wqM_place nW nE P a1 (fun r3 => wqM_word nW nE f (r3 + (1 : Int32)) (fun r8 => post r8))
set_option maxHeartbeats 4000000 in
set_option maxRecDepth 100000 in
theorem mM_identity (l : Launch) (dC : Nat → ClassId) (dI : Nat → Nat → Nat) (cA : ClassId) (a0 : Nat) (aR : Nat) (aM : Nat) (aW : Nat) (aP : Nat) (aS : Nat) (aC : Nat) (aO : Nat) (nW : Nat) (nE : Nat) (R : Nat → Int32) (f : Nat → Int32) (us : Int32) (P : Nat → Int32) (S : Nat → Int32) (sc : Int32) (li : Int32) (rc : Nat → Int32) (rn : Int32) (ro : Nat → Int32) (rd : Int32) (st : Int32) (a1 : Int32) (post : Int32 → Prop) (h : wqM_identity nW nE f P a1 post) : Met l y_M_identity ws_M_identity ({ frames := 2, cells := 0, slots := 0, locals := 42 }) (ro_P (dC, dI) vwCl (TSw cA a0 aR aM aW aP aS aC aO nW nE R f us P S sc li rc rn ro rd st) [(cA, .int)] [.ref aM, .int a1]) (rq_i post) 0 0 (fun _ => False) := by
  refine Met.ofW (cc := c_M_identity) (maxL := 2) (ret := (some .int)) (by decide) rfl ?_
  intro p e s m args below meth c s₁ B hml hv
  obtain ⟨rfl, hP, hK⟩ := hv
  have hx := B.exec
  have hb := B.bytes
  have hr9 := B.returns
  have hts := atoms_spec (ws := ws_M_identity) B.pre
  have hw : ∀ w ∈ WB_, w.before _ s = true := fun w h => hts w (List.mem_cons_of_mem _ h)
  have hown : s.vm.findClass R_M = some m.cls := findClass_of_methodNamed B.named
  have hlocks := B.notSynchronized
  have hl := lv_entry ([.ref aM, .int a1]) (n := 2) (Nat.le_of_ble_eq_true rfl)
  rw [lg_entry_eq]
  generalize (lg_sl ([.ref aM, .int a1]) ++ List.replicate (2 - (lg_sl ([.ref aM, .int a1])).length) Slot.unset).toArray = ls at hl ⊢
  have hl : lv_has ls 2 [(0, .ref aM), (1, .int a1)] := hl
  unfold wqM_identity at h
  refine lv_aload_n hx hb d_M_identity_0 rfl (lv_at hl 0 rfl) ?_
  refine lv_aload_n hx hb d_M_identity_1 rfl (lv_at hl 0 rfl) ?_
  refine lv_iload_n hx hb d_M_identity_2 rfl (lv_at hl 1 rfl) ?_
  refine rq_calli (W.runV (As := [.int a1]) (rest := [.ref aM]) ⟨hx, hb, hml, hown, hw⟩ (mM_place l dC dI cA a0 aR aM aW aP aS aC aO nW nE R f us P S sc li rc rn ro rd st a1 _ h) (cwV 1 hw g_M_55 rfl rfl rfl (by decide +kernel) ⟨Nat.le_of_ble_eq_true rfl, Nat.le_of_ble_eq_true rfl⟩) (ro_PV (ci := 1) (q0 := 2) hK hP rfl rfl) rfl rfl hl.1 rfl (lv_room (Nat.le_of_ble_eq_true rfl)) d_M_identity_3 ⟨Nat.le_of_ble_eq_true rfl, Nat.le_of_ble_eq_true rfl⟩) (fun r3 h => ?_)
  refine lv_iconst (v := (1 : Int32)) hx hb d_M_identity_6 (by decide) ?_
  refine lv_iadd hx hb d_M_identity_7 ?_
  refine rq_calli (W.runV (As := [.int (r3 + (1 : Int32))]) (rest := []) ⟨hx, hb, hml, hown, hw⟩ (mM_word l dC dI cA a0 aR aM aW aP aS aC aO nW nE R f us P S sc li rc rn ro rd st (r3 + (1 : Int32)) _ h) (cwV 1 hw g_M_58 rfl rfl rfl (by decide +kernel) ⟨Nat.le_of_ble_eq_true rfl, Nat.le_of_ble_eq_true rfl⟩) (ro_PV (ci := 1) (q0 := 2) hK hP rfl rfl) rfl rfl hl.1 rfl (lv_room (Nat.le_of_ble_eq_true rfl)) d_M_identity_8 ⟨Nat.le_of_ble_eq_true rfl, Nat.le_of_ble_eq_true rfl⟩) (fun r8 h => ?_)
  exact W.iret (v := r8) hx hb hr9 (fun t ht hW => ⟨_, rfl, h, ht⟩) (fun _ h9 => nomatch h9) d_M_identity_11
def wqM_itsClass (nW : Nat) (nE : Nat) (f : Nat → Int32) (P : Nat → Int32) (a1 : Int32) (post : Int32 → Prop) : Prop :=
  wqM_place nW nE P a1 (fun r3 => wqM_word nW nE f (r3 + (2 : Int32)) (fun r8 => post r8))
set_option maxHeartbeats 4000000 in
set_option maxRecDepth 100000 in
theorem mM_itsClass (l : Launch) (dC : Nat → ClassId) (dI : Nat → Nat → Nat) (cA : ClassId) (a0 : Nat) (aR : Nat) (aM : Nat) (aW : Nat) (aP : Nat) (aS : Nat) (aC : Nat) (aO : Nat) (nW : Nat) (nE : Nat) (R : Nat → Int32) (f : Nat → Int32) (us : Int32) (P : Nat → Int32) (S : Nat → Int32) (sc : Int32) (li : Int32) (rc : Nat → Int32) (rn : Int32) (ro : Nat → Int32) (rd : Int32) (st : Int32) (a1 : Int32) (post : Int32 → Prop) (h : wqM_itsClass nW nE f P a1 post) : Met l y_M_itsClass ws_M_itsClass ({ frames := 2, cells := 0, slots := 0, locals := 42 }) (ro_P (dC, dI) vwCl (TSw cA a0 aR aM aW aP aS aC aO nW nE R f us P S sc li rc rn ro rd st) [(cA, .int)] [.ref aM, .int a1]) (rq_i post) 0 0 (fun _ => False) := by
  refine Met.ofW (cc := c_M_itsClass) (maxL := 2) (ret := (some .int)) (by decide) rfl ?_
  intro p e s m args below meth c s₁ B hml hv
  obtain ⟨rfl, hP, hK⟩ := hv
  have hx := B.exec
  have hb := B.bytes
  have hr9 := B.returns
  have hts := atoms_spec (ws := ws_M_itsClass) B.pre
  have hw : ∀ w ∈ WB_, w.before _ s = true := fun w h => hts w (List.mem_cons_of_mem _ h)
  have hown : s.vm.findClass R_M = some m.cls := findClass_of_methodNamed B.named
  have hlocks := B.notSynchronized
  have hl := lv_entry ([.ref aM, .int a1]) (n := 2) (Nat.le_of_ble_eq_true rfl)
  rw [lg_entry_eq]
  generalize (lg_sl ([.ref aM, .int a1]) ++ List.replicate (2 - (lg_sl ([.ref aM, .int a1])).length) Slot.unset).toArray = ls at hl ⊢
  have hl : lv_has ls 2 [(0, .ref aM), (1, .int a1)] := hl
  unfold wqM_itsClass at h
  refine lv_aload_n hx hb d_M_itsClass_0 rfl (lv_at hl 0 rfl) ?_
  refine lv_aload_n hx hb d_M_itsClass_1 rfl (lv_at hl 0 rfl) ?_
  refine lv_iload_n hx hb d_M_itsClass_2 rfl (lv_at hl 1 rfl) ?_
  refine rq_calli (W.runV (As := [.int a1]) (rest := [.ref aM]) ⟨hx, hb, hml, hown, hw⟩ (mM_place l dC dI cA a0 aR aM aW aP aS aC aO nW nE R f us P S sc li rc rn ro rd st a1 _ h) (cwV 1 hw g_M_55 rfl rfl rfl (by decide +kernel) ⟨Nat.le_of_ble_eq_true rfl, Nat.le_of_ble_eq_true rfl⟩) (ro_PV (ci := 1) (q0 := 2) hK hP rfl rfl) rfl rfl hl.1 rfl (lv_room (Nat.le_of_ble_eq_true rfl)) d_M_itsClass_3 ⟨Nat.le_of_ble_eq_true rfl, Nat.le_of_ble_eq_true rfl⟩) (fun r3 h => ?_)
  refine lv_iconst (v := (2 : Int32)) hx hb d_M_itsClass_6 (by decide) ?_
  refine lv_iadd hx hb d_M_itsClass_7 ?_
  refine rq_calli (W.runV (As := [.int (r3 + (2 : Int32))]) (rest := []) ⟨hx, hb, hml, hown, hw⟩ (mM_word l dC dI cA a0 aR aM aW aP aS aC aO nW nE R f us P S sc li rc rn ro rd st (r3 + (2 : Int32)) _ h) (cwV 1 hw g_M_58 rfl rfl rfl (by decide +kernel) ⟨Nat.le_of_ble_eq_true rfl, Nat.le_of_ble_eq_true rfl⟩) (ro_PV (ci := 1) (q0 := 2) hK hP rfl rfl) rfl rfl hl.1 rfl (lv_room (Nat.le_of_ble_eq_true rfl)) d_M_itsClass_8 ⟨Nat.le_of_ble_eq_true rfl, Nat.le_of_ble_eq_true rfl⟩) (fun r8 h => ?_)
  exact W.iret (v := r8) hx hb hr9 (fun t ht hW => ⟨_, rfl, h, ht⟩) (fun _ h9 => nomatch h9) d_M_itsClass_11
def wqM_holdsSlot (nW : Nat) (nE : Nat) (f : Nat → Int32) (P : Nat → Int32) (a1 : Int32) (a2 : Int32) (post : Int32 → Prop) : Prop :=
  wqM_holdsSlots nW nE f P a1 (fun r2 => (r2 = 0 → (post (0 : Int32))) ∧ (¬ (r2 = 0) → ((a2 < 0 → (post (0 : Int32))) ∧ (¬ (a2 < 0) → (wqM_count nW nE f P a1 (fun r15 => (r15 ≤ a2 → (post (0 : Int32))) ∧ (¬ (r15 ≤ a2) → (post (1 : Int32)))))))))
set_option maxHeartbeats 4000000 in
set_option maxRecDepth 100000 in
theorem mM_holdsSlot (l : Launch) (dC : Nat → ClassId) (dI : Nat → Nat → Nat) (cA : ClassId) (a0 : Nat) (aR : Nat) (aM : Nat) (aW : Nat) (aP : Nat) (aS : Nat) (aC : Nat) (aO : Nat) (nW : Nat) (nE : Nat) (R : Nat → Int32) (f : Nat → Int32) (us : Int32) (P : Nat → Int32) (S : Nat → Int32) (sc : Int32) (li : Int32) (rc : Nat → Int32) (rn : Int32) (ro : Nat → Int32) (rd : Int32) (st : Int32) (a1 : Int32) (a2 : Int32) (post : Int32 → Prop) (h : wqM_holdsSlot nW nE f P a1 a2 post) : Met l y_M_holdsSlot ws_M_holdsSlot ({ frames := 4, cells := 0, slots := 0, locals := 84 }) (ro_P (dC, dI) vwCl (TSw cA a0 aR aM aW aP aS aC aO nW nE R f us P S sc li rc rn ro rd st) [(cA, .int)] [.ref aM, .int a1, .int a2]) (rq_i post) 0 0 (fun _ => False) := by
  refine Met.ofW (cc := c_M_holdsSlot) (maxL := 3) (ret := (some .boolean)) (by decide) rfl ?_
  intro p e s m args below meth c s₁ B hml hv
  obtain ⟨rfl, hP, hK⟩ := hv
  have hx := B.exec
  have hb := B.bytes
  have hr9 := B.returns
  have hts := atoms_spec (ws := ws_M_holdsSlot) B.pre
  have hw : ∀ w ∈ WB_, w.before _ s = true := fun w h => hts w (List.mem_cons_of_mem _ h)
  have hown : s.vm.findClass R_M = some m.cls := findClass_of_methodNamed B.named
  have hlocks := B.notSynchronized
  have hl := lv_entry ([.ref aM, .int a1, .int a2]) (n := 3) (Nat.le_of_ble_eq_true rfl)
  rw [lg_entry_eq]
  generalize (lg_sl ([.ref aM, .int a1, .int a2]) ++ List.replicate (3 - (lg_sl ([.ref aM, .int a1, .int a2])).length) Slot.unset).toArray = ls at hl ⊢
  have hl : lv_has ls 3 [(0, .ref aM), (1, .int a1), (2, .int a2)] := hl
  unfold wqM_holdsSlot at h
  refine lv_aload_n hx hb d_M_holdsSlot_0 rfl (lv_at hl 0 rfl) ?_
  refine lv_iload_n hx hb d_M_holdsSlot_1 rfl (lv_at hl 1 rfl) ?_
  refine rq_calli (W.runV (As := [.int a1]) (rest := []) ⟨hx, hb, hml, hown, hw⟩ (mM_holdsSlots l dC dI cA a0 aR aM aW aP aS aC aO nW nE R f us P S sc li rc rn ro rd st a1 _ h) (cwV 1 hw g_M_67 rfl rfl rfl (by decide +kernel) ⟨Nat.le_of_ble_eq_true rfl, Nat.le_of_ble_eq_true rfl⟩) (ro_PV (ci := 1) (q0 := 2) hK hP rfl rfl) rfl rfl hl.1 rfl (lv_room (Nat.le_of_ble_eq_true rfl)) d_M_holdsSlot_2 ⟨Nat.le_of_ble_eq_true rfl, Nat.le_of_ble_eq_true rfl⟩) (fun r2 h => ?_)
  refine lv_if_eq (tgt := 25) hx hb d_M_holdsSlot_5 (by decide) (fun c_5 => ?_) (fun c_5 => ?_)
  · have h := h.1 c_5
    refine lv_iconst (v := (0 : Int32)) hx hb d_M_holdsSlot_25 (by decide) ?_
    exact W.zret (v := (0 : Int32)) (ty := .boolean) hx hb hr9 rfl (fun t ht hW => ⟨_, rfl, h, ht⟩) (fun _ h9 => nomatch h9) d_M_holdsSlot_26
  · have h := h.2 c_5
    refine lv_iload_n hx hb d_M_holdsSlot_8 rfl (lv_at hl 2 rfl) ?_
    refine lv_if_lt (tgt := 25) hx hb d_M_holdsSlot_9 (by decide) (fun c_9 => ?_) (fun c_9 => ?_)
    · have h := h.1 c_9
      refine lv_iconst (v := (0 : Int32)) hx hb d_M_holdsSlot_25 (by decide) ?_
      exact W.zret (v := (0 : Int32)) (ty := .boolean) hx hb hr9 rfl (fun t ht hW => ⟨_, rfl, h, ht⟩) (fun _ h9 => nomatch h9) d_M_holdsSlot_26
    · have h := h.2 c_9
      refine lv_iload_n hx hb d_M_holdsSlot_12 rfl (lv_at hl 2 rfl) ?_
      refine lv_aload_n hx hb d_M_holdsSlot_13 rfl (lv_at hl 0 rfl) ?_
      refine lv_iload_n hx hb d_M_holdsSlot_14 rfl (lv_at hl 1 rfl) ?_
      refine rq_calli (W.runV (As := [.int a1]) (rest := [.int a2]) ⟨hx, hb, hml, hown, hw⟩ (mM_count l dC dI cA a0 aR aM aW aP aS aC aO nW nE R f us P S sc li rc rn ro rd st a1 _ h) (cwV 1 hw g_M_70 rfl rfl rfl (by decide +kernel) ⟨Nat.le_of_ble_eq_true rfl, Nat.le_of_ble_eq_true rfl⟩) (ro_PV (ci := 1) (q0 := 2) hK hP rfl rfl) rfl rfl hl.1 rfl (lv_room (Nat.le_of_ble_eq_true rfl)) d_M_holdsSlot_15 ⟨Nat.le_of_ble_eq_true rfl, Nat.le_of_ble_eq_true rfl⟩) (fun r15 h => ?_)
      refine lv_icmp_ge (tgt := 25) hx hb d_M_holdsSlot_18 (by decide) (fun c_18 => ?_) (fun c_18 => ?_)
      · have h := h.1 c_18
        refine lv_iconst (v := (0 : Int32)) hx hb d_M_holdsSlot_25 (by decide) ?_
        exact W.zret (v := (0 : Int32)) (ty := .boolean) hx hb hr9 rfl (fun t ht hW => ⟨_, rfl, h, ht⟩) (fun _ h9 => nomatch h9) d_M_holdsSlot_26
      · have h := h.2 c_18
        refine lv_iconst (v := (1 : Int32)) hx hb d_M_holdsSlot_21 (by decide) ?_
        refine lv_goto (tgt := 26) hx hb d_M_holdsSlot_22 (by decide) ?_
        exact W.zret (v := (1 : Int32)) (ty := .boolean) hx hb hr9 rfl (fun t ht hW => ⟨_, rfl, h, ht⟩) (fun _ h9 => nomatch h9) d_M_holdsSlot_26
def wqM_slot (nW : Nat) (nE : Nat) (f : Nat → Int32) (P : Nat → Int32) (a1 : Int32) (a2 : Int32) (post : Int32 → Prop) : Prop :=
  wqM_place nW nE P a1 (fun r3 => wqM_word nW nE f ((r3 + (4 : Int32)) + a2) (fun r10 => post r10))
set_option maxHeartbeats 4000000 in
set_option maxRecDepth 100000 in
theorem mM_slot (l : Launch) (dC : Nat → ClassId) (dI : Nat → Nat → Nat) (cA : ClassId) (a0 : Nat) (aR : Nat) (aM : Nat) (aW : Nat) (aP : Nat) (aS : Nat) (aC : Nat) (aO : Nat) (nW : Nat) (nE : Nat) (R : Nat → Int32) (f : Nat → Int32) (us : Int32) (P : Nat → Int32) (S : Nat → Int32) (sc : Int32) (li : Int32) (rc : Nat → Int32) (rn : Int32) (ro : Nat → Int32) (rd : Int32) (st : Int32) (a1 : Int32) (a2 : Int32) (post : Int32 → Prop) (h : wqM_slot nW nE f P a1 a2 post) : Met l y_M_slot ws_M_slot ({ frames := 2, cells := 0, slots := 0, locals := 42 }) (ro_P (dC, dI) vwCl (TSw cA a0 aR aM aW aP aS aC aO nW nE R f us P S sc li rc rn ro rd st) [(cA, .int)] [.ref aM, .int a1, .int a2]) (rq_i post) 0 0 (fun _ => False) := by
  refine Met.ofW (cc := c_M_slot) (maxL := 3) (ret := (some .int)) (by decide) rfl ?_
  intro p e s m args below meth c s₁ B hml hv
  obtain ⟨rfl, hP, hK⟩ := hv
  have hx := B.exec
  have hb := B.bytes
  have hr9 := B.returns
  have hts := atoms_spec (ws := ws_M_slot) B.pre
  have hw : ∀ w ∈ WB_, w.before _ s = true := fun w h => hts w (List.mem_cons_of_mem _ h)
  have hown : s.vm.findClass R_M = some m.cls := findClass_of_methodNamed B.named
  have hlocks := B.notSynchronized
  have hl := lv_entry ([.ref aM, .int a1, .int a2]) (n := 3) (Nat.le_of_ble_eq_true rfl)
  rw [lg_entry_eq]
  generalize (lg_sl ([.ref aM, .int a1, .int a2]) ++ List.replicate (3 - (lg_sl ([.ref aM, .int a1, .int a2])).length) Slot.unset).toArray = ls at hl ⊢
  have hl : lv_has ls 3 [(0, .ref aM), (1, .int a1), (2, .int a2)] := hl
  unfold wqM_slot at h
  refine lv_aload_n hx hb d_M_slot_0 rfl (lv_at hl 0 rfl) ?_
  refine lv_aload_n hx hb d_M_slot_1 rfl (lv_at hl 0 rfl) ?_
  refine lv_iload_n hx hb d_M_slot_2 rfl (lv_at hl 1 rfl) ?_
  refine rq_calli (W.runV (As := [.int a1]) (rest := [.ref aM]) ⟨hx, hb, hml, hown, hw⟩ (mM_place l dC dI cA a0 aR aM aW aP aS aC aO nW nE R f us P S sc li rc rn ro rd st a1 _ h) (cwV 1 hw g_M_55 rfl rfl rfl (by decide +kernel) ⟨Nat.le_of_ble_eq_true rfl, Nat.le_of_ble_eq_true rfl⟩) (ro_PV (ci := 1) (q0 := 2) hK hP rfl rfl) rfl rfl hl.1 rfl (lv_room (Nat.le_of_ble_eq_true rfl)) d_M_slot_3 ⟨Nat.le_of_ble_eq_true rfl, Nat.le_of_ble_eq_true rfl⟩) (fun r3 h => ?_)
  refine lv_iconst (v := (4 : Int32)) hx hb d_M_slot_6 (by decide) ?_
  refine lv_iadd hx hb d_M_slot_7 ?_
  refine lv_iload_n hx hb d_M_slot_8 rfl (lv_at hl 2 rfl) ?_
  refine lv_iadd hx hb d_M_slot_9 ?_
  refine rq_calli (W.runV (As := [.int ((r3 + (4 : Int32)) + a2)]) (rest := []) ⟨hx, hb, hml, hown, hw⟩ (mM_word l dC dI cA a0 aR aM aW aP aS aC aO nW nE R f us P S sc li rc rn ro rd st ((r3 + (4 : Int32)) + a2) _ h) (cwV 1 hw g_M_58 rfl rfl rfl (by decide +kernel) ⟨Nat.le_of_ble_eq_true rfl, Nat.le_of_ble_eq_true rfl⟩) (ro_PV (ci := 1) (q0 := 2) hK hP rfl rfl) rfl rfl hl.1 rfl (lv_room (Nat.le_of_ble_eq_true rfl)) d_M_slot_10 ⟨Nat.le_of_ble_eq_true rfl, Nat.le_of_ble_eq_true rfl⟩) (fun r10 h => ?_)
  exact W.iret (v := r10) hx hb hr9 (fun t ht hW => ⟨_, rfl, h, ht⟩) (fun _ h9 => nomatch h9) d_M_slot_13
def wqM_byteFrom (nW : Nat) (nE : Nat) (f : Nat → Int32) (a1 : Int32) (a2 : Int32) (post : Int32 → Prop) : Prop :=
  wqM_word nW nE f (a1 + (a2 >>> ((2 : Int32) &&& 31))) (fun r6 => wqM_shiftOf a2 (fun r10 => post (((r6.toUInt32 >>> (r10.toUInt32 &&& Int32.toUInt32 31)).toInt32) &&& (255 : Int32))))
set_option maxHeartbeats 4000000 in
set_option maxRecDepth 100000 in
theorem mM_byteFrom (l : Launch) (dC : Nat → ClassId) (dI : Nat → Nat → Nat) (cA : ClassId) (a0 : Nat) (aR : Nat) (aM : Nat) (aW : Nat) (aP : Nat) (aS : Nat) (aC : Nat) (aO : Nat) (nW : Nat) (nE : Nat) (R : Nat → Int32) (f : Nat → Int32) (us : Int32) (P : Nat → Int32) (S : Nat → Int32) (sc : Int32) (li : Int32) (rc : Nat → Int32) (rn : Int32) (ro : Nat → Int32) (rd : Int32) (st : Int32) (a1 : Int32) (a2 : Int32) (post : Int32 → Prop) (h : wqM_byteFrom nW nE f a1 a2 post) : Met l y_M_byteFrom ws_M_byteFrom ({ frames := 1, cells := 0, slots := 0, locals := 21 }) (ro_P (dC, dI) vwCl (TSw cA a0 aR aM aW aP aS aC aO nW nE R f us P S sc li rc rn ro rd st) [(cA, .int)] [.ref aM, .int a1, .int a2]) (rq_i post) 0 0 (fun _ => False) := by
  refine Met.ofW (cc := c_M_byteFrom) (maxL := 3) (ret := (some .int)) (by decide) rfl ?_
  intro p e s m args below meth c s₁ B hml hv
  obtain ⟨rfl, hP, hK⟩ := hv
  have hx := B.exec
  have hb := B.bytes
  have hr9 := B.returns
  have hts := atoms_spec (ws := ws_M_byteFrom) B.pre
  have hw : ∀ w ∈ WB_, w.before _ s = true := fun w h => hts w (List.mem_cons_of_mem _ h)
  have hown : s.vm.findClass R_M = some m.cls := findClass_of_methodNamed B.named
  have hlocks := B.notSynchronized
  have hl := lv_entry ([.ref aM, .int a1, .int a2]) (n := 3) (Nat.le_of_ble_eq_true rfl)
  rw [lg_entry_eq]
  generalize (lg_sl ([.ref aM, .int a1, .int a2]) ++ List.replicate (3 - (lg_sl ([.ref aM, .int a1, .int a2])).length) Slot.unset).toArray = ls at hl ⊢
  have hl : lv_has ls 3 [(0, .ref aM), (1, .int a1), (2, .int a2)] := hl
  unfold wqM_byteFrom at h
  refine lv_aload_n hx hb d_M_byteFrom_0 rfl (lv_at hl 0 rfl) ?_
  refine lv_iload_n hx hb d_M_byteFrom_1 rfl (lv_at hl 1 rfl) ?_
  refine lv_iload_n hx hb d_M_byteFrom_2 rfl (lv_at hl 2 rfl) ?_
  refine lv_iconst (v := (2 : Int32)) hx hb d_M_byteFrom_3 (by decide) ?_
  refine lv_ishr hx hb d_M_byteFrom_4 ?_
  refine lv_iadd hx hb d_M_byteFrom_5 ?_
  refine rq_calli (W.runV (As := [.int (a1 + (a2 >>> ((2 : Int32) &&& 31)))]) (rest := []) ⟨hx, hb, hml, hown, hw⟩ (mM_word l dC dI cA a0 aR aM aW aP aS aC aO nW nE R f us P S sc li rc rn ro rd st (a1 + (a2 >>> ((2 : Int32) &&& 31))) _ h) (cwV 1 hw g_M_58 rfl rfl rfl (by decide +kernel) ⟨Nat.le_of_ble_eq_true rfl, Nat.le_of_ble_eq_true rfl⟩) (ro_PV (ci := 1) (q0 := 2) hK hP rfl rfl) rfl rfl hl.1 rfl (lv_room (Nat.le_of_ble_eq_true rfl)) d_M_byteFrom_6 ⟨Nat.le_of_ble_eq_true rfl, Nat.le_of_ble_eq_true rfl⟩) (fun r6 h => ?_)
  refine lv_iload_n hx hb d_M_byteFrom_9 rfl (lv_at hl 2 rfl) ?_
  refine rq_calli (W.runS (As := [.int a2]) (rest := [.int r6]) ⟨hx, hb, hml, hown, hw⟩ (mM_shiftOf l a2 _ h) (va_cwS 1 hw g_M_80 rfl rfl rfl (by decide +kernel) ⟨Nat.le_of_ble_eq_true rfl, Nat.le_of_ble_eq_true rfl⟩) preEq rfl rfl hl.1 rfl (lv_room (Nat.le_of_ble_eq_true rfl)) d_M_byteFrom_10 ⟨Nat.le_of_ble_eq_true rfl, Nat.le_of_ble_eq_true rfl⟩) (fun r10 h => ?_)
  refine lv_iushr (v := (r6.toUInt32 >>> (r10.toUInt32 &&& Int32.toUInt32 31)).toInt32) hx hb d_M_byteFrom_13 rfl ?_
  refine lv_sipush (v := (255 : Int32)) hx hb d_M_byteFrom_14 (by decide) ?_
  refine lv_iand hx hb d_M_byteFrom_17 ?_
  exact W.iret (v := ((r6.toUInt32 >>> (r10.toUInt32 &&& Int32.toUInt32 31)).toInt32) &&& (255 : Int32)) hx hb hr9 (fun t ht hW => ⟨_, rfl, h, ht⟩) (fun _ h9 => nomatch h9) d_M_byteFrom_18
def wqM_oneByte (nW : Nat) (nE : Nat) (f : Nat → Int32) (P : Nat → Int32) (a1 : Int32) (a2 : Int32) (post : Int32 → Prop) : Prop :=
  wqM_place nW nE P a1 (fun r3 => wqM_byteFrom nW nE f (r3 + (4 : Int32)) a2 (fun r9 => post r9))
set_option maxHeartbeats 4000000 in
set_option maxRecDepth 100000 in
theorem mM_oneByte (l : Launch) (dC : Nat → ClassId) (dI : Nat → Nat → Nat) (cA : ClassId) (a0 : Nat) (aR : Nat) (aM : Nat) (aW : Nat) (aP : Nat) (aS : Nat) (aC : Nat) (aO : Nat) (nW : Nat) (nE : Nat) (R : Nat → Int32) (f : Nat → Int32) (us : Int32) (P : Nat → Int32) (S : Nat → Int32) (sc : Int32) (li : Int32) (rc : Nat → Int32) (rn : Int32) (ro : Nat → Int32) (rd : Int32) (st : Int32) (a1 : Int32) (a2 : Int32) (post : Int32 → Prop) (h : wqM_oneByte nW nE f P a1 a2 post) : Met l y_M_oneByte ws_M_oneByte ({ frames := 2, cells := 0, slots := 0, locals := 43 }) (ro_P (dC, dI) vwCl (TSw cA a0 aR aM aW aP aS aC aO nW nE R f us P S sc li rc rn ro rd st) [(cA, .int)] [.ref aM, .int a1, .int a2]) (rq_i post) 0 0 (fun _ => False) := by
  refine Met.ofW (cc := c_M_oneByte) (maxL := 3) (ret := (some .int)) (by decide) rfl ?_
  intro p e s m args below meth c s₁ B hml hv
  obtain ⟨rfl, hP, hK⟩ := hv
  have hx := B.exec
  have hb := B.bytes
  have hr9 := B.returns
  have hts := atoms_spec (ws := ws_M_oneByte) B.pre
  have hw : ∀ w ∈ WB_, w.before _ s = true := fun w h => hts w (List.mem_cons_of_mem _ h)
  have hown : s.vm.findClass R_M = some m.cls := findClass_of_methodNamed B.named
  have hlocks := B.notSynchronized
  have hl := lv_entry ([.ref aM, .int a1, .int a2]) (n := 3) (Nat.le_of_ble_eq_true rfl)
  rw [lg_entry_eq]
  generalize (lg_sl ([.ref aM, .int a1, .int a2]) ++ List.replicate (3 - (lg_sl ([.ref aM, .int a1, .int a2])).length) Slot.unset).toArray = ls at hl ⊢
  have hl : lv_has ls 3 [(0, .ref aM), (1, .int a1), (2, .int a2)] := hl
  unfold wqM_oneByte at h
  refine lv_aload_n hx hb d_M_oneByte_0 rfl (lv_at hl 0 rfl) ?_
  refine lv_aload_n hx hb d_M_oneByte_1 rfl (lv_at hl 0 rfl) ?_
  refine lv_iload_n hx hb d_M_oneByte_2 rfl (lv_at hl 1 rfl) ?_
  refine rq_calli (W.runV (As := [.int a1]) (rest := [.ref aM]) ⟨hx, hb, hml, hown, hw⟩ (mM_place l dC dI cA a0 aR aM aW aP aS aC aO nW nE R f us P S sc li rc rn ro rd st a1 _ h) (cwV 1 hw g_M_55 rfl rfl rfl (by decide +kernel) ⟨Nat.le_of_ble_eq_true rfl, Nat.le_of_ble_eq_true rfl⟩) (ro_PV (ci := 1) (q0 := 2) hK hP rfl rfl) rfl rfl hl.1 rfl (lv_room (Nat.le_of_ble_eq_true rfl)) d_M_oneByte_3 ⟨Nat.le_of_ble_eq_true rfl, Nat.le_of_ble_eq_true rfl⟩) (fun r3 h => ?_)
  refine lv_iconst (v := (4 : Int32)) hx hb d_M_oneByte_6 (by decide) ?_
  refine lv_iadd hx hb d_M_oneByte_7 ?_
  refine lv_iload_n hx hb d_M_oneByte_8 rfl (lv_at hl 2 rfl) ?_
  refine rq_calli (W.runV (As := [.int (r3 + (4 : Int32)), .int a2]) (rest := []) ⟨hx, hb, hml, hown, hw⟩ (mM_byteFrom l dC dI cA a0 aR aM aW aP aS aC aO nW nE R f us P S sc li rc rn ro rd st (r3 + (4 : Int32)) a2 _ h) (cwV 2 hw g_M_77 rfl rfl rfl (by decide +kernel) ⟨Nat.le_of_ble_eq_true rfl, Nat.le_of_ble_eq_true rfl⟩) (ro_PV (ci := 1) (q0 := 2) hK hP rfl rfl) rfl rfl hl.1 rfl (lv_room (Nat.le_of_ble_eq_true rfl)) d_M_oneByte_9 ⟨Nat.le_of_ble_eq_true rfl, Nat.le_of_ble_eq_true rfl⟩) (fun r9 h => ?_)
  exact W.iret (v := r9) hx hb hr9 (fun t ht hW => ⟨_, rfl, h, ht⟩) (fun _ h9 => nomatch h9) d_M_oneByte_12
def wqM_sumOfBytes_21 (nW : Nat) (nE : Nat) (f : Nat → Int32) (P : Nat → Int32) (y1_21 : Int32) (y2_21 : Int32) (y3_21 : Int32) (post : Int32 → Prop) (kx : Int32 → Int32 → Prop) : Nat → Int32 → Int32 → Prop
  | 0, _, _ => False
  | n + 1, x4_21, x5_21 =>
    (y3_21 ≤ x5_21 → (kx x4_21 x5_21)) ∧ (¬ (y3_21 ≤ x5_21) → (wqM_byteFrom nW nE f y2_21 x5_21 (fun r36 => wqM_sumOfBytes_21 nW nE f P y1_21 y2_21 y3_21 post kx n (((31 : Int32) * x4_21) + r36) (x5_21 + (1 : Int32)))))
def wqM_sumOfBytes (nW : Nat) (nE : Nat) (f : Nat → Int32) (P : Nat → Int32) (a1 : Int32) (post : Int32 → Prop) : Prop :=
  wqM_place nW nE P a1 (fun r2 => wqM_count nW nE f P a1 (fun r10 => ∃ k_21, wqM_sumOfBytes_21 nW nE f P a1 (r2 + (4 : Int32)) r10 post (fun z4_21 z5_21 => post z4_21) k_21 (7 : Int32) (0 : Int32)))
set_option maxHeartbeats 4000000 in
set_option maxRecDepth 100000 in
theorem mM_sumOfBytes (l : Launch) (dC : Nat → ClassId) (dI : Nat → Nat → Nat) (cA : ClassId) (a0 : Nat) (aR : Nat) (aM : Nat) (aW : Nat) (aP : Nat) (aS : Nat) (aC : Nat) (aO : Nat) (nW : Nat) (nE : Nat) (R : Nat → Int32) (f : Nat → Int32) (us : Int32) (P : Nat → Int32) (S : Nat → Int32) (sc : Int32) (li : Int32) (rc : Nat → Int32) (rn : Int32) (ro : Nat → Int32) (rd : Int32) (st : Int32) (a1 : Int32) (post : Int32 → Prop) (h : wqM_sumOfBytes nW nE f P a1 post) : Met l y_M_sumOfBytes ws_M_sumOfBytes ({ frames := 4, cells := 0, slots := 0, locals := 84 }) (ro_P (dC, dI) vwCl (TSw cA a0 aR aM aW aP aS aC aO nW nE R f us P S sc li rc rn ro rd st) [(cA, .int)] [.ref aM, .int a1]) (rq_i post) 0 0 (fun _ => False) := by
  refine Met.ofW (cc := c_M_sumOfBytes) (maxL := 6) (ret := (some .int)) (by decide) rfl ?_
  intro p e s m args below meth c s₁ B hml hv
  obtain ⟨rfl, hP, hK⟩ := hv
  have hx := B.exec
  have hb := B.bytes
  have hr9 := B.returns
  have hts := atoms_spec (ws := ws_M_sumOfBytes) B.pre
  have hw : ∀ w ∈ WB_, w.before _ s = true := fun w h => hts w (List.mem_cons_of_mem _ h)
  have hown : s.vm.findClass R_M = some m.cls := findClass_of_methodNamed B.named
  have hlocks := B.notSynchronized
  have hl := lv_entry ([.ref aM, .int a1]) (n := 6) (Nat.le_of_ble_eq_true rfl)
  rw [lg_entry_eq]
  generalize (lg_sl ([.ref aM, .int a1]) ++ List.replicate (6 - (lg_sl ([.ref aM, .int a1])).length) Slot.unset).toArray = ls at hl ⊢
  have hl : lv_has ls 6 [(0, .ref aM), (1, .int a1)] := hl
  have lp_21 : ∀ (y1_21 : Int32) (y2_21 : Int32) (y3_21 : Int32) (kx : Int32 → Int32 → Prop), (∀ (z4_21 : Int32) (z5_21 : Int32) (ls : Array Slot), lv_has ls 6 [(0, .ref aM), (1, .int y1_21), (2, .int y2_21), (3, .int y3_21), (4, .int z4_21), (5, .int z5_21)] → kx z4_21 z5_21 → W p l e (headSpec ws_M_sumOfBytes ({ frames := 4, cells := 0, slots := 0, locals := 84 })).room s m ([.ref aM, .int a1] : List Value).toArray below meth c s.heap [] (0) (0) (MQ below (rq_i post) ([.ref aM, .int a1] : List Value).toArray s 0 0 (fun _ => False)) (F0 m 48 ls [])) → ∀ (n : Nat) (x4_21 : Int32) (x5_21 : Int32) (ls : Array Slot), lv_has ls 6 [(0, .ref aM), (1, .int y1_21), (2, .int y2_21), (3, .int y3_21), (4, .int x4_21), (5, .int x5_21)] → wqM_sumOfBytes_21 nW nE f P y1_21 y2_21 y3_21 post kx n x4_21 x5_21 → W p l e (headSpec ws_M_sumOfBytes ({ frames := 4, cells := 0, slots := 0, locals := 84 })).room s m ([.ref aM, .int a1] : List Value).toArray below meth c s.heap [] (0) (0) (MQ below (rq_i post) ([.ref aM, .int a1] : List Value).toArray s 0 0 (fun _ => False)) (F0 m 21 ls []) := by
    intro y1_21 y2_21 y3_21 kx K n
    induction n with
    | zero => intro x4_21 x5_21 ls hl h; exact h.elim
    | succ n ih =>
      intro x4_21 x5_21 ls hl h
      refine lv_iload hx hb d_M_sumOfBytes_21 (lv_at hl 5 rfl) ?_
      refine lv_iload_n hx hb d_M_sumOfBytes_23 rfl (lv_at hl 3 rfl) ?_
      refine lv_icmp_ge (tgt := 48) hx hb d_M_sumOfBytes_24 (by decide) (fun c_24 => ?_) (fun c_24 => ?_)
      · have h := h.1 c_24
        exact K x4_21 x5_21 ls (lv_sub hl [0, 1, 2, 3, 4, 5] rfl) h
      · have h := h.2 c_24
        refine lv_bipush (v := (31 : Int32)) hx hb d_M_sumOfBytes_27 (by decide) ?_
        refine lv_iload hx hb d_M_sumOfBytes_29 (lv_at hl 4 rfl) ?_
        refine lv_imul hx hb d_M_sumOfBytes_31 ?_
        refine lv_aload_n hx hb d_M_sumOfBytes_32 rfl (lv_at hl 0 rfl) ?_
        refine lv_iload_n hx hb d_M_sumOfBytes_33 rfl (lv_at hl 2 rfl) ?_
        refine lv_iload hx hb d_M_sumOfBytes_34 (lv_at hl 5 rfl) ?_
        refine rq_calli (W.runV (As := [.int y2_21, .int x5_21]) (rest := [.int ((31 : Int32) * x4_21)]) ⟨hx, hb, hml, hown, hw⟩ (mM_byteFrom l dC dI cA a0 aR aM aW aP aS aC aO nW nE R f us P S sc li rc rn ro rd st y2_21 x5_21 _ h) (cwV 2 hw g_M_77 rfl rfl rfl (by decide +kernel) ⟨Nat.le_of_ble_eq_true rfl, Nat.le_of_ble_eq_true rfl⟩) (ro_PV (ci := 1) (q0 := 2) hK hP rfl rfl) rfl rfl hl.1 rfl (lv_room (Nat.le_of_ble_eq_true rfl)) d_M_sumOfBytes_36 ⟨Nat.le_of_ble_eq_true rfl, Nat.le_of_ble_eq_true rfl⟩) (fun r36 h => ?_)
        refine lv_iadd hx hb d_M_sumOfBytes_39 ?_
        refine lv_istore (lv' := [(4, .int (((31 : Int32) * x4_21) + r36)), (0, .ref aM), (1, .int y1_21), (2, .int y2_21), (3, .int y3_21), (5, .int x5_21)]) hx hb d_M_sumOfBytes_40 hl (by decide) rfl (fun ls hl => ?_)
        refine lv_iinc (v := x5_21 + (1 : Int32)) (lv' := [(5, .int (x5_21 + (1 : Int32))), (4, .int (((31 : Int32) * x4_21) + r36)), (0, .ref aM), (1, .int y1_21), (2, .int y2_21), (3, .int y3_21)]) hx hb d_M_sumOfBytes_42 hl (k := 5) rfl rfl (by decide) rfl (fun ls hl => ?_)
        refine lv_goto (tgt := 21) hx hb d_M_sumOfBytes_45 (by decide) ?_
        exact ih (((31 : Int32) * x4_21) + r36) (x5_21 + (1 : Int32)) ls (lv_sub hl [2, 3, 4, 5, 1, 0] rfl) h
  unfold wqM_sumOfBytes at h
  refine lv_aload_n hx hb d_M_sumOfBytes_0 rfl (lv_at hl 0 rfl) ?_
  refine lv_iload_n hx hb d_M_sumOfBytes_1 rfl (lv_at hl 1 rfl) ?_
  refine rq_calli (W.runV (As := [.int a1]) (rest := []) ⟨hx, hb, hml, hown, hw⟩ (mM_place l dC dI cA a0 aR aM aW aP aS aC aO nW nE R f us P S sc li rc rn ro rd st a1 _ h) (cwV 1 hw g_M_55 rfl rfl rfl (by decide +kernel) ⟨Nat.le_of_ble_eq_true rfl, Nat.le_of_ble_eq_true rfl⟩) (ro_PV (ci := 1) (q0 := 2) hK hP rfl rfl) rfl rfl hl.1 rfl (lv_room (Nat.le_of_ble_eq_true rfl)) d_M_sumOfBytes_2 ⟨Nat.le_of_ble_eq_true rfl, Nat.le_of_ble_eq_true rfl⟩) (fun r2 h => ?_)
  refine lv_iconst (v := (4 : Int32)) hx hb d_M_sumOfBytes_5 (by decide) ?_
  refine lv_iadd hx hb d_M_sumOfBytes_6 ?_
  refine lv_istore_n (lv' := [(2, .int (r2 + (4 : Int32))), (0, .ref aM), (1, .int a1)]) hx hb d_M_sumOfBytes_7 rfl hl (by decide) rfl (fun ls hl => ?_)
  refine lv_aload_n hx hb d_M_sumOfBytes_8 rfl (lv_at hl 1 rfl) ?_
  refine lv_iload_n hx hb d_M_sumOfBytes_9 rfl (lv_at hl 2 rfl) ?_
  refine rq_calli (W.runV (As := [.int a1]) (rest := []) ⟨hx, hb, hml, hown, hw⟩ (mM_count l dC dI cA a0 aR aM aW aP aS aC aO nW nE R f us P S sc li rc rn ro rd st a1 _ h) (cwV 1 hw g_M_70 rfl rfl rfl (by decide +kernel) ⟨Nat.le_of_ble_eq_true rfl, Nat.le_of_ble_eq_true rfl⟩) (ro_PV (ci := 1) (q0 := 2) hK hP rfl rfl) rfl rfl hl.1 rfl (lv_room (Nat.le_of_ble_eq_true rfl)) d_M_sumOfBytes_10 ⟨Nat.le_of_ble_eq_true rfl, Nat.le_of_ble_eq_true rfl⟩) (fun r10 h => ?_)
  refine lv_istore_n (lv' := [(3, .int r10), (2, .int (r2 + (4 : Int32))), (0, .ref aM), (1, .int a1)]) hx hb d_M_sumOfBytes_13 rfl hl (by decide) rfl (fun ls hl => ?_)
  refine lv_bipush (v := (7 : Int32)) hx hb d_M_sumOfBytes_14 (by decide) ?_
  refine lv_istore (lv' := [(4, .int (7 : Int32)), (3, .int r10), (2, .int (r2 + (4 : Int32))), (0, .ref aM), (1, .int a1)]) hx hb d_M_sumOfBytes_16 hl (by decide) rfl (fun ls hl => ?_)
  refine lv_iconst (v := (0 : Int32)) hx hb d_M_sumOfBytes_18 (by decide) ?_
  refine lv_istore (lv' := [(5, .int (0 : Int32)), (4, .int (7 : Int32)), (3, .int r10), (2, .int (r2 + (4 : Int32))), (0, .ref aM), (1, .int a1)]) hx hb d_M_sumOfBytes_19 hl (by decide) rfl (fun ls hl => ?_)
  obtain ⟨n_21, h⟩ := h
  refine lp_21 a1 (r2 + (4 : Int32)) r10 _ (fun z4_21 z5_21 ls hl h => ?_) n_21 (7 : Int32) (0 : Int32) ls (lv_sub hl [4, 5, 3, 2, 1, 0] rfl) h
  refine lv_iload hx hb d_M_sumOfBytes_48 (lv_at hl 4 rfl) ?_
  exact W.iret (v := z4_21) hx hb hr9 (fun t ht hW => ⟨_, rfl, h, ht⟩) (fun _ h9 => nomatch h9) d_M_sumOfBytes_50
def wqM_freeWords (nW : Nat) (nE : Nat) (us : Int32) (post : Int32 → Prop) : Prop :=
  post ((nI nW) - us)
set_option maxHeartbeats 4000000 in
set_option maxRecDepth 100000 in
theorem mM_freeWords (l : Launch) (dC : Nat → ClassId) (dI : Nat → Nat → Nat) (cA : ClassId) (a0 : Nat) (aR : Nat) (aM : Nat) (aW : Nat) (aP : Nat) (aS : Nat) (aC : Nat) (aO : Nat) (nW : Nat) (nE : Nat) (R : Nat → Int32) (f : Nat → Int32) (us : Int32) (P : Nat → Int32) (S : Nat → Int32) (sc : Int32) (li : Int32) (rc : Nat → Int32) (rn : Int32) (ro : Nat → Int32) (rd : Int32) (st : Int32) (post : Int32 → Prop) (h : wqM_freeWords nW nE us post) : Met l y_M_freeWords ws_M_freeWords ({ frames := 0, cells := 0, slots := 0, locals := 0 }) (ro_P (dC, dI) vwCl (TSw cA a0 aR aM aW aP aS aC aO nW nE R f us P S sc li rc rn ro rd st) [(cA, .int)] [.ref aM]) (rq_i post) 0 0 (fun _ => False) := by
  refine Met.ofW (cc := c_M_freeWords) (maxL := 1) (ret := (some .int)) (by decide) rfl ?_
  intro p e s m args below meth c s₁ B hml hv
  obtain ⟨rfl, hP, hK⟩ := hv
  have hx := B.exec
  have hb := B.bytes
  have hr9 := B.returns
  have hts := atoms_spec (ws := ws_M_freeWords) B.pre
  have hw : ∀ w ∈ WB_, w.before _ s = true := fun w h => hts w (List.mem_cons_of_mem _ h)
  have hown : s.vm.findClass R_M = some m.cls := findClass_of_methodNamed B.named
  have hlocks := B.notSynchronized
  have hl := lv_entry ([.ref aM]) (n := 1) (Nat.le_of_ble_eq_true rfl)
  rw [lg_entry_eq]
  generalize (lg_sl ([.ref aM]) ++ List.replicate (1 - (lg_sl ([.ref aM])).length) Slot.unset).toArray = ls at hl ⊢
  have hl : lv_has ls 1 [(0, .ref aM)] := hl
  unfold wqM_freeWords at h
  refine lv_aload_n hx hb d_M_freeWords_0 rfl (lv_at hl 0 rfl) ?_
  refine va_get (D := (dC, dI)) (ci := 1) (v := .ref aW) (C := R_M) (T := T_M) (N := 11) hx hb hw in_M hown hK hP 2 rfl rfl 0 (by decide) (hw _ wd_68) (fun _ h9 => h9) rfl d_M_freeWords_1 ?_
  refine va_alen (v := nI nW) hx hb hK hP 3 0 rfl rfl rfl d_M_freeWords_4 ?_
  refine lv_aload_n hx hb d_M_freeWords_5 rfl (lv_at hl 0 rfl) ?_
  refine va_get (D := (dC, dI)) (ci := 1) (v := .int us) (C := R_M) (T := T_M) (N := 11) hx hb hw in_M hown hK hP 2 rfl rfl 1 (by decide) (hw _ wd_69) (fun _ h9 => h9) rfl d_M_freeWords_6 ?_
  refine lv_isub hx hb d_M_freeWords_9 ?_
  exact W.iret (v := (nI nW) - us) hx hb hr9 (fun t ht hW => ⟨_, rfl, h, ht⟩) (fun _ h9 => nomatch h9) d_M_freeWords_10
def wqM_freeEntries (nW : Nat) (nE : Nat) (sc : Int32) (post : Int32 → Prop) : Prop :=
  post sc
set_option maxHeartbeats 4000000 in
set_option maxRecDepth 100000 in
theorem mM_freeEntries (l : Launch) (dC : Nat → ClassId) (dI : Nat → Nat → Nat) (cA : ClassId) (a0 : Nat) (aR : Nat) (aM : Nat) (aW : Nat) (aP : Nat) (aS : Nat) (aC : Nat) (aO : Nat) (nW : Nat) (nE : Nat) (R : Nat → Int32) (f : Nat → Int32) (us : Int32) (P : Nat → Int32) (S : Nat → Int32) (sc : Int32) (li : Int32) (rc : Nat → Int32) (rn : Int32) (ro : Nat → Int32) (rd : Int32) (st : Int32) (post : Int32 → Prop) (h : wqM_freeEntries nW nE sc post) : Met l y_M_freeEntries ws_M_freeEntries ({ frames := 0, cells := 0, slots := 0, locals := 0 }) (ro_P (dC, dI) vwCl (TSw cA a0 aR aM aW aP aS aC aO nW nE R f us P S sc li rc rn ro rd st) [(cA, .int)] [.ref aM]) (rq_i post) 0 0 (fun _ => False) := by
  refine Met.ofW (cc := c_M_freeEntries) (maxL := 1) (ret := (some .int)) (by decide) rfl ?_
  intro p e s m args below meth c s₁ B hml hv
  obtain ⟨rfl, hP, hK⟩ := hv
  have hx := B.exec
  have hb := B.bytes
  have hr9 := B.returns
  have hts := atoms_spec (ws := ws_M_freeEntries) B.pre
  have hw : ∀ w ∈ WB_, w.before _ s = true := fun w h => hts w (List.mem_cons_of_mem _ h)
  have hown : s.vm.findClass R_M = some m.cls := findClass_of_methodNamed B.named
  have hlocks := B.notSynchronized
  have hl := lv_entry ([.ref aM]) (n := 1) (Nat.le_of_ble_eq_true rfl)
  rw [lg_entry_eq]
  generalize (lg_sl ([.ref aM]) ++ List.replicate (1 - (lg_sl ([.ref aM])).length) Slot.unset).toArray = ls at hl ⊢
  have hl : lv_has ls 1 [(0, .ref aM)] := hl
  unfold wqM_freeEntries at h
  refine lv_aload_n hx hb d_M_freeEntries_0 rfl (lv_at hl 0 rfl) ?_
  refine va_get (D := (dC, dI)) (ci := 1) (v := .int sc) (C := R_M) (T := T_M) (N := 11) hx hb hw in_M hown hK hP 2 rfl rfl 4 (by decide) (hw _ wd_72) (fun _ h9 => h9) rfl d_M_freeEntries_1 ?_
  exact W.iret (v := sc) hx hb hr9 (fun t ht hW => ⟨_, rfl, h, ht⟩) (fun _ h9 => nomatch h9) d_M_freeEntries_4
def wqM_fits (nW : Nat) (nE : Nat) (us : Int32) (sc : Int32) (a1 : Int32) (post : Int32 → Prop) : Prop :=
  (sc ≤ 0 → (post (0 : Int32))) ∧ (¬ (sc ≤ 0) → (((nI nE) < sc → (post (0 : Int32))) ∧ (¬ ((nI nE) < sc) → ((us < 0 → (post (0 : Int32))) ∧ (¬ (us < 0) → ((((nI nW) - us) < a1 → (post (0 : Int32))) ∧ (¬ (((nI nW) - us) < a1) → (post (1 : Int32)))))))))
set_option maxHeartbeats 4000000 in
set_option maxRecDepth 100000 in
theorem mM_fits (l : Launch) (dC : Nat → ClassId) (dI : Nat → Nat → Nat) (cA : ClassId) (a0 : Nat) (aR : Nat) (aM : Nat) (aW : Nat) (aP : Nat) (aS : Nat) (aC : Nat) (aO : Nat) (nW : Nat) (nE : Nat) (R : Nat → Int32) (f : Nat → Int32) (us : Int32) (P : Nat → Int32) (S : Nat → Int32) (sc : Int32) (li : Int32) (rc : Nat → Int32) (rn : Int32) (ro : Nat → Int32) (rd : Int32) (st : Int32) (a1 : Int32) (post : Int32 → Prop) (h : wqM_fits nW nE us sc a1 post) : Met l y_M_fits ws_M_fits ({ frames := 0, cells := 0, slots := 0, locals := 0 }) (ro_P (dC, dI) vwCl (TSw cA a0 aR aM aW aP aS aC aO nW nE R f us P S sc li rc rn ro rd st) [(cA, .int)] [.ref aM, .int a1]) (rq_i post) 0 0 (fun _ => False) := by
  refine Met.ofW (cc := c_M_fits) (maxL := 2) (ret := (some .boolean)) (by decide) rfl ?_
  intro p e s m args below meth c s₁ B hml hv
  obtain ⟨rfl, hP, hK⟩ := hv
  have hx := B.exec
  have hb := B.bytes
  have hr9 := B.returns
  have hts := atoms_spec (ws := ws_M_fits) B.pre
  have hw : ∀ w ∈ WB_, w.before _ s = true := fun w h => hts w (List.mem_cons_of_mem _ h)
  have hown : s.vm.findClass R_M = some m.cls := findClass_of_methodNamed B.named
  have hlocks := B.notSynchronized
  have hl := lv_entry ([.ref aM, .int a1]) (n := 2) (Nat.le_of_ble_eq_true rfl)
  rw [lg_entry_eq]
  generalize (lg_sl ([.ref aM, .int a1]) ++ List.replicate (2 - (lg_sl ([.ref aM, .int a1])).length) Slot.unset).toArray = ls at hl ⊢
  have hl : lv_has ls 2 [(0, .ref aM), (1, .int a1)] := hl
  unfold wqM_fits at h
  refine lv_aload_n hx hb d_M_fits_0 rfl (lv_at hl 0 rfl) ?_
  refine va_get (D := (dC, dI)) (ci := 1) (v := .int sc) (C := R_M) (T := T_M) (N := 11) hx hb hw in_M hown hK hP 2 rfl rfl 4 (by decide) (hw _ wd_72) (fun _ h9 => h9) rfl d_M_fits_1 ?_
  refine lv_if_le (tgt := 44) hx hb d_M_fits_4 (by decide) (fun c_4 => ?_) (fun c_4 => ?_)
  · have h := h.1 c_4
    refine lv_iconst (v := (0 : Int32)) hx hb d_M_fits_44 (by decide) ?_
    exact W.zret (v := (0 : Int32)) (ty := .boolean) hx hb hr9 rfl (fun t ht hW => ⟨_, rfl, h, ht⟩) (fun _ h9 => nomatch h9) d_M_fits_45
  · have h := h.2 c_4
    refine lv_aload_n hx hb d_M_fits_7 rfl (lv_at hl 0 rfl) ?_
    refine va_get (D := (dC, dI)) (ci := 1) (v := .int sc) (C := R_M) (T := T_M) (N := 11) hx hb hw in_M hown hK hP 2 rfl rfl 4 (by decide) (hw _ wd_72) (fun _ h9 => h9) rfl d_M_fits_8 ?_
    refine lv_aload_n hx hb d_M_fits_11 rfl (lv_at hl 0 rfl) ?_
    refine va_get (D := (dC, dI)) (ci := 1) (v := .ref aS) (C := R_M) (T := T_M) (N := 11) hx hb hw in_M hown hK hP 2 rfl rfl 3 (by decide) (hw _ wd_71) (fun _ h9 => h9) rfl d_M_fits_12 ?_
    refine va_alen (v := nI nE) hx hb hK hP 5 0 rfl rfl rfl d_M_fits_15 ?_
    refine lv_icmp_gt (tgt := 44) hx hb d_M_fits_16 (by decide) (fun c_16 => ?_) (fun c_16 => ?_)
    · have h := h.1 c_16
      refine lv_iconst (v := (0 : Int32)) hx hb d_M_fits_44 (by decide) ?_
      exact W.zret (v := (0 : Int32)) (ty := .boolean) hx hb hr9 rfl (fun t ht hW => ⟨_, rfl, h, ht⟩) (fun _ h9 => nomatch h9) d_M_fits_45
    · have h := h.2 c_16
      refine lv_aload_n hx hb d_M_fits_19 rfl (lv_at hl 0 rfl) ?_
      refine va_get (D := (dC, dI)) (ci := 1) (v := .int us) (C := R_M) (T := T_M) (N := 11) hx hb hw in_M hown hK hP 2 rfl rfl 1 (by decide) (hw _ wd_69) (fun _ h9 => h9) rfl d_M_fits_20 ?_
      refine lv_if_lt (tgt := 44) hx hb d_M_fits_23 (by decide) (fun c_23 => ?_) (fun c_23 => ?_)
      · have h := h.1 c_23
        refine lv_iconst (v := (0 : Int32)) hx hb d_M_fits_44 (by decide) ?_
        exact W.zret (v := (0 : Int32)) (ty := .boolean) hx hb hr9 rfl (fun t ht hW => ⟨_, rfl, h, ht⟩) (fun _ h9 => nomatch h9) d_M_fits_45
      · have h := h.2 c_23
        refine lv_iload_n hx hb d_M_fits_26 rfl (lv_at hl 1 rfl) ?_
        refine lv_aload_n hx hb d_M_fits_27 rfl (lv_at hl 0 rfl) ?_
        refine va_get (D := (dC, dI)) (ci := 1) (v := .ref aW) (C := R_M) (T := T_M) (N := 11) hx hb hw in_M hown hK hP 2 rfl rfl 0 (by decide) (hw _ wd_68) (fun _ h9 => h9) rfl d_M_fits_28 ?_
        refine va_alen (v := nI nW) hx hb hK hP 3 0 rfl rfl rfl d_M_fits_31 ?_
        refine lv_aload_n hx hb d_M_fits_32 rfl (lv_at hl 0 rfl) ?_
        refine va_get (D := (dC, dI)) (ci := 1) (v := .int us) (C := R_M) (T := T_M) (N := 11) hx hb hw in_M hown hK hP 2 rfl rfl 1 (by decide) (hw _ wd_69) (fun _ h9 => h9) rfl d_M_fits_33 ?_
        refine lv_isub hx hb d_M_fits_36 ?_
        refine lv_icmp_gt (tgt := 44) hx hb d_M_fits_37 (by decide) (fun c_37 => ?_) (fun c_37 => ?_)
        · have h := h.1 c_37
          refine lv_iconst (v := (0 : Int32)) hx hb d_M_fits_44 (by decide) ?_
          exact W.zret (v := (0 : Int32)) (ty := .boolean) hx hb hr9 rfl (fun t ht hW => ⟨_, rfl, h, ht⟩) (fun _ h9 => nomatch h9) d_M_fits_45
        · have h := h.2 c_37
          refine lv_iconst (v := (1 : Int32)) hx hb d_M_fits_40 (by decide) ?_
          refine lv_goto (tgt := 45) hx hb d_M_fits_41 (by decide) ?_
          exact W.zret (v := (1 : Int32)) (ty := .boolean) hx hb hr9 rfl (fun t ht hW => ⟨_, rfl, h, ht⟩) (fun _ h9 => nomatch h9) d_M_fits_45
def wqM_isReached (nW : Nat) (nE : Nat) (ro : Nat → Int32) (rd : Int32) (a1 : Int32) (post : Int32 → Prop) : Prop :=
  (a1 < 0 → (post (0 : Int32))) ∧ (¬ (a1 < 0) → (((nI nE) ≤ a1 → (post (0 : Int32))) ∧ (¬ ((nI nE) ≤ a1) → (vp_in a1 nE ∧ (((ro a1.toNatClampNeg) = rd → (post (1 : Int32))) ∧ (¬ ((ro a1.toNatClampNeg) = rd) → (post (0 : Int32))))))))
set_option maxHeartbeats 4000000 in
set_option maxRecDepth 100000 in
theorem mM_isReached (l : Launch) (dC : Nat → ClassId) (dI : Nat → Nat → Nat) (cA : ClassId) (a0 : Nat) (aR : Nat) (aM : Nat) (aW : Nat) (aP : Nat) (aS : Nat) (aC : Nat) (aO : Nat) (nW : Nat) (nE : Nat) (R : Nat → Int32) (f : Nat → Int32) (us : Int32) (P : Nat → Int32) (S : Nat → Int32) (sc : Int32) (li : Int32) (rc : Nat → Int32) (rn : Int32) (ro : Nat → Int32) (rd : Int32) (st : Int32) (a1 : Int32) (post : Int32 → Prop) (h : wqM_isReached nW nE ro rd a1 post) : Met l y_M_isReached ws_M_isReached ({ frames := 0, cells := 0, slots := 0, locals := 0 }) (ro_P (dC, dI) vwCl (TSw cA a0 aR aM aW aP aS aC aO nW nE R f us P S sc li rc rn ro rd st) [(cA, .int)] [.ref aM, .int a1]) (rq_i post) 0 0 (fun _ => False) := by
  refine Met.ofW (cc := c_M_isReached) (maxL := 2) (ret := (some .boolean)) (by decide) rfl ?_
  intro p e s m args below meth c s₁ B hml hv
  obtain ⟨rfl, hP, hK⟩ := hv
  have hx := B.exec
  have hb := B.bytes
  have hr9 := B.returns
  have hts := atoms_spec (ws := ws_M_isReached) B.pre
  have hw : ∀ w ∈ WB_, w.before _ s = true := fun w h => hts w (List.mem_cons_of_mem _ h)
  have hown : s.vm.findClass R_M = some m.cls := findClass_of_methodNamed B.named
  have hlocks := B.notSynchronized
  have hl := lv_entry ([.ref aM, .int a1]) (n := 2) (Nat.le_of_ble_eq_true rfl)
  rw [lg_entry_eq]
  generalize (lg_sl ([.ref aM, .int a1]) ++ List.replicate (2 - (lg_sl ([.ref aM, .int a1])).length) Slot.unset).toArray = ls at hl ⊢
  have hl : lv_has ls 2 [(0, .ref aM), (1, .int a1)] := hl
  unfold wqM_isReached at h
  refine lv_iload_n hx hb d_M_isReached_0 rfl (lv_at hl 1 rfl) ?_
  refine lv_if_lt (tgt := 30) hx hb d_M_isReached_1 (by decide) (fun c_1 => ?_) (fun c_1 => ?_)
  · have h := h.1 c_1
    refine lv_iconst (v := (0 : Int32)) hx hb d_M_isReached_30 (by decide) ?_
    exact W.zret (v := (0 : Int32)) (ty := .boolean) hx hb hr9 rfl (fun t ht hW => ⟨_, rfl, h, ht⟩) (fun _ h9 => nomatch h9) d_M_isReached_31
  · have h := h.2 c_1
    refine lv_iload_n hx hb d_M_isReached_4 rfl (lv_at hl 1 rfl) ?_
    refine lv_aload_n hx hb d_M_isReached_5 rfl (lv_at hl 0 rfl) ?_
    refine va_get (D := (dC, dI)) (ci := 1) (v := .ref aO) (C := R_M) (T := T_M) (N := 11) hx hb hw in_M hown hK hP 2 rfl rfl 8 (by decide) (hw _ wd_76) (fun _ h9 => h9) rfl d_M_isReached_6 ?_
    refine va_alen (v := nI nE) hx hb hK hP 7 0 rfl rfl rfl d_M_isReached_9 ?_
    refine lv_icmp_ge (tgt := 30) hx hb d_M_isReached_10 (by decide) (fun c_10 => ?_) (fun c_10 => ?_)
    · have h := h.1 c_10
      refine lv_iconst (v := (0 : Int32)) hx hb d_M_isReached_30 (by decide) ?_
      exact W.zret (v := (0 : Int32)) (ty := .boolean) hx hb hr9 rfl (fun t ht hW => ⟨_, rfl, h, ht⟩) (fun _ h9 => nomatch h9) d_M_isReached_31
    · have h := h.2 c_10
      refine lv_aload_n hx hb d_M_isReached_13 rfl (lv_at hl 0 rfl) ?_
      refine va_get (D := (dC, dI)) (ci := 1) (v := .ref aO) (C := R_M) (T := T_M) (N := 11) hx hb hw in_M hown hK hP 2 rfl rfl 8 (by decide) (hw _ wd_76) (fun _ h9 => h9) rfl d_M_isReached_14 ?_
      refine lv_iload_n hx hb d_M_isReached_17 rfl (lv_at hl 1 rfl) ?_
      refine va_iald hx hb hK hP 7 0 rfl rfl h.1 d_M_isReached_18 ?_
      have h := h.2
      refine lv_aload_n hx hb d_M_isReached_19 rfl (lv_at hl 0 rfl) ?_
      refine va_get (D := (dC, dI)) (ci := 1) (v := .int rd) (C := R_M) (T := T_M) (N := 11) hx hb hw in_M hown hK hP 2 rfl rfl 9 (by decide) (hw _ wd_77) (fun _ h9 => h9) rfl d_M_isReached_20 ?_
      refine lv_icmp_ne (tgt := 30) hx hb d_M_isReached_23 (by decide) (fun c_23 => ?_) (fun c_23 => ?_)
      · have h := h.2 c_23
        refine lv_iconst (v := (0 : Int32)) hx hb d_M_isReached_30 (by decide) ?_
        exact W.zret (v := (0 : Int32)) (ty := .boolean) hx hb hr9 rfl (fun t ht hW => ⟨_, rfl, h, ht⟩) (fun _ h9 => nomatch h9) d_M_isReached_31
      · have h := h.1 c_23
        refine lv_iconst (v := (1 : Int32)) hx hb d_M_isReached_26 (by decide) ?_
        refine lv_goto (tgt := 31) hx hb d_M_isReached_27 (by decide) ?_
        exact W.zret (v := (1 : Int32)) (ty := .boolean) hx hb hr9 rfl (fun t ht hW => ⟨_, rfl, h, ht⟩) (fun _ h9 => nomatch h9) d_M_isReached_31
def wqM_endOfSlots (nW : Nat) (nE : Nat) (f : Nat → Int32) (a1 : Int32) (post : Int32 → Prop) : Prop :=
  wqM_word nW nE f (a1 + (3 : Int32)) (fun r4 => wqM_isOfBytes r4 (fun r12 => (r12 = 0 → (wqM_bodyWords r4 (fun r23 => post ((a1 + (4 : Int32)) + r23)))) ∧ (¬ (r12 = 0) → (post ((a1 + (4 : Int32)) + (0 : Int32))))))
set_option maxHeartbeats 4000000 in
set_option maxRecDepth 100000 in
theorem mM_endOfSlots (l : Launch) (dC : Nat → ClassId) (dI : Nat → Nat → Nat) (cA : ClassId) (a0 : Nat) (aR : Nat) (aM : Nat) (aW : Nat) (aP : Nat) (aS : Nat) (aC : Nat) (aO : Nat) (nW : Nat) (nE : Nat) (R : Nat → Int32) (f : Nat → Int32) (us : Int32) (P : Nat → Int32) (S : Nat → Int32) (sc : Int32) (li : Int32) (rc : Nat → Int32) (rn : Int32) (ro : Nat → Int32) (rd : Int32) (st : Int32) (a1 : Int32) (post : Int32 → Prop) (h : wqM_endOfSlots nW nE f a1 post) : Met l y_M_endOfSlots ws_M_endOfSlots ({ frames := 2, cells := 0, slots := 0, locals := 41 }) (ro_P (dC, dI) vwCl (TSw cA a0 aR aM aW aP aS aC aO nW nE R f us P S sc li rc rn ro rd st) [(cA, .int)] [.ref aM, .int a1]) (rq_i post) 0 0 (fun _ => False) := by
  refine Met.ofW (cc := c_M_endOfSlots) (maxL := 3) (ret := (some .int)) (by decide) rfl ?_
  intro p e s m args below meth c s₁ B hml hv
  obtain ⟨rfl, hP, hK⟩ := hv
  have hx := B.exec
  have hb := B.bytes
  have hr9 := B.returns
  have hts := atoms_spec (ws := ws_M_endOfSlots) B.pre
  have hw : ∀ w ∈ WB_, w.before _ s = true := fun w h => hts w (List.mem_cons_of_mem _ h)
  have hown : s.vm.findClass R_M = some m.cls := findClass_of_methodNamed B.named
  have hlocks := B.notSynchronized
  have hl := lv_entry ([.ref aM, .int a1]) (n := 3) (Nat.le_of_ble_eq_true rfl)
  rw [lg_entry_eq]
  generalize (lg_sl ([.ref aM, .int a1]) ++ List.replicate (3 - (lg_sl ([.ref aM, .int a1])).length) Slot.unset).toArray = ls at hl ⊢
  have hl : lv_has ls 3 [(0, .ref aM), (1, .int a1)] := hl
  unfold wqM_endOfSlots at h
  refine lv_aload_n hx hb d_M_endOfSlots_0 rfl (lv_at hl 0 rfl) ?_
  refine lv_iload_n hx hb d_M_endOfSlots_1 rfl (lv_at hl 1 rfl) ?_
  refine lv_iconst (v := (3 : Int32)) hx hb d_M_endOfSlots_2 (by decide) ?_
  refine lv_iadd hx hb d_M_endOfSlots_3 ?_
  refine rq_calli (W.runV (As := [.int (a1 + (3 : Int32))]) (rest := []) ⟨hx, hb, hml, hown, hw⟩ (mM_word l dC dI cA a0 aR aM aW aP aS aC aO nW nE R f us P S sc li rc rn ro rd st (a1 + (3 : Int32)) _ h) (cwV 1 hw g_M_58 rfl rfl rfl (by decide +kernel) ⟨Nat.le_of_ble_eq_true rfl, Nat.le_of_ble_eq_true rfl⟩) (ro_PV (ci := 1) (q0 := 2) hK hP rfl rfl) rfl rfl hl.1 rfl (lv_room (Nat.le_of_ble_eq_true rfl)) d_M_endOfSlots_4 ⟨Nat.le_of_ble_eq_true rfl, Nat.le_of_ble_eq_true rfl⟩) (fun r4 h => ?_)
  refine lv_istore_n (lv' := [(2, .int r4), (0, .ref aM), (1, .int a1)]) hx hb d_M_endOfSlots_7 rfl hl (by decide) rfl (fun ls hl => ?_)
  refine lv_iload_n hx hb d_M_endOfSlots_8 rfl (lv_at hl 2 rfl) ?_
  refine lv_iconst (v := (4 : Int32)) hx hb d_M_endOfSlots_9 (by decide) ?_
  refine lv_iadd hx hb d_M_endOfSlots_10 ?_
  refine lv_iload_n hx hb d_M_endOfSlots_11 rfl (lv_at hl 0 rfl) ?_
  refine rq_calli (W.runS (As := [.int r4]) (rest := [.int (a1 + (4 : Int32))]) ⟨hx, hb, hml, hown, hw⟩ (mM_isOfBytes l r4 _ h) (va_cwS 1 hw g_M_33 rfl rfl rfl (by decide +kernel) ⟨Nat.le_of_ble_eq_true rfl, Nat.le_of_ble_eq_true rfl⟩) preEq rfl rfl hl.1 rfl (lv_room (Nat.le_of_ble_eq_true rfl)) d_M_endOfSlots_12 ⟨Nat.le_of_ble_eq_true rfl, Nat.le_of_ble_eq_true rfl⟩) (fun r12 h => ?_)
  refine lv_if_eq (tgt := 22) hx hb d_M_endOfSlots_15 (by decide) (fun c_15 => ?_) (fun c_15 => ?_)
  · have h := h.1 c_15
    refine lv_iload_n hx hb d_M_endOfSlots_22 rfl (lv_at hl 0 rfl) ?_
    refine rq_calli (W.runS (As := [.int r4]) (rest := [.int (a1 + (4 : Int32))]) ⟨hx, hb, hml, hown, hw⟩ (mM_bodyWords l r4 _ h) (va_cwS 1 hw g_M_93 rfl rfl rfl (by decide +kernel) ⟨Nat.le_of_ble_eq_true rfl, Nat.le_of_ble_eq_true rfl⟩) preEq rfl rfl hl.1 rfl (lv_room (Nat.le_of_ble_eq_true rfl)) d_M_endOfSlots_23 ⟨Nat.le_of_ble_eq_true rfl, Nat.le_of_ble_eq_true rfl⟩) (fun r23 h => ?_)
    refine lv_iadd hx hb d_M_endOfSlots_26 ?_
    exact W.iret (v := (a1 + (4 : Int32)) + r23) hx hb hr9 (fun t ht hW => ⟨_, rfl, h, ht⟩) (fun _ h9 => nomatch h9) d_M_endOfSlots_27
  · have h := h.2 c_15
    refine lv_iconst (v := (0 : Int32)) hx hb d_M_endOfSlots_18 (by decide) ?_
    refine lv_goto (tgt := 26) hx hb d_M_endOfSlots_19 (by decide) ?_
    refine lv_iadd hx hb d_M_endOfSlots_26 ?_
    exact W.iret (v := (a1 + (4 : Int32)) + (0 : Int32)) hx hb hr9 (fun t ht hW => ⟨_, rfl, h, ht⟩) (fun _ h9 => nomatch h9) d_M_endOfSlots_27
def wqM_bodyWordsAt (nW : Nat) (nE : Nat) (f : Nat → Int32) (a1 : Int32) (post : Int32 → Prop) : Prop :=
  wqM_word nW nE f (a1 + (3 : Int32)) (fun r4 => wqM_bodyWords r4 (fun r7 => post r7))
set_option maxHeartbeats 4000000 in
set_option maxRecDepth 100000 in
theorem mM_bodyWordsAt (l : Launch) (dC : Nat → ClassId) (dI : Nat → Nat → Nat) (cA : ClassId) (a0 : Nat) (aR : Nat) (aM : Nat) (aW : Nat) (aP : Nat) (aS : Nat) (aC : Nat) (aO : Nat) (nW : Nat) (nE : Nat) (R : Nat → Int32) (f : Nat → Int32) (us : Int32) (P : Nat → Int32) (S : Nat → Int32) (sc : Int32) (li : Int32) (rc : Nat → Int32) (rn : Int32) (ro : Nat → Int32) (rd : Int32) (st : Int32) (a1 : Int32) (post : Int32 → Prop) (h : wqM_bodyWordsAt nW nE f a1 post) : Met l y_M_bodyWordsAt ws_M_bodyWordsAt ({ frames := 2, cells := 0, slots := 0, locals := 41 }) (ro_P (dC, dI) vwCl (TSw cA a0 aR aM aW aP aS aC aO nW nE R f us P S sc li rc rn ro rd st) [(cA, .int)] [.ref aM, .int a1]) (rq_i post) 0 0 (fun _ => False) := by
  refine Met.ofW (cc := c_M_bodyWordsAt) (maxL := 2) (ret := (some .int)) (by decide) rfl ?_
  intro p e s m args below meth c s₁ B hml hv
  obtain ⟨rfl, hP, hK⟩ := hv
  have hx := B.exec
  have hb := B.bytes
  have hr9 := B.returns
  have hts := atoms_spec (ws := ws_M_bodyWordsAt) B.pre
  have hw : ∀ w ∈ WB_, w.before _ s = true := fun w h => hts w (List.mem_cons_of_mem _ h)
  have hown : s.vm.findClass R_M = some m.cls := findClass_of_methodNamed B.named
  have hlocks := B.notSynchronized
  have hl := lv_entry ([.ref aM, .int a1]) (n := 2) (Nat.le_of_ble_eq_true rfl)
  rw [lg_entry_eq]
  generalize (lg_sl ([.ref aM, .int a1]) ++ List.replicate (2 - (lg_sl ([.ref aM, .int a1])).length) Slot.unset).toArray = ls at hl ⊢
  have hl : lv_has ls 2 [(0, .ref aM), (1, .int a1)] := hl
  unfold wqM_bodyWordsAt at h
  refine lv_aload_n hx hb d_M_bodyWordsAt_0 rfl (lv_at hl 0 rfl) ?_
  refine lv_iload_n hx hb d_M_bodyWordsAt_1 rfl (lv_at hl 1 rfl) ?_
  refine lv_iconst (v := (3 : Int32)) hx hb d_M_bodyWordsAt_2 (by decide) ?_
  refine lv_iadd hx hb d_M_bodyWordsAt_3 ?_
  refine rq_calli (W.runV (As := [.int (a1 + (3 : Int32))]) (rest := []) ⟨hx, hb, hml, hown, hw⟩ (mM_word l dC dI cA a0 aR aM aW aP aS aC aO nW nE R f us P S sc li rc rn ro rd st (a1 + (3 : Int32)) _ h) (cwV 1 hw g_M_58 rfl rfl rfl (by decide +kernel) ⟨Nat.le_of_ble_eq_true rfl, Nat.le_of_ble_eq_true rfl⟩) (ro_PV (ci := 1) (q0 := 2) hK hP rfl rfl) rfl rfl hl.1 rfl (lv_room (Nat.le_of_ble_eq_true rfl)) d_M_bodyWordsAt_4 ⟨Nat.le_of_ble_eq_true rfl, Nat.le_of_ble_eq_true rfl⟩) (fun r4 h => ?_)
  refine rq_calli (W.runS (As := [.int r4]) (rest := []) ⟨hx, hb, hml, hown, hw⟩ (mM_bodyWords l r4 _ h) (va_cwS 1 hw g_M_93 rfl rfl rfl (by decide +kernel) ⟨Nat.le_of_ble_eq_true rfl, Nat.le_of_ble_eq_true rfl⟩) preEq rfl rfl hl.1 rfl (lv_room (Nat.le_of_ble_eq_true rfl)) d_M_bodyWordsAt_7 ⟨Nat.le_of_ble_eq_true rfl, Nat.le_of_ble_eq_true rfl⟩) (fun r7 h => ?_)
  exact W.iret (v := r7) hx hb hr9 (fun t ht hW => ⟨_, rfl, h, ht⟩) (fun _ h9 => nomatch h9) d_M_bodyWordsAt_10
def wqM_findOfClass_5 (nW : Nat) (nE : Nat) (f : Nat → Int32) (us : Int32) (y1_5 : Int32) (y2_5 : Int32) (post : Int32 → Prop) (kx : Int32 → Int32 → Prop) : Nat → Int32 → Int32 → Prop
  | 0, _, _ => False
  | n + 1, x3_5, x4_5 =>
    (us ≤ x4_5 → (kx x3_5 x4_5)) ∧ (¬ (us ≤ x4_5) → (wqM_word nW nE f (x4_5 + (2 : Int32)) (fun r19 => (r19 = y1_5 → ((x3_5 = y2_5 → (wqM_word nW nE f (x4_5 + (0 : Int32)) (fun r36 => wqV_ofEntry r36 (fun r39 => post r39)))) ∧ (¬ (x3_5 = y2_5) → (wqM_bodyWordsAt nW nE f x4_5 (fun r52 => wqM_findOfClass_5 nW nE f us y1_5 y2_5 post kx n (x3_5 + (1 : Int32)) (x4_5 + ((4 : Int32) + r52))))))) ∧ (¬ (r19 = y1_5) → (wqM_bodyWordsAt nW nE f x4_5 (fun r52 => wqM_findOfClass_5 nW nE f us y1_5 y2_5 post kx n x3_5 (x4_5 + ((4 : Int32) + r52))))))))
def wqM_findOfClass (nW : Nat) (nE : Nat) (f : Nat → Int32) (us : Int32) (a1 : Int32) (a2 : Int32) (post : Int32 → Prop) : Prop :=
  ∃ k_5, wqM_findOfClass_5 nW nE f us a1 a2 post (fun z3_5 z4_5 => post (0 : Int32)) k_5 (0 : Int32) (0 : Int32)
set_option maxHeartbeats 4000000 in
set_option maxRecDepth 100000 in
theorem mM_findOfClass (l : Launch) (dC : Nat → ClassId) (dI : Nat → Nat → Nat) (cA : ClassId) (a0 : Nat) (aR : Nat) (aM : Nat) (aW : Nat) (aP : Nat) (aS : Nat) (aC : Nat) (aO : Nat) (nW : Nat) (nE : Nat) (R : Nat → Int32) (f : Nat → Int32) (us : Int32) (P : Nat → Int32) (S : Nat → Int32) (sc : Int32) (li : Int32) (rc : Nat → Int32) (rn : Int32) (ro : Nat → Int32) (rd : Int32) (st : Int32) (a1 : Int32) (a2 : Int32) (post : Int32 → Prop) (h : wqM_findOfClass nW nE f us a1 a2 post) : Met l y_M_findOfClass ws_M_findOfClass ({ frames := 3, cells := 0, slots := 0, locals := 62 }) (ro_P (dC, dI) vwCl (TSw cA a0 aR aM aW aP aS aC aO nW nE R f us P S sc li rc rn ro rd st) [(cA, .int)] [.ref aM, .int a1, .int a2]) (rq_i post) 0 0 (fun _ => False) := by
  refine Met.ofW (cc := c_M_findOfClass) (maxL := 5) (ret := (some .int)) (by decide) rfl ?_
  intro p e s m args below meth c s₁ B hml hv
  obtain ⟨rfl, hP, hK⟩ := hv
  have hx := B.exec
  have hb := B.bytes
  have hr9 := B.returns
  have hts := atoms_spec (ws := ws_M_findOfClass) B.pre
  have hw : ∀ w ∈ WB_, w.before _ s = true := fun w h => hts w (List.mem_cons_of_mem _ h)
  have hown : s.vm.findClass R_M = some m.cls := findClass_of_methodNamed B.named
  have hlocks := B.notSynchronized
  have hl := lv_entry ([.ref aM, .int a1, .int a2]) (n := 5) (Nat.le_of_ble_eq_true rfl)
  rw [lg_entry_eq]
  generalize (lg_sl ([.ref aM, .int a1, .int a2]) ++ List.replicate (5 - (lg_sl ([.ref aM, .int a1, .int a2])).length) Slot.unset).toArray = ls at hl ⊢
  have hl : lv_has ls 5 [(0, .ref aM), (1, .int a1), (2, .int a2)] := hl
  have lp_5 : ∀ (y1_5 : Int32) (y2_5 : Int32) (kx : Int32 → Int32 → Prop), (∀ (z3_5 : Int32) (z4_5 : Int32) (ls : Array Slot), lv_has ls 5 [(0, .ref aM), (1, .int y1_5), (2, .int y2_5), (3, .int z3_5), (4, .int z4_5)] → kx z3_5 z4_5 → W p l e (headSpec ws_M_findOfClass ({ frames := 3, cells := 0, slots := 0, locals := 62 })).room s m ([.ref aM, .int a1, .int a2] : List Value).toArray below meth c s.heap [] (0) (0) (MQ below (rq_i post) ([.ref aM, .int a1, .int a2] : List Value).toArray s 0 0 (fun _ => False)) (F0 m 62 ls [])) → ∀ (n : Nat) (x3_5 : Int32) (x4_5 : Int32) (ls : Array Slot), lv_has ls 5 [(0, .ref aM), (1, .int y1_5), (2, .int y2_5), (3, .int x3_5), (4, .int x4_5)] → wqM_findOfClass_5 nW nE f us y1_5 y2_5 post kx n x3_5 x4_5 → W p l e (headSpec ws_M_findOfClass ({ frames := 3, cells := 0, slots := 0, locals := 62 })).room s m ([.ref aM, .int a1, .int a2] : List Value).toArray below meth c s.heap [] (0) (0) (MQ below (rq_i post) ([.ref aM, .int a1, .int a2] : List Value).toArray s 0 0 (fun _ => False)) (F0 m 5 ls []) := by
    intro y1_5 y2_5 kx K n
    induction n with
    | zero => intro x3_5 x4_5 ls hl h; exact h.elim
    | succ n ih =>
      intro x3_5 x4_5 ls hl h
      refine lv_iload hx hb d_M_findOfClass_5 (lv_at hl 4 rfl) ?_
      refine lv_aload_n hx hb d_M_findOfClass_7 rfl (lv_at hl 0 rfl) ?_
      refine va_get (D := (dC, dI)) (ci := 1) (v := .int us) (C := R_M) (T := T_M) (N := 11) hx hb hw in_M hown hK hP 2 rfl rfl 1 (by decide) (hw _ wd_69) (fun _ h9 => h9) rfl d_M_findOfClass_8 ?_
      refine lv_icmp_ge (tgt := 62) hx hb d_M_findOfClass_11 (by decide) (fun c_11 => ?_) (fun c_11 => ?_)
      · have h := h.1 c_11
        exact K x3_5 x4_5 ls (lv_sub hl [0, 1, 2, 3, 4] rfl) h
      · have h := h.2 c_11
        refine lv_aload_n hx hb d_M_findOfClass_14 rfl (lv_at hl 0 rfl) ?_
        refine lv_iload hx hb d_M_findOfClass_15 (lv_at hl 4 rfl) ?_
        refine lv_iconst (v := (2 : Int32)) hx hb d_M_findOfClass_17 (by decide) ?_
        refine lv_iadd hx hb d_M_findOfClass_18 ?_
        refine rq_calli (W.runV (As := [.int (x4_5 + (2 : Int32))]) (rest := []) ⟨hx, hb, hml, hown, hw⟩ (mM_word l dC dI cA a0 aR aM aW aP aS aC aO nW nE R f us P S sc li rc rn ro rd st (x4_5 + (2 : Int32)) _ h) (cwV 1 hw g_M_58 rfl rfl rfl (by decide +kernel) ⟨Nat.le_of_ble_eq_true rfl, Nat.le_of_ble_eq_true rfl⟩) (ro_PV (ci := 1) (q0 := 2) hK hP rfl rfl) rfl rfl hl.1 rfl (lv_room (Nat.le_of_ble_eq_true rfl)) d_M_findOfClass_19 ⟨Nat.le_of_ble_eq_true rfl, Nat.le_of_ble_eq_true rfl⟩) (fun r19 h => ?_)
        refine lv_iload_n hx hb d_M_findOfClass_22 rfl (lv_at hl 1 rfl) ?_
        refine lv_icmp_ne (tgt := 46) hx hb d_M_findOfClass_23 (by decide) (fun c_23 => ?_) (fun c_23 => ?_)
        · have h := h.2 c_23
          refine lv_iload hx hb d_M_findOfClass_46 (lv_at hl 4 rfl) ?_
          refine lv_iconst (v := (4 : Int32)) hx hb d_M_findOfClass_48 (by decide) ?_
          refine lv_aload_n hx hb d_M_findOfClass_49 rfl (lv_at hl 0 rfl) ?_
          refine lv_iload hx hb d_M_findOfClass_50 (lv_at hl 4 rfl) ?_
          refine rq_calli (W.runV (As := [.int x4_5]) (rest := [.int (4 : Int32), .int x4_5]) ⟨hx, hb, hml, hown, hw⟩ (mM_bodyWordsAt l dC dI cA a0 aR aM aW aP aS aC aO nW nE R f us P S sc li rc rn ro rd st x4_5 _ h) (cwV 1 hw g_M_143 rfl rfl rfl (by decide +kernel) ⟨Nat.le_of_ble_eq_true rfl, Nat.le_of_ble_eq_true rfl⟩) (ro_PV (ci := 1) (q0 := 2) hK hP rfl rfl) rfl rfl hl.1 rfl (lv_room (Nat.le_of_ble_eq_true rfl)) d_M_findOfClass_52 ⟨Nat.le_of_ble_eq_true rfl, Nat.le_of_ble_eq_true rfl⟩) (fun r52 h => ?_)
          refine lv_iadd hx hb d_M_findOfClass_55 ?_
          refine lv_iadd hx hb d_M_findOfClass_56 ?_
          refine lv_istore (lv' := [(4, .int (x4_5 + ((4 : Int32) + r52))), (0, .ref aM), (1, .int y1_5), (2, .int y2_5), (3, .int x3_5)]) hx hb d_M_findOfClass_57 hl (by decide) rfl (fun ls hl => ?_)
          refine lv_goto (tgt := 5) hx hb d_M_findOfClass_59 (by decide) ?_
          exact ih x3_5 (x4_5 + ((4 : Int32) + r52)) ls (lv_sub hl [1, 2, 3, 4, 0] rfl) h
        · have h := h.1 c_23
          refine lv_iload_n hx hb d_M_findOfClass_26 rfl (lv_at hl 3 rfl) ?_
          refine lv_iload_n hx hb d_M_findOfClass_27 rfl (lv_at hl 2 rfl) ?_
          refine lv_icmp_ne (tgt := 43) hx hb d_M_findOfClass_28 (by decide) (fun c_28 => ?_) (fun c_28 => ?_)
          · have h := h.2 c_28
            refine lv_iinc (v := x3_5 + (1 : Int32)) (lv' := [(3, .int (x3_5 + (1 : Int32))), (0, .ref aM), (1, .int y1_5), (2, .int y2_5), (4, .int x4_5)]) hx hb d_M_findOfClass_43 hl (k := 3) rfl rfl (by decide) rfl (fun ls hl => ?_)
            refine lv_iload hx hb d_M_findOfClass_46 (lv_at hl 4 rfl) ?_
            refine lv_iconst (v := (4 : Int32)) hx hb d_M_findOfClass_48 (by decide) ?_
            refine lv_aload_n hx hb d_M_findOfClass_49 rfl (lv_at hl 1 rfl) ?_
            refine lv_iload hx hb d_M_findOfClass_50 (lv_at hl 4 rfl) ?_
            refine rq_calli (W.runV (As := [.int x4_5]) (rest := [.int (4 : Int32), .int x4_5]) ⟨hx, hb, hml, hown, hw⟩ (mM_bodyWordsAt l dC dI cA a0 aR aM aW aP aS aC aO nW nE R f us P S sc li rc rn ro rd st x4_5 _ h) (cwV 1 hw g_M_143 rfl rfl rfl (by decide +kernel) ⟨Nat.le_of_ble_eq_true rfl, Nat.le_of_ble_eq_true rfl⟩) (ro_PV (ci := 1) (q0 := 2) hK hP rfl rfl) rfl rfl hl.1 rfl (lv_room (Nat.le_of_ble_eq_true rfl)) d_M_findOfClass_52 ⟨Nat.le_of_ble_eq_true rfl, Nat.le_of_ble_eq_true rfl⟩) (fun r52 h => ?_)
            refine lv_iadd hx hb d_M_findOfClass_55 ?_
            refine lv_iadd hx hb d_M_findOfClass_56 ?_
            refine lv_istore (lv' := [(4, .int (x4_5 + ((4 : Int32) + r52))), (3, .int (x3_5 + (1 : Int32))), (0, .ref aM), (1, .int y1_5), (2, .int y2_5)]) hx hb d_M_findOfClass_57 hl (by decide) rfl (fun ls hl => ?_)
            refine lv_goto (tgt := 5) hx hb d_M_findOfClass_59 (by decide) ?_
            exact ih (x3_5 + (1 : Int32)) (x4_5 + ((4 : Int32) + r52)) ls (lv_sub hl [2, 3, 4, 1, 0] rfl) h
          · have h := h.1 c_28
            refine lv_aload_n hx hb d_M_findOfClass_31 rfl (lv_at hl 0 rfl) ?_
            refine lv_iload hx hb d_M_findOfClass_32 (lv_at hl 4 rfl) ?_
            refine lv_iconst (v := (0 : Int32)) hx hb d_M_findOfClass_34 (by decide) ?_
            refine lv_iadd hx hb d_M_findOfClass_35 ?_
            refine rq_calli (W.runV (As := [.int (x4_5 + (0 : Int32))]) (rest := []) ⟨hx, hb, hml, hown, hw⟩ (mM_word l dC dI cA a0 aR aM aW aP aS aC aO nW nE R f us P S sc li rc rn ro rd st (x4_5 + (0 : Int32)) _ h) (cwV 1 hw g_M_58 rfl rfl rfl (by decide +kernel) ⟨Nat.le_of_ble_eq_true rfl, Nat.le_of_ble_eq_true rfl⟩) (ro_PV (ci := 1) (q0 := 2) hK hP rfl rfl) rfl rfl hl.1 rfl (lv_room (Nat.le_of_ble_eq_true rfl)) d_M_findOfClass_36 ⟨Nat.le_of_ble_eq_true rfl, Nat.le_of_ble_eq_true rfl⟩) (fun r36 h => ?_)
            refine rq_calli (W.runS (As := [.int r36]) (rest := []) ⟨hx, hb, hml, hown, hw⟩ (mV_ofEntry l r36 _ h) (va_cwS 1 hw g_M_109 rfl rfl rfl (by decide +kernel) ⟨Nat.le_of_ble_eq_true rfl, Nat.le_of_ble_eq_true rfl⟩) preEq rfl rfl hl.1 rfl (lv_room (Nat.le_of_ble_eq_true rfl)) d_M_findOfClass_39 ⟨Nat.le_of_ble_eq_true rfl, Nat.le_of_ble_eq_true rfl⟩) (fun r39 h => ?_)
            exact W.iret (v := r39) hx hb hr9 (fun t ht hW => ⟨_, rfl, h, ht⟩) (fun _ h9 => nomatch h9) d_M_findOfClass_42
  unfold wqM_findOfClass at h
  refine lv_iconst (v := (0 : Int32)) hx hb d_M_findOfClass_0 (by decide) ?_
  refine lv_istore_n (lv' := [(3, .int (0 : Int32)), (0, .ref aM), (1, .int a1), (2, .int a2)]) hx hb d_M_findOfClass_1 rfl hl (by decide) rfl (fun ls hl => ?_)
  refine lv_iconst (v := (0 : Int32)) hx hb d_M_findOfClass_2 (by decide) ?_
  refine lv_istore (lv' := [(4, .int (0 : Int32)), (3, .int (0 : Int32)), (0, .ref aM), (1, .int a1), (2, .int a2)]) hx hb d_M_findOfClass_3 hl (by decide) rfl (fun ls hl => ?_)
  obtain ⟨n_5, h⟩ := h
  refine lp_5 a1 a2 _ (fun z3_5 z4_5 ls hl h => ?_) n_5 (0 : Int32) (0 : Int32) ls (lv_sub hl [2, 3, 4, 1, 0] rfl) h
  refine lv_iconst (v := (0 : Int32)) hx hb d_M_findOfClass_62 (by decide) ?_
  exact W.iret (v := (0 : Int32)) hx hb hr9 (fun t ht hW => ⟨_, rfl, h, ht⟩) (fun _ h9 => nomatch h9) d_M_findOfClass_63
def wqM_countHolders_46 (nW : Nat) (nE : Nat) (f : Nat → Int32) (us : Int32) (y1_46 : Int32) (y3_46 : Int32) (y4_46 : Int32) (post : Int32 → Prop) (kx : Int32 → Int32 → Prop) : Nat → Int32 → Int32 → Prop
  | 0, _, _ => False
  | n + 1, x2_46, x5_46 =>
    (y4_46 ≤ x5_46 → (kx x2_46 x5_46)) ∧ (¬ (y4_46 ≤ x5_46) → (vp_in x5_46 nW ∧ (((f x5_46.toNatClampNeg) = y1_46 → (wqM_countHolders_46 nW nE f us y1_46 y3_46 y4_46 post kx n (x2_46 + (1 : Int32)) (x5_46 + (1 : Int32)))) ∧ (¬ ((f x5_46.toNatClampNeg) = y1_46) → (wqM_countHolders_46 nW nE f us y1_46 y3_46 y4_46 post kx n x2_46 (x5_46 + (1 : Int32)))))))
def wqM_countHolders_4 (nW : Nat) (nE : Nat) (f : Nat → Int32) (us : Int32) (y1_4 : Int32) (post : Int32 → Prop) (kx : Int32 → Int32 → Prop) : Nat → Int32 → Int32 → Prop
  | 0, _, _ => False
  | n + 1, x2_4, x3_4 =>
    (us ≤ x3_4 → (kx x2_4 x3_4)) ∧ (¬ (us ≤ x3_4) → (wqM_word nW nE f (x3_4 + (2 : Int32)) (fun r16 => (r16 = y1_4 → (wqM_endOfSlots nW nE f x3_4 (fun r28 => ∃ k_46, wqM_countHolders_46 nW nE f us y1_4 x3_4 (if (nI nW) < r28 then (nI nW) else r28) post (fun z2_46 z5_46 => wqM_bodyWordsAt nW nE f x3_4 (fun r77 => wqM_countHolders_4 nW nE f us y1_4 post kx n z2_46 (x3_4 + ((4 : Int32) + r77)))) k_46 (x2_4 + (1 : Int32)) (x3_4 + (4 : Int32))))) ∧ (¬ (r16 = y1_4) → (wqM_endOfSlots nW nE f x3_4 (fun r28 => ∃ k_46, wqM_countHolders_46 nW nE f us y1_4 x3_4 (if (nI nW) < r28 then (nI nW) else r28) post (fun z2_46 z5_46 => wqM_bodyWordsAt nW nE f x3_4 (fun r77 => wqM_countHolders_4 nW nE f us y1_4 post kx n z2_46 (x3_4 + ((4 : Int32) + r77)))) k_46 x2_4 (x3_4 + (4 : Int32))))))))
def wqM_countHolders (nW : Nat) (nE : Nat) (f : Nat → Int32) (us : Int32) (a1 : Int32) (post : Int32 → Prop) : Prop :=
  ∃ k_4, wqM_countHolders_4 nW nE f us a1 post (fun z2_4 z3_4 => post z2_4) k_4 (0 : Int32) (0 : Int32)
set_option maxHeartbeats 4000000 in
set_option maxRecDepth 100000 in
theorem mM_countHolders (l : Launch) (dC : Nat → ClassId) (dI : Nat → Nat → Nat) (cA : ClassId) (a0 : Nat) (aR : Nat) (aM : Nat) (aW : Nat) (aP : Nat) (aS : Nat) (aC : Nat) (aO : Nat) (nW : Nat) (nE : Nat) (R : Nat → Int32) (f : Nat → Int32) (us : Int32) (P : Nat → Int32) (S : Nat → Int32) (sc : Int32) (li : Int32) (rc : Nat → Int32) (rn : Int32) (ro : Nat → Int32) (rd : Int32) (st : Int32) (a1 : Int32) (post : Int32 → Prop) (h : wqM_countHolders nW nE f us a1 post) : Met l y_M_countHolders ws_M_countHolders ({ frames := 3, cells := 0, slots := 0, locals := 63 }) (ro_P (dC, dI) vwCl (TSw cA a0 aR aM aW aP aS aC aO nW nE R f us P S sc li rc rn ro rd st) [(cA, .int)] [.ref aM, .int a1]) (rq_i post) 0 0 (fun _ => False) := by
  refine Met.ofW (cc := c_M_countHolders) (maxL := 6) (ret := (some .int)) (by decide) rfl ?_
  intro p e s m args below meth c s₁ B hml hv
  obtain ⟨rfl, hP, hK⟩ := hv
  have hx := B.exec
  have hb := B.bytes
  have hr9 := B.returns
  have hts := atoms_spec (ws := ws_M_countHolders) B.pre
  have hw : ∀ w ∈ WB_, w.before _ s = true := fun w h => hts w (List.mem_cons_of_mem _ h)
  have hown : s.vm.findClass R_M = some m.cls := findClass_of_methodNamed B.named
  have hlocks := B.notSynchronized
  have hl := lv_entry ([.ref aM, .int a1]) (n := 6) (Nat.le_of_ble_eq_true rfl)
  rw [lg_entry_eq]
  generalize (lg_sl ([.ref aM, .int a1]) ++ List.replicate (6 - (lg_sl ([.ref aM, .int a1])).length) Slot.unset).toArray = ls at hl ⊢
  have hl : lv_has ls 6 [(0, .ref aM), (1, .int a1)] := hl
  have lp_46 : ∀ (y1_46 : Int32) (y3_46 : Int32) (y4_46 : Int32) (kx : Int32 → Int32 → Prop), (∀ (z2_46 : Int32) (z5_46 : Int32) (ls : Array Slot), lv_has ls 6 [(0, .ref aM), (1, .int y1_46), (2, .int z2_46), (3, .int y3_46), (4, .int y4_46), (5, .int z5_46)] → kx z2_46 z5_46 → W p l e (headSpec ws_M_countHolders ({ frames := 3, cells := 0, slots := 0, locals := 63 })).room s m ([.ref aM, .int a1] : List Value).toArray below meth c s.heap [] (0) (0) (MQ below (rq_i post) ([.ref aM, .int a1] : List Value).toArray s 0 0 (fun _ => False)) (F0 m 73 ls [])) → ∀ (n : Nat) (x2_46 : Int32) (x5_46 : Int32) (ls : Array Slot), lv_has ls 6 [(0, .ref aM), (1, .int y1_46), (2, .int x2_46), (3, .int y3_46), (4, .int y4_46), (5, .int x5_46)] → wqM_countHolders_46 nW nE f us y1_46 y3_46 y4_46 post kx n x2_46 x5_46 → W p l e (headSpec ws_M_countHolders ({ frames := 3, cells := 0, slots := 0, locals := 63 })).room s m ([.ref aM, .int a1] : List Value).toArray below meth c s.heap [] (0) (0) (MQ below (rq_i post) ([.ref aM, .int a1] : List Value).toArray s 0 0 (fun _ => False)) (F0 m 46 ls []) := by
    intro y1_46 y3_46 y4_46 kx K n
    induction n with
    | zero => intro x2_46 x5_46 ls hl h; exact h.elim
    | succ n ih =>
      intro x2_46 x5_46 ls hl h
      refine lv_iload hx hb d_M_countHolders_46 (lv_at hl 5 rfl) ?_
      refine lv_iload hx hb d_M_countHolders_48 (lv_at hl 4 rfl) ?_
      refine lv_icmp_ge (tgt := 73) hx hb d_M_countHolders_50 (by decide) (fun c_50 => ?_) (fun c_50 => ?_)
      · have h := h.1 c_50
        exact K x2_46 x5_46 ls (lv_sub hl [0, 1, 2, 3, 4, 5] rfl) h
      · have h := h.2 c_50
        refine lv_aload_n hx hb d_M_countHolders_53 rfl (lv_at hl 0 rfl) ?_
        refine va_get (D := (dC, dI)) (ci := 1) (v := .ref aW) (C := R_M) (T := T_M) (N := 11) hx hb hw in_M hown hK hP 2 rfl rfl 0 (by decide) (hw _ wd_68) (fun _ h9 => h9) rfl d_M_countHolders_54 ?_
        refine lv_iload hx hb d_M_countHolders_57 (lv_at hl 5 rfl) ?_
        refine va_iald hx hb hK hP 3 0 rfl rfl h.1 d_M_countHolders_59 ?_
        have h := h.2
        refine lv_iload_n hx hb d_M_countHolders_60 rfl (lv_at hl 1 rfl) ?_
        refine lv_icmp_ne (tgt := 67) hx hb d_M_countHolders_61 (by decide) (fun c_61 => ?_) (fun c_61 => ?_)
        · have h := h.2 c_61
          refine lv_iinc (v := x5_46 + (1 : Int32)) (lv' := [(5, .int (x5_46 + (1 : Int32))), (0, .ref aM), (1, .int y1_46), (2, .int x2_46), (3, .int y3_46), (4, .int y4_46)]) hx hb d_M_countHolders_67 hl (k := 5) rfl rfl (by decide) rfl (fun ls hl => ?_)
          refine lv_goto (tgt := 46) hx hb d_M_countHolders_70 (by decide) ?_
          exact ih x2_46 (x5_46 + (1 : Int32)) ls (lv_sub hl [1, 2, 3, 4, 5, 0] rfl) h
        · have h := h.1 c_61
          refine lv_iinc (v := x2_46 + (1 : Int32)) (lv' := [(2, .int (x2_46 + (1 : Int32))), (0, .ref aM), (1, .int y1_46), (3, .int y3_46), (4, .int y4_46), (5, .int x5_46)]) hx hb d_M_countHolders_64 hl (k := 2) rfl rfl (by decide) rfl (fun ls hl => ?_)
          refine lv_iinc (v := x5_46 + (1 : Int32)) (lv' := [(5, .int (x5_46 + (1 : Int32))), (2, .int (x2_46 + (1 : Int32))), (0, .ref aM), (1, .int y1_46), (3, .int y3_46), (4, .int y4_46)]) hx hb d_M_countHolders_67 hl (k := 5) rfl rfl (by decide) rfl (fun ls hl => ?_)
          refine lv_goto (tgt := 46) hx hb d_M_countHolders_70 (by decide) ?_
          exact ih (x2_46 + (1 : Int32)) (x5_46 + (1 : Int32)) ls (lv_sub hl [2, 3, 1, 4, 5, 0] rfl) h
  have lp_4 : ∀ (y1_4 : Int32) (kx : Int32 → Int32 → Prop), (∀ (z2_4 : Int32) (z3_4 : Int32) (ls : Array Slot), lv_has ls 6 [(0, .ref aM), (1, .int y1_4), (2, .int z2_4), (3, .int z3_4)] → kx z2_4 z3_4 → W p l e (headSpec ws_M_countHolders ({ frames := 3, cells := 0, slots := 0, locals := 63 })).room s m ([.ref aM, .int a1] : List Value).toArray below meth c s.heap [] (0) (0) (MQ below (rq_i post) ([.ref aM, .int a1] : List Value).toArray s 0 0 (fun _ => False)) (F0 m 86 ls [])) → ∀ (n : Nat) (x2_4 : Int32) (x3_4 : Int32) (ls : Array Slot), lv_has ls 6 [(0, .ref aM), (1, .int y1_4), (2, .int x2_4), (3, .int x3_4)] → wqM_countHolders_4 nW nE f us y1_4 post kx n x2_4 x3_4 → W p l e (headSpec ws_M_countHolders ({ frames := 3, cells := 0, slots := 0, locals := 63 })).room s m ([.ref aM, .int a1] : List Value).toArray below meth c s.heap [] (0) (0) (MQ below (rq_i post) ([.ref aM, .int a1] : List Value).toArray s 0 0 (fun _ => False)) (F0 m 4 ls []) := by
    intro y1_4 kx K n
    induction n with
    | zero => intro x2_4 x3_4 ls hl h; exact h.elim
    | succ n ih =>
      intro x2_4 x3_4 ls hl h
      refine lv_iload_n hx hb d_M_countHolders_4 rfl (lv_at hl 3 rfl) ?_
      refine lv_aload_n hx hb d_M_countHolders_5 rfl (lv_at hl 0 rfl) ?_
      refine va_get (D := (dC, dI)) (ci := 1) (v := .int us) (C := R_M) (T := T_M) (N := 11) hx hb hw in_M hown hK hP 2 rfl rfl 1 (by decide) (hw _ wd_69) (fun _ h9 => h9) rfl d_M_countHolders_6 ?_
      refine lv_icmp_ge (tgt := 86) hx hb d_M_countHolders_9 (by decide) (fun c_9 => ?_) (fun c_9 => ?_)
      · have h := h.1 c_9
        exact K x2_4 x3_4 ls (lv_sub hl [0, 1, 2, 3] rfl) h
      · have h := h.2 c_9
        refine lv_aload_n hx hb d_M_countHolders_12 rfl (lv_at hl 0 rfl) ?_
        refine lv_iload_n hx hb d_M_countHolders_13 rfl (lv_at hl 3 rfl) ?_
        refine lv_iconst (v := (2 : Int32)) hx hb d_M_countHolders_14 (by decide) ?_
        refine lv_iadd hx hb d_M_countHolders_15 ?_
        refine rq_calli (W.runV (As := [.int (x3_4 + (2 : Int32))]) (rest := []) ⟨hx, hb, hml, hown, hw⟩ (mM_word l dC dI cA a0 aR aM aW aP aS aC aO nW nE R f us P S sc li rc rn ro rd st (x3_4 + (2 : Int32)) _ h) (cwV 1 hw g_M_58 rfl rfl rfl (by decide +kernel) ⟨Nat.le_of_ble_eq_true rfl, Nat.le_of_ble_eq_true rfl⟩) (ro_PV (ci := 1) (q0 := 2) hK hP rfl rfl) rfl rfl hl.1 rfl (lv_room (Nat.le_of_ble_eq_true rfl)) d_M_countHolders_16 ⟨Nat.le_of_ble_eq_true rfl, Nat.le_of_ble_eq_true rfl⟩) (fun r16 h => ?_)
        refine lv_iload_n hx hb d_M_countHolders_19 rfl (lv_at hl 1 rfl) ?_
        refine lv_icmp_ne (tgt := 26) hx hb d_M_countHolders_20 (by decide) (fun c_20 => ?_) (fun c_20 => ?_)
        · have h := h.2 c_20
          refine lv_aload_n hx hb d_M_countHolders_26 rfl (lv_at hl 0 rfl) ?_
          refine lv_iload_n hx hb d_M_countHolders_27 rfl (lv_at hl 3 rfl) ?_
          refine rq_calli (W.runV (As := [.int x3_4]) (rest := []) ⟨hx, hb, hml, hown, hw⟩ (mM_endOfSlots l dC dI cA a0 aR aM aW aP aS aC aO nW nE R f us P S sc li rc rn ro rd st x3_4 _ h) (cwV 1 hw g_M_137 rfl rfl rfl (by decide +kernel) ⟨Nat.le_of_ble_eq_true rfl, Nat.le_of_ble_eq_true rfl⟩) (ro_PV (ci := 1) (q0 := 2) hK hP rfl rfl) rfl rfl hl.1 rfl (lv_room (Nat.le_of_ble_eq_true rfl)) d_M_countHolders_28 ⟨Nat.le_of_ble_eq_true rfl, Nat.le_of_ble_eq_true rfl⟩) (fun r28 h => ?_)
          refine lv_aload_n hx hb d_M_countHolders_31 rfl (lv_at hl 0 rfl) ?_
          refine va_get (D := (dC, dI)) (ci := 1) (v := .ref aW) (C := R_M) (T := T_M) (N := 11) hx hb hw in_M hown hK hP 2 rfl rfl 0 (by decide) (hw _ wd_68) (fun _ h9 => h9) rfl d_M_countHolders_32 ?_
          refine va_alen (v := nI nW) hx hb hK hP 3 0 rfl rfl rfl d_M_countHolders_35 ?_
          refine va_mmin hx hb (hml.trans hl.1.symm) hown (hw _ wd_154) (hw _ wd_155) (hw _ wd_46) (hw _ wd_156) (Nat.le_of_ble_eq_true rfl) (Nat.le_of_ble_eq_true rfl) (Nat.le_of_ble_eq_true rfl) (Nat.le_of_ble_eq_true rfl) d_M_countHolders_36 ?_
          refine lv_istore (lv' := [(4, .int (if (nI nW) < r28 then (nI nW) else r28)), (0, .ref aM), (1, .int y1_4), (2, .int x2_4), (3, .int x3_4)]) hx hb d_M_countHolders_39 hl (by decide) rfl (fun ls hl => ?_)
          refine lv_iload_n hx hb d_M_countHolders_41 rfl (lv_at hl 4 rfl) ?_
          refine lv_iconst (v := (4 : Int32)) hx hb d_M_countHolders_42 (by decide) ?_
          refine lv_iadd hx hb d_M_countHolders_43 ?_
          refine lv_istore (lv' := [(5, .int (x3_4 + (4 : Int32))), (4, .int (if (nI nW) < r28 then (nI nW) else r28)), (0, .ref aM), (1, .int y1_4), (2, .int x2_4), (3, .int x3_4)]) hx hb d_M_countHolders_44 hl (by decide) rfl (fun ls hl => ?_)
          obtain ⟨n_46, h⟩ := h
          refine lp_46 y1_4 x3_4 (if (nI nW) < r28 then (nI nW) else r28) _ (fun z2_46 z5_46 ls hl h => ?_) n_46 x2_4 (x3_4 + (4 : Int32)) ls (lv_sub hl [2, 3, 4, 5, 1, 0] rfl) h
          refine lv_iload_n hx hb d_M_countHolders_73 rfl (lv_at hl 3 rfl) ?_
          refine lv_iconst (v := (4 : Int32)) hx hb d_M_countHolders_74 (by decide) ?_
          refine lv_aload_n hx hb d_M_countHolders_75 rfl (lv_at hl 0 rfl) ?_
          refine lv_iload_n hx hb d_M_countHolders_76 rfl (lv_at hl 3 rfl) ?_
          refine rq_calli (W.runV (As := [.int x3_4]) (rest := [.int (4 : Int32), .int x3_4]) ⟨hx, hb, hml, hown, hw⟩ (mM_bodyWordsAt l dC dI cA a0 aR aM aW aP aS aC aO nW nE R f us P S sc li rc rn ro rd st x3_4 _ h) (cwV 1 hw g_M_143 rfl rfl rfl (by decide +kernel) ⟨Nat.le_of_ble_eq_true rfl, Nat.le_of_ble_eq_true rfl⟩) (ro_PV (ci := 1) (q0 := 2) hK hP rfl rfl) rfl rfl hl.1 rfl (lv_room (Nat.le_of_ble_eq_true rfl)) d_M_countHolders_77 ⟨Nat.le_of_ble_eq_true rfl, Nat.le_of_ble_eq_true rfl⟩) (fun r77 h => ?_)
          refine lv_iadd hx hb d_M_countHolders_80 ?_
          refine lv_iadd hx hb d_M_countHolders_81 ?_
          refine lv_istore_n (lv' := [(3, .int (x3_4 + ((4 : Int32) + r77))), (0, .ref aM), (1, .int y1_4), (2, .int z2_46), (4, .int (if (nI nW) < r28 then (nI nW) else r28)), (5, .int z5_46)]) hx hb d_M_countHolders_82 rfl hl (by decide) rfl (fun ls hl => ?_)
          refine lv_goto (tgt := 4) hx hb d_M_countHolders_83 (by decide) ?_
          exact ih z2_46 (x3_4 + ((4 : Int32) + r77)) ls (lv_sub hl [1, 2, 3, 0] rfl) h
        · have h := h.1 c_20
          refine lv_iinc (v := x2_4 + (1 : Int32)) (lv' := [(2, .int (x2_4 + (1 : Int32))), (0, .ref aM), (1, .int y1_4), (3, .int x3_4)]) hx hb d_M_countHolders_23 hl (k := 2) rfl rfl (by decide) rfl (fun ls hl => ?_)
          refine lv_aload_n hx hb d_M_countHolders_26 rfl (lv_at hl 1 rfl) ?_
          refine lv_iload_n hx hb d_M_countHolders_27 rfl (lv_at hl 3 rfl) ?_
          refine rq_calli (W.runV (As := [.int x3_4]) (rest := []) ⟨hx, hb, hml, hown, hw⟩ (mM_endOfSlots l dC dI cA a0 aR aM aW aP aS aC aO nW nE R f us P S sc li rc rn ro rd st x3_4 _ h) (cwV 1 hw g_M_137 rfl rfl rfl (by decide +kernel) ⟨Nat.le_of_ble_eq_true rfl, Nat.le_of_ble_eq_true rfl⟩) (ro_PV (ci := 1) (q0 := 2) hK hP rfl rfl) rfl rfl hl.1 rfl (lv_room (Nat.le_of_ble_eq_true rfl)) d_M_countHolders_28 ⟨Nat.le_of_ble_eq_true rfl, Nat.le_of_ble_eq_true rfl⟩) (fun r28 h => ?_)
          refine lv_aload_n hx hb d_M_countHolders_31 rfl (lv_at hl 1 rfl) ?_
          refine va_get (D := (dC, dI)) (ci := 1) (v := .ref aW) (C := R_M) (T := T_M) (N := 11) hx hb hw in_M hown hK hP 2 rfl rfl 0 (by decide) (hw _ wd_68) (fun _ h9 => h9) rfl d_M_countHolders_32 ?_
          refine va_alen (v := nI nW) hx hb hK hP 3 0 rfl rfl rfl d_M_countHolders_35 ?_
          refine va_mmin hx hb (hml.trans hl.1.symm) hown (hw _ wd_154) (hw _ wd_155) (hw _ wd_46) (hw _ wd_156) (Nat.le_of_ble_eq_true rfl) (Nat.le_of_ble_eq_true rfl) (Nat.le_of_ble_eq_true rfl) (Nat.le_of_ble_eq_true rfl) d_M_countHolders_36 ?_
          refine lv_istore (lv' := [(4, .int (if (nI nW) < r28 then (nI nW) else r28)), (2, .int (x2_4 + (1 : Int32))), (0, .ref aM), (1, .int y1_4), (3, .int x3_4)]) hx hb d_M_countHolders_39 hl (by decide) rfl (fun ls hl => ?_)
          refine lv_iload_n hx hb d_M_countHolders_41 rfl (lv_at hl 4 rfl) ?_
          refine lv_iconst (v := (4 : Int32)) hx hb d_M_countHolders_42 (by decide) ?_
          refine lv_iadd hx hb d_M_countHolders_43 ?_
          refine lv_istore (lv' := [(5, .int (x3_4 + (4 : Int32))), (4, .int (if (nI nW) < r28 then (nI nW) else r28)), (2, .int (x2_4 + (1 : Int32))), (0, .ref aM), (1, .int y1_4), (3, .int x3_4)]) hx hb d_M_countHolders_44 hl (by decide) rfl (fun ls hl => ?_)
          obtain ⟨n_46, h⟩ := h
          refine lp_46 y1_4 x3_4 (if (nI nW) < r28 then (nI nW) else r28) _ (fun z2_46 z5_46 ls hl h => ?_) n_46 (x2_4 + (1 : Int32)) (x3_4 + (4 : Int32)) ls (lv_sub hl [3, 4, 2, 5, 1, 0] rfl) h
          refine lv_iload_n hx hb d_M_countHolders_73 rfl (lv_at hl 3 rfl) ?_
          refine lv_iconst (v := (4 : Int32)) hx hb d_M_countHolders_74 (by decide) ?_
          refine lv_aload_n hx hb d_M_countHolders_75 rfl (lv_at hl 0 rfl) ?_
          refine lv_iload_n hx hb d_M_countHolders_76 rfl (lv_at hl 3 rfl) ?_
          refine rq_calli (W.runV (As := [.int x3_4]) (rest := [.int (4 : Int32), .int x3_4]) ⟨hx, hb, hml, hown, hw⟩ (mM_bodyWordsAt l dC dI cA a0 aR aM aW aP aS aC aO nW nE R f us P S sc li rc rn ro rd st x3_4 _ h) (cwV 1 hw g_M_143 rfl rfl rfl (by decide +kernel) ⟨Nat.le_of_ble_eq_true rfl, Nat.le_of_ble_eq_true rfl⟩) (ro_PV (ci := 1) (q0 := 2) hK hP rfl rfl) rfl rfl hl.1 rfl (lv_room (Nat.le_of_ble_eq_true rfl)) d_M_countHolders_77 ⟨Nat.le_of_ble_eq_true rfl, Nat.le_of_ble_eq_true rfl⟩) (fun r77 h => ?_)
          refine lv_iadd hx hb d_M_countHolders_80 ?_
          refine lv_iadd hx hb d_M_countHolders_81 ?_
          refine lv_istore_n (lv' := [(3, .int (x3_4 + ((4 : Int32) + r77))), (0, .ref aM), (1, .int y1_4), (2, .int z2_46), (4, .int (if (nI nW) < r28 then (nI nW) else r28)), (5, .int z5_46)]) hx hb d_M_countHolders_82 rfl hl (by decide) rfl (fun ls hl => ?_)
          refine lv_goto (tgt := 4) hx hb d_M_countHolders_83 (by decide) ?_
          exact ih z2_46 (x3_4 + ((4 : Int32) + r77)) ls (lv_sub hl [1, 2, 3, 0] rfl) h
  unfold wqM_countHolders at h
  refine lv_iconst (v := (0 : Int32)) hx hb d_M_countHolders_0 (by decide) ?_
  refine lv_istore_n (lv' := [(2, .int (0 : Int32)), (0, .ref aM), (1, .int a1)]) hx hb d_M_countHolders_1 rfl hl (by decide) rfl (fun ls hl => ?_)
  refine lv_iconst (v := (0 : Int32)) hx hb d_M_countHolders_2 (by decide) ?_
  refine lv_istore_n (lv' := [(3, .int (0 : Int32)), (2, .int (0 : Int32)), (0, .ref aM), (1, .int a1)]) hx hb d_M_countHolders_3 rfl hl (by decide) rfl (fun ls hl => ?_)
  obtain ⟨n_4, h⟩ := h
  refine lp_4 a1 _ (fun z2_4 z3_4 ls hl h => ?_) n_4 (0 : Int32) (0 : Int32) ls (lv_sub hl [2, 3, 1, 0] rfl) h
  refine lv_iload_n hx hb d_M_countHolders_86 rfl (lv_at hl 2 rfl) ?_
  exact W.iret (v := z2_4) hx hb hr9 (fun t ht hW => ⟨_, rfl, h, ht⟩) (fun _ h9 => nomatch h9) d_M_countHolders_87
def wqM_letGo (nW : Nat) (nE : Nat) (st : Int32) (a1 : Int32) (post : Int32 → Prop) : Prop :=
  wqV_isObject a1 (fun r1 => (r1 = 0 → (post st)) ∧ (¬ (r1 = 0) → (post (0 : Int32))))
set_option maxHeartbeats 4000000 in
set_option maxRecDepth 100000 in
theorem mM_letGo (l : Launch) (dC : Nat → ClassId) (dI : Nat → Nat → Nat) (cA : ClassId) (a0 : Nat) (aR : Nat) (aM : Nat) (aW : Nat) (aP : Nat) (aS : Nat) (aC : Nat) (aO : Nat) (nW : Nat) (nE : Nat) (sz : Nat) (R : Nat → Int32) (f : Nat → Int32) (us : Int32) (P : Nat → Int32) (S : Nat → Int32) (sc : Int32) (li : Int32) (rc : Nat → Int32) (rn : Int32) (ro : Nat → Int32) (rd : Int32) (st : Int32) (a1 : Int32) (post : Int32 → Prop) (h : wqM_letGo nW nE st a1 post) : Met l y_M_letGo ws_M_letGo ({ frames := 1, cells := 0, slots := 0, locals := 20 }) (rw_P (dC, dI) vwCl (TSw cA a0 aR aM aW aP aS aC aO nW nE R f us P S sc li rc rn ro rd st) [(cA, .int)] sz [.ref aM, .int a1]) (va_Qv (fun u : Int32 => post u) (rw_B (dC, dI) vwCl [(cA, .int)] (va_A (TSw cA a0 aR aM aW aP aS aC aO nW nE R f us P S sc li rc rn ro rd st) sz) (fun u : Int32 => TSw cA a0 aR aM aW aP aS aC aO nW nE R f us P S sc li rc rn ro rd u)) (va_A (TSw cA a0 aR aM aW aP aS aC aO nW nE R f us P S sc li rc rn ro rd st) sz)) 0 0 (va_A (TSw cA a0 aR aM aW aP aS aC aO nW nE R f us P S sc li rc rn ro rd st) sz) := by
  refine Met.ofW (cc := c_M_letGo) (maxL := 2) (ret := none) (by decide) rfl ?_
  intro p e s m args below meth c s₁ B hml hv
  obtain ⟨rfl, hsz, hP, hK, hD0⟩ := hv
  have hx := B.exec
  have hb := B.bytes
  have hr9 := B.returns
  have hts := atoms_spec (ws := ws_M_letGo) B.pre
  have hw : ∀ w ∈ WB_, w.before _ s = true := fun w h => hts w (List.mem_cons_of_mem _ h)
  have hown : s.vm.findClass R_M = some m.cls := findClass_of_methodNamed B.named
  have hlocks := B.notSynchronized
  subst hsz
  have hD := hD0.self (sz := s.heap.size)
  generalize hAe : va_A (TSw cA a0 aR aM aW aP aS aC aO nW nE R f us P S sc li rc rn ro rd st) s.heap.size = A at hD ⊢
  have hA : ∀ q : Nat, s.heap.size ≤ q → A q := fun q h => by rw [← hAe]; exact Or.inr h
  have hS : va_S A s.heap s.heap [] := va_S.rf
  have hl := lv_entry ([.ref aM, .int a1]) (n := 2) (Nat.le_of_ble_eq_true rfl)
  rw [lg_entry_eq]
  generalize (lg_sl ([.ref aM, .int a1]) ++ List.replicate (2 - (lg_sl ([.ref aM, .int a1])).length) Slot.unset).toArray = ls at hl ⊢
  have hl : lv_has ls 2 [(0, .ref aM), (1, .int a1)] := hl
  unfold wqM_letGo at h
  refine lv_iload_n hx hb d_M_letGo_0 rfl (lv_at hl 1 rfl) ?_
  refine rq_calli (W.runS (As := [.int a1]) (rest := []) ⟨hx, hb, hml, hown, hw⟩ (mV_isObject l a1 _ h) (va_cwS 1 hw g_M_61 rfl rfl rfl (by decide +kernel) ⟨Nat.le_of_ble_eq_true rfl, Nat.le_of_ble_eq_true rfl⟩) preEq rfl rfl hl.1 rfl (lv_room (Nat.le_of_ble_eq_true rfl)) d_M_letGo_1 ⟨Nat.le_of_ble_eq_true rfl, Nat.le_of_ble_eq_true rfl⟩) (fun r1 h => ?_)
  refine lv_if_eq (tgt := 12) hx hb d_M_letGo_4 (by decide) (fun c_4 => ?_) (fun c_4 => ?_)
  · have h := h.1 c_4
    exact W.vret hx hb hr9 (fun t ht hW => ⟨⟨(st), rfl, h, by rw [ht]; exact hP, va_K.moved hW.alike hK, hD⟩, hS.F ht⟩) hS.2.2 d_M_letGo_12
  · have h := h.2 c_4
    refine lv_aload_n hx hb d_M_letGo_7 rfl (lv_at hl 0 rfl) ?_
    refine lv_iconst (v := (0 : Int32)) hx hb d_M_letGo_8 (by decide) ?_
    refine va_put (D := (dC, dI)) (ci := 1) (v := .int (0 : Int32)) (ty := .boolean) (C := R_M) (T := T_M) (N := 11) hx hb hw in_M ty_M ty_M_ok nm_M hown hK hP hD hS 2 rfl rfl 10 (by decide) (hw _ wd_78) (fun _ h9 => h9) rfl (by decide +kernel) rfl rfl (Nat.le_of_ble_eq_true rfl) d_M_letGo_9 (fun H locs hP hD hS => ?_)
    have hP : va_P (dC, dI) vwCl (TSw cA a0 aR aM aW aP aS aC aO nW nE R f us P S sc li rc rn ro rd (0 : Int32)) H := hP
    have hD : va_D A (TSw cA a0 aR aM aW aP aS aC aO nW nE R f us P S sc li rc rn ro rd (0 : Int32)) := hD
    exact W.vret hx hb hr9 (fun t ht hW => ⟨⟨((0 : Int32)), rfl, h, by rw [ht]; exact hP, va_K.moved hW.alike hK, hD⟩, hS.F ht⟩) hS.2.2 d_M_letGo_12
def wqM_overwrite (nW : Nat) (nE : Nat) (f : Nat → Int32) (st : Int32) (a1 : Int32) (a2 : Int32) (post : (Nat → Int32) → Int32 → Prop) : Prop :=
  wqM_word nW nE f a1 (fun r3 => wqM_letGo nW nE st r3 (fun st_6 => wqM_setWord nW nE f a1 a2 (fun f_12 => post f_12 st_6)))
set_option maxHeartbeats 4000000 in
set_option maxRecDepth 100000 in
theorem mM_overwrite (l : Launch) (dC : Nat → ClassId) (dI : Nat → Nat → Nat) (cA : ClassId) (a0 : Nat) (aR : Nat) (aM : Nat) (aW : Nat) (aP : Nat) (aS : Nat) (aC : Nat) (aO : Nat) (nW : Nat) (nE : Nat) (sz : Nat) (R : Nat → Int32) (f : Nat → Int32) (us : Int32) (P : Nat → Int32) (S : Nat → Int32) (sc : Int32) (li : Int32) (rc : Nat → Int32) (rn : Int32) (ro : Nat → Int32) (rd : Int32) (st : Int32) (a1 : Int32) (a2 : Int32) (post : (Nat → Int32) → Int32 → Prop) (h : wqM_overwrite nW nE f st a1 a2 post) : Met l y_M_overwrite ws_M_overwrite ({ frames := 2, cells := 0, slots := 0, locals := 41 }) (rw_P (dC, dI) vwCl (TSw cA a0 aR aM aW aP aS aC aO nW nE R f us P S sc li rc rn ro rd st) [(cA, .int)] sz [.ref aM, .int a1, .int a2]) (va_Qv (fun u : (Nat → Int32) × Int32 => post u.1 u.2) (rw_B (dC, dI) vwCl [(cA, .int)] (va_A (TSw cA a0 aR aM aW aP aS aC aO nW nE R f us P S sc li rc rn ro rd st) sz) (fun u : (Nat → Int32) × Int32 => TSw cA a0 aR aM aW aP aS aC aO nW nE R u.1 us P S sc li rc rn ro rd u.2)) (va_A (TSw cA a0 aR aM aW aP aS aC aO nW nE R f us P S sc li rc rn ro rd st) sz)) 0 0 (va_A (TSw cA a0 aR aM aW aP aS aC aO nW nE R f us P S sc li rc rn ro rd st) sz) := by
  refine Met.ofW (cc := c_M_overwrite) (maxL := 3) (ret := none) (by decide) rfl ?_
  intro p e s m args below meth c s₁ B hml hv
  obtain ⟨rfl, hsz, hP, hK, hD0⟩ := hv
  have hx := B.exec
  have hb := B.bytes
  have hr9 := B.returns
  have hts := atoms_spec (ws := ws_M_overwrite) B.pre
  have hw : ∀ w ∈ WB_, w.before _ s = true := fun w h => hts w (List.mem_cons_of_mem _ h)
  have hown : s.vm.findClass R_M = some m.cls := findClass_of_methodNamed B.named
  have hlocks := B.notSynchronized
  subst hsz
  have hD := hD0.self (sz := s.heap.size)
  generalize hAe : va_A (TSw cA a0 aR aM aW aP aS aC aO nW nE R f us P S sc li rc rn ro rd st) s.heap.size = A at hD ⊢
  have hA : ∀ q : Nat, s.heap.size ≤ q → A q := fun q h => by rw [← hAe]; exact Or.inr h
  have hS : va_S A s.heap s.heap [] := va_S.rf
  have hl := lv_entry ([.ref aM, .int a1, .int a2]) (n := 3) (Nat.le_of_ble_eq_true rfl)
  rw [lg_entry_eq]
  generalize (lg_sl ([.ref aM, .int a1, .int a2]) ++ List.replicate (3 - (lg_sl ([.ref aM, .int a1, .int a2])).length) Slot.unset).toArray = ls at hl ⊢
  have hl : lv_has ls 3 [(0, .ref aM), (1, .int a1), (2, .int a2)] := hl
  unfold wqM_overwrite at h
  refine lv_aload_n hx hb d_M_overwrite_0 rfl (lv_at hl 0 rfl) ?_
  refine lv_aload_n hx hb d_M_overwrite_1 rfl (lv_at hl 0 rfl) ?_
  refine lv_iload_n hx hb d_M_overwrite_2 rfl (lv_at hl 1 rfl) ?_
  refine rq_calli (W.runV (As := [.int a1]) (rest := [.ref aM]) ⟨hx, hb, hml, hown, hw⟩ (mM_word l dC dI cA a0 aR aM aW aP aS aC aO nW nE R f us P S sc li rc rn ro rd st a1 _ h) (cwV 1 hw g_M_58 rfl rfl rfl (by decide +kernel) ⟨Nat.le_of_ble_eq_true rfl, Nat.le_of_ble_eq_true rfl⟩) (ro_PV (ci := 1) (q0 := 2) hK hP rfl rfl) rfl rfl hl.1 rfl (lv_room (Nat.le_of_ble_eq_true rfl)) d_M_overwrite_3 ⟨Nat.le_of_ble_eq_true rfl, Nat.le_of_ble_eq_true rfl⟩) (fun r3 h => ?_)
  have hFc := va_free (wc := TSw cA a0 aR aM aW aP aS aC aO nW nE R f us P S sc li rc rn ro rd st) hD hS hA [0, 1, 2, 3, 4, 5, 6, 7] rfl
  refine va_callv (va_runV (As := [.int r3]) (rest := []) ⟨hx, hb, hml, hown, hw⟩ (mM_letGo l dC dI cA a0 aR aM aW aP aS aC aO nW nE s.heap.size R f us P S sc li rc rn ro rd st r3 _ h) (cwV 1 hw g_M_86 rfl rfl rfl (by decide +kernel) ⟨Nat.le_of_ble_eq_true rfl, Nat.le_of_ble_eq_true rfl⟩) (rw_PV (ci := 1) (q0 := 2) hK hP hD rfl rfl) rfl rfl hl.1 rfl (lv_room (Nat.le_of_ble_eq_true rfl)) d_M_overwrite_6 ⟨Nat.le_of_ble_eq_true rfl, Nat.le_of_ble_eq_true rfl⟩) hS (fun q _ h => hFc q h) hFc (fun u t H locs ht hvm h hB hz1 hk1 hS => ?_)
  obtain ⟨st_6, rfl⟩ : ∃ z, z = u := ⟨_, rfl⟩
  obtain ⟨hP, hK1, hD1⟩ := hB
  rw [ht] at hP
  have hD := hD1.weaken (fun _ _ _ q => hFc _ q)
  clear hFc hD1 hK1
  try dsimp only at h
  have hP : va_P (dC, dI) vwCl (TSw cA a0 aR aM aW aP aS aC aO nW nE R f us P S sc li rc rn ro rd st_6) H := hP
  have hD : va_D A (TSw cA a0 aR aM aW aP aS aC aO nW nE R f us P S sc li rc rn ro rd st_6) := hD
  refine lv_aload_n hx hb d_M_overwrite_9 rfl (lv_at hl 0 rfl) ?_
  refine lv_iload_n hx hb d_M_overwrite_10 rfl (lv_at hl 1 rfl) ?_
  refine lv_iload_n hx hb d_M_overwrite_11 rfl (lv_at hl 2 rfl) ?_
  have hFc := va_free (wc := TSw cA a0 aR aM aW aP aS aC aO nW nE R f us P S sc li rc rn ro rd st_6) hD hS hA [0, 1, 2, 3, 4, 5, 6, 7] rfl
  refine va_callv (va_runV (As := [.int a1, .int a2]) (rest := []) ⟨hx, hb, hml, hown, hw⟩ (mM_setWord l dC dI cA a0 aR aM aW aP aS aC aO nW nE H.size R f us P S sc li rc rn ro rd st_6 a1 a2 _ h) (cwV 2 hw g_M_83 rfl rfl rfl (by decide +kernel) ⟨Nat.le_of_ble_eq_true rfl, Nat.le_of_ble_eq_true rfl⟩) (rw_PV (ci := 1) (q0 := 2) hK hP hD rfl rfl) rfl rfl hl.1 rfl (lv_room (Nat.le_of_ble_eq_true rfl)) d_M_overwrite_12 ⟨Nat.le_of_ble_eq_true rfl, Nat.le_of_ble_eq_true rfl⟩) hS (fun q _ h => hFc q h) hFc (fun u t H locs ht hvm h hB hz1 hk1 hS => ?_)
  obtain ⟨f_12, rfl⟩ : ∃ z, z = u := ⟨_, rfl⟩
  obtain ⟨hP, hK1, hD1⟩ := hB
  rw [ht] at hP
  have hD := hD1.weaken (fun _ _ _ q => hFc _ q)
  clear hFc hD1 hK1
  try dsimp only at h
  have hP : va_P (dC, dI) vwCl (TSw cA a0 aR aM aW aP aS aC aO nW nE R f_12 us P S sc li rc rn ro rd st_6) H := hP
  have hD : va_D A (TSw cA a0 aR aM aW aP aS aC aO nW nE R f_12 us P S sc li rc rn ro rd st_6) := hD
  exact W.vret hx hb hr9 (fun t ht hW => ⟨⟨(f_12, st_6), rfl, h, by rw [ht]; exact hP, va_K.moved hW.alike hK, hD⟩, hS.F ht⟩) hS.2.2 d_M_overwrite_15
def wqM_setItsClass (nW : Nat) (nE : Nat) (f : Nat → Int32) (P : Nat → Int32) (st : Int32) (a1 : Int32) (a2 : Int32) (post : (Nat → Int32) → Int32 → Prop) : Prop :=
  wqM_place nW nE P a1 (fun r3 => wqM_overwrite nW nE f st (r3 + (2 : Int32)) a2 (fun f_9 st_9 => post f_9 st_9))
set_option maxHeartbeats 4000000 in
set_option maxRecDepth 100000 in
theorem mM_setItsClass (l : Launch) (dC : Nat → ClassId) (dI : Nat → Nat → Nat) (cA : ClassId) (a0 : Nat) (aR : Nat) (aM : Nat) (aW : Nat) (aP : Nat) (aS : Nat) (aC : Nat) (aO : Nat) (nW : Nat) (nE : Nat) (sz : Nat) (R : Nat → Int32) (f : Nat → Int32) (us : Int32) (P : Nat → Int32) (S : Nat → Int32) (sc : Int32) (li : Int32) (rc : Nat → Int32) (rn : Int32) (ro : Nat → Int32) (rd : Int32) (st : Int32) (a1 : Int32) (a2 : Int32) (post : (Nat → Int32) → Int32 → Prop) (h : wqM_setItsClass nW nE f P st a1 a2 post) : Met l y_M_setItsClass ws_M_setItsClass ({ frames := 3, cells := 0, slots := 0, locals := 63 }) (rw_P (dC, dI) vwCl (TSw cA a0 aR aM aW aP aS aC aO nW nE R f us P S sc li rc rn ro rd st) [(cA, .int)] sz [.ref aM, .int a1, .int a2]) (va_Qv (fun u : (Nat → Int32) × Int32 => post u.1 u.2) (rw_B (dC, dI) vwCl [(cA, .int)] (va_A (TSw cA a0 aR aM aW aP aS aC aO nW nE R f us P S sc li rc rn ro rd st) sz) (fun u : (Nat → Int32) × Int32 => TSw cA a0 aR aM aW aP aS aC aO nW nE R u.1 us P S sc li rc rn ro rd u.2)) (va_A (TSw cA a0 aR aM aW aP aS aC aO nW nE R f us P S sc li rc rn ro rd st) sz)) 0 0 (va_A (TSw cA a0 aR aM aW aP aS aC aO nW nE R f us P S sc li rc rn ro rd st) sz) := by
  refine Met.ofW (cc := c_M_setItsClass) (maxL := 3) (ret := none) (by decide) rfl ?_
  intro p e s m args below meth c s₁ B hml hv
  obtain ⟨rfl, hsz, hP, hK, hD0⟩ := hv
  have hx := B.exec
  have hb := B.bytes
  have hr9 := B.returns
  have hts := atoms_spec (ws := ws_M_setItsClass) B.pre
  have hw : ∀ w ∈ WB_, w.before _ s = true := fun w h => hts w (List.mem_cons_of_mem _ h)
  have hown : s.vm.findClass R_M = some m.cls := findClass_of_methodNamed B.named
  have hlocks := B.notSynchronized
  subst hsz
  have hD := hD0.self (sz := s.heap.size)
  generalize hAe : va_A (TSw cA a0 aR aM aW aP aS aC aO nW nE R f us P S sc li rc rn ro rd st) s.heap.size = A at hD ⊢
  have hA : ∀ q : Nat, s.heap.size ≤ q → A q := fun q h => by rw [← hAe]; exact Or.inr h
  have hS : va_S A s.heap s.heap [] := va_S.rf
  have hl := lv_entry ([.ref aM, .int a1, .int a2]) (n := 3) (Nat.le_of_ble_eq_true rfl)
  rw [lg_entry_eq]
  generalize (lg_sl ([.ref aM, .int a1, .int a2]) ++ List.replicate (3 - (lg_sl ([.ref aM, .int a1, .int a2])).length) Slot.unset).toArray = ls at hl ⊢
  have hl : lv_has ls 3 [(0, .ref aM), (1, .int a1), (2, .int a2)] := hl
  unfold wqM_setItsClass at h
  refine lv_aload_n hx hb d_M_setItsClass_0 rfl (lv_at hl 0 rfl) ?_
  refine lv_aload_n hx hb d_M_setItsClass_1 rfl (lv_at hl 0 rfl) ?_
  refine lv_iload_n hx hb d_M_setItsClass_2 rfl (lv_at hl 1 rfl) ?_
  refine rq_calli (W.runV (As := [.int a1]) (rest := [.ref aM]) ⟨hx, hb, hml, hown, hw⟩ (mM_place l dC dI cA a0 aR aM aW aP aS aC aO nW nE R f us P S sc li rc rn ro rd st a1 _ h) (cwV 1 hw g_M_55 rfl rfl rfl (by decide +kernel) ⟨Nat.le_of_ble_eq_true rfl, Nat.le_of_ble_eq_true rfl⟩) (ro_PV (ci := 1) (q0 := 2) hK hP rfl rfl) rfl rfl hl.1 rfl (lv_room (Nat.le_of_ble_eq_true rfl)) d_M_setItsClass_3 ⟨Nat.le_of_ble_eq_true rfl, Nat.le_of_ble_eq_true rfl⟩) (fun r3 h => ?_)
  refine lv_iconst (v := (2 : Int32)) hx hb d_M_setItsClass_6 (by decide) ?_
  refine lv_iadd hx hb d_M_setItsClass_7 ?_
  refine lv_iload_n hx hb d_M_setItsClass_8 rfl (lv_at hl 2 rfl) ?_
  have hFc := va_free (wc := TSw cA a0 aR aM aW aP aS aC aO nW nE R f us P S sc li rc rn ro rd st) hD hS hA [0, 1, 2, 3, 4, 5, 6, 7] rfl
  refine va_callv (va_runV (As := [.int (r3 + (2 : Int32)), .int a2]) (rest := []) ⟨hx, hb, hml, hown, hw⟩ (mM_overwrite l dC dI cA a0 aR aM aW aP aS aC aO nW nE s.heap.size R f us P S sc li rc rn ro rd st (r3 + (2 : Int32)) a2 _ h) (cwV 2 hw g_M_73 rfl rfl rfl (by decide +kernel) ⟨Nat.le_of_ble_eq_true rfl, Nat.le_of_ble_eq_true rfl⟩) (rw_PV (ci := 1) (q0 := 2) hK hP hD rfl rfl) rfl rfl hl.1 rfl (lv_room (Nat.le_of_ble_eq_true rfl)) d_M_setItsClass_9 ⟨Nat.le_of_ble_eq_true rfl, Nat.le_of_ble_eq_true rfl⟩) hS (fun q _ h => hFc q h) hFc (fun u t H locs ht hvm h hB hz1 hk1 hS => ?_)
  obtain ⟨f_9, st_9⟩ := u
  obtain ⟨hP, hK1, hD1⟩ := hB
  rw [ht] at hP
  have hD := hD1.weaken (fun _ _ _ q => hFc _ q)
  clear hFc hD1 hK1
  try dsimp only at h
  have hP : va_P (dC, dI) vwCl (TSw cA a0 aR aM aW aP aS aC aO nW nE R f_9 us P S sc li rc rn ro rd st_9) H := hP
  have hD : va_D A (TSw cA a0 aR aM aW aP aS aC aO nW nE R f_9 us P S sc li rc rn ro rd st_9) := hD
  exact W.vret hx hb hr9 (fun t ht hW => ⟨⟨(f_9, st_9), rfl, h, by rw [ht]; exact hP, va_K.moved hW.alike hK, hD⟩, hS.F ht⟩) hS.2.2 d_M_setItsClass_12
def wqM_setSlot (nW : Nat) (nE : Nat) (f : Nat → Int32) (P : Nat → Int32) (st : Int32) (a1 : Int32) (a2 : Int32) (a3 : Int32) (post : (Nat → Int32) → Int32 → Prop) : Prop :=
  wqM_place nW nE P a1 (fun r3 => wqM_overwrite nW nE f st ((r3 + (4 : Int32)) + a2) a3 (fun f_11 st_11 => post f_11 st_11))
set_option maxHeartbeats 4000000 in
set_option maxRecDepth 100000 in
theorem mM_setSlot (l : Launch) (dC : Nat → ClassId) (dI : Nat → Nat → Nat) (cA : ClassId) (a0 : Nat) (aR : Nat) (aM : Nat) (aW : Nat) (aP : Nat) (aS : Nat) (aC : Nat) (aO : Nat) (nW : Nat) (nE : Nat) (sz : Nat) (R : Nat → Int32) (f : Nat → Int32) (us : Int32) (P : Nat → Int32) (S : Nat → Int32) (sc : Int32) (li : Int32) (rc : Nat → Int32) (rn : Int32) (ro : Nat → Int32) (rd : Int32) (st : Int32) (a1 : Int32) (a2 : Int32) (a3 : Int32) (post : (Nat → Int32) → Int32 → Prop) (h : wqM_setSlot nW nE f P st a1 a2 a3 post) : Met l y_M_setSlot ws_M_setSlot ({ frames := 3, cells := 0, slots := 0, locals := 63 }) (rw_P (dC, dI) vwCl (TSw cA a0 aR aM aW aP aS aC aO nW nE R f us P S sc li rc rn ro rd st) [(cA, .int)] sz [.ref aM, .int a1, .int a2, .int a3]) (va_Qv (fun u : (Nat → Int32) × Int32 => post u.1 u.2) (rw_B (dC, dI) vwCl [(cA, .int)] (va_A (TSw cA a0 aR aM aW aP aS aC aO nW nE R f us P S sc li rc rn ro rd st) sz) (fun u : (Nat → Int32) × Int32 => TSw cA a0 aR aM aW aP aS aC aO nW nE R u.1 us P S sc li rc rn ro rd u.2)) (va_A (TSw cA a0 aR aM aW aP aS aC aO nW nE R f us P S sc li rc rn ro rd st) sz)) 0 0 (va_A (TSw cA a0 aR aM aW aP aS aC aO nW nE R f us P S sc li rc rn ro rd st) sz) := by
  refine Met.ofW (cc := c_M_setSlot) (maxL := 4) (ret := none) (by decide) rfl ?_
  intro p e s m args below meth c s₁ B hml hv
  obtain ⟨rfl, hsz, hP, hK, hD0⟩ := hv
  have hx := B.exec
  have hb := B.bytes
  have hr9 := B.returns
  have hts := atoms_spec (ws := ws_M_setSlot) B.pre
  have hw : ∀ w ∈ WB_, w.before _ s = true := fun w h => hts w (List.mem_cons_of_mem _ h)
  have hown : s.vm.findClass R_M = some m.cls := findClass_of_methodNamed B.named
  have hlocks := B.notSynchronized
  subst hsz
  have hD := hD0.self (sz := s.heap.size)
  generalize hAe : va_A (TSw cA a0 aR aM aW aP aS aC aO nW nE R f us P S sc li rc rn ro rd st) s.heap.size = A at hD ⊢
  have hA : ∀ q : Nat, s.heap.size ≤ q → A q := fun q h => by rw [← hAe]; exact Or.inr h
  have hS : va_S A s.heap s.heap [] := va_S.rf
  have hl := lv_entry ([.ref aM, .int a1, .int a2, .int a3]) (n := 4) (Nat.le_of_ble_eq_true rfl)
  rw [lg_entry_eq]
  generalize (lg_sl ([.ref aM, .int a1, .int a2, .int a3]) ++ List.replicate (4 - (lg_sl ([.ref aM, .int a1, .int a2, .int a3])).length) Slot.unset).toArray = ls at hl ⊢
  have hl : lv_has ls 4 [(0, .ref aM), (1, .int a1), (2, .int a2), (3, .int a3)] := hl
  unfold wqM_setSlot at h
  refine lv_aload_n hx hb d_M_setSlot_0 rfl (lv_at hl 0 rfl) ?_
  refine lv_aload_n hx hb d_M_setSlot_1 rfl (lv_at hl 0 rfl) ?_
  refine lv_iload_n hx hb d_M_setSlot_2 rfl (lv_at hl 1 rfl) ?_
  refine rq_calli (W.runV (As := [.int a1]) (rest := [.ref aM]) ⟨hx, hb, hml, hown, hw⟩ (mM_place l dC dI cA a0 aR aM aW aP aS aC aO nW nE R f us P S sc li rc rn ro rd st a1 _ h) (cwV 1 hw g_M_55 rfl rfl rfl (by decide +kernel) ⟨Nat.le_of_ble_eq_true rfl, Nat.le_of_ble_eq_true rfl⟩) (ro_PV (ci := 1) (q0 := 2) hK hP rfl rfl) rfl rfl hl.1 rfl (lv_room (Nat.le_of_ble_eq_true rfl)) d_M_setSlot_3 ⟨Nat.le_of_ble_eq_true rfl, Nat.le_of_ble_eq_true rfl⟩) (fun r3 h => ?_)
  refine lv_iconst (v := (4 : Int32)) hx hb d_M_setSlot_6 (by decide) ?_
  refine lv_iadd hx hb d_M_setSlot_7 ?_
  refine lv_iload_n hx hb d_M_setSlot_8 rfl (lv_at hl 2 rfl) ?_
  refine lv_iadd hx hb d_M_setSlot_9 ?_
  refine lv_iload_n hx hb d_M_setSlot_10 rfl (lv_at hl 3 rfl) ?_
  have hFc := va_free (wc := TSw cA a0 aR aM aW aP aS aC aO nW nE R f us P S sc li rc rn ro rd st) hD hS hA [0, 1, 2, 3, 4, 5, 6, 7] rfl
  refine va_callv (va_runV (As := [.int ((r3 + (4 : Int32)) + a2), .int a3]) (rest := []) ⟨hx, hb, hml, hown, hw⟩ (mM_overwrite l dC dI cA a0 aR aM aW aP aS aC aO nW nE s.heap.size R f us P S sc li rc rn ro rd st ((r3 + (4 : Int32)) + a2) a3 _ h) (cwV 2 hw g_M_73 rfl rfl rfl (by decide +kernel) ⟨Nat.le_of_ble_eq_true rfl, Nat.le_of_ble_eq_true rfl⟩) (rw_PV (ci := 1) (q0 := 2) hK hP hD rfl rfl) rfl rfl hl.1 rfl (lv_room (Nat.le_of_ble_eq_true rfl)) d_M_setSlot_11 ⟨Nat.le_of_ble_eq_true rfl, Nat.le_of_ble_eq_true rfl⟩) hS (fun q _ h => hFc q h) hFc (fun u t H locs ht hvm h hB hz1 hk1 hS => ?_)
  obtain ⟨f_11, st_11⟩ := u
  obtain ⟨hP, hK1, hD1⟩ := hB
  rw [ht] at hP
  have hD := hD1.weaken (fun _ _ _ q => hFc _ q)
  clear hFc hD1 hK1
  try dsimp only at h
  have hP : va_P (dC, dI) vwCl (TSw cA a0 aR aM aW aP aS aC aO nW nE R f_11 us P S sc li rc rn ro rd st_11) H := hP
  have hD : va_D A (TSw cA a0 aR aM aW aP aS aC aO nW nE R f_11 us P S sc li rc rn ro rd st_11) := hD
  exact W.vret hx hb hr9 (fun t ht hW => ⟨⟨(f_11, st_11), rfl, h, by rw [ht]; exact hP, va_K.moved hW.alike hK, hD⟩, hS.F ht⟩) hS.2.2 d_M_setSlot_14
def wqM_setOneByte (nW : Nat) (nE : Nat) (f : Nat → Int32) (P : Nat → Int32) (a1 : Int32) (a2 : Int32) (a3 : Int32) (post : (Nat → Int32) → Prop) : Prop :=
  wqM_place nW nE P a1 (fun r2 => wqM_word nW nE f ((r2 + (4 : Int32)) + (a2 >>> ((2 : Int32) &&& 31))) (fun r16 => wqM_shiftOf a2 (fun r23 => wqM_shiftOf a2 (fun r39 => wqM_setWord nW nE f ((r2 + (4 : Int32)) + (a2 >>> ((2 : Int32) &&& 31))) ((r16 &&& (((255 : Int32) <<< (r23 &&& 31)) ^^^ (-1 : Int32))) ||| (a3 <<< (r39 &&& 31))) (fun f_44 => post f_44)))))
set_option maxHeartbeats 4000000 in
set_option maxRecDepth 100000 in
theorem mM_setOneByte (l : Launch) (dC : Nat → ClassId) (dI : Nat → Nat → Nat) (cA : ClassId) (a0 : Nat) (aR : Nat) (aM : Nat) (aW : Nat) (aP : Nat) (aS : Nat) (aC : Nat) (aO : Nat) (nW : Nat) (nE : Nat) (sz : Nat) (R : Nat → Int32) (f : Nat → Int32) (us : Int32) (P : Nat → Int32) (S : Nat → Int32) (sc : Int32) (li : Int32) (rc : Nat → Int32) (rn : Int32) (ro : Nat → Int32) (rd : Int32) (st : Int32) (a1 : Int32) (a2 : Int32) (a3 : Int32) (post : (Nat → Int32) → Prop) (h : wqM_setOneByte nW nE f P a1 a2 a3 post) : Met l y_M_setOneByte ws_M_setOneByte ({ frames := 2, cells := 0, slots := 0, locals := 42 }) (rw_P (dC, dI) vwCl (TSw cA a0 aR aM aW aP aS aC aO nW nE R f us P S sc li rc rn ro rd st) [(cA, .int)] sz [.ref aM, .int a1, .int a2, .int a3]) (va_Qv (fun u : (Nat → Int32) => post u) (rw_B (dC, dI) vwCl [(cA, .int)] (va_A (TSw cA a0 aR aM aW aP aS aC aO nW nE R f us P S sc li rc rn ro rd st) sz) (fun u : (Nat → Int32) => TSw cA a0 aR aM aW aP aS aC aO nW nE R u us P S sc li rc rn ro rd st)) (va_A (TSw cA a0 aR aM aW aP aS aC aO nW nE R f us P S sc li rc rn ro rd st) sz)) 0 0 (va_A (TSw cA a0 aR aM aW aP aS aC aO nW nE R f us P S sc li rc rn ro rd st) sz) := by
  refine Met.ofW (cc := c_M_setOneByte) (maxL := 6) (ret := none) (by decide) rfl ?_
  intro p e s m args below meth c s₁ B hml hv
  obtain ⟨rfl, hsz, hP, hK, hD0⟩ := hv
  have hx := B.exec
  have hb := B.bytes
  have hr9 := B.returns
  have hts := atoms_spec (ws := ws_M_setOneByte) B.pre
  have hw : ∀ w ∈ WB_, w.before _ s = true := fun w h => hts w (List.mem_cons_of_mem _ h)
  have hown : s.vm.findClass R_M = some m.cls := findClass_of_methodNamed B.named
  have hlocks := B.notSynchronized
  subst hsz
  have hD := hD0.self (sz := s.heap.size)
  generalize hAe : va_A (TSw cA a0 aR aM aW aP aS aC aO nW nE R f us P S sc li rc rn ro rd st) s.heap.size = A at hD ⊢
  have hA : ∀ q : Nat, s.heap.size ≤ q → A q := fun q h => by rw [← hAe]; exact Or.inr h
  have hS : va_S A s.heap s.heap [] := va_S.rf
  have hl := lv_entry ([.ref aM, .int a1, .int a2, .int a3]) (n := 6) (Nat.le_of_ble_eq_true rfl)
  rw [lg_entry_eq]
  generalize (lg_sl ([.ref aM, .int a1, .int a2, .int a3]) ++ List.replicate (6 - (lg_sl ([.ref aM, .int a1, .int a2, .int a3])).length) Slot.unset).toArray = ls at hl ⊢
  have hl : lv_has ls 6 [(0, .ref aM), (1, .int a1), (2, .int a2), (3, .int a3)] := hl
  unfold wqM_setOneByte at h
  refine lv_aload_n hx hb d_M_setOneByte_0 rfl (lv_at hl 0 rfl) ?_
  refine lv_iload_n hx hb d_M_setOneByte_1 rfl (lv_at hl 1 rfl) ?_
  refine rq_calli (W.runV (As := [.int a1]) (rest := []) ⟨hx, hb, hml, hown, hw⟩ (mM_place l dC dI cA a0 aR aM aW aP aS aC aO nW nE R f us P S sc li rc rn ro rd st a1 _ h) (cwV 1 hw g_M_55 rfl rfl rfl (by decide +kernel) ⟨Nat.le_of_ble_eq_true rfl, Nat.le_of_ble_eq_true rfl⟩) (ro_PV (ci := 1) (q0 := 2) hK hP rfl rfl) rfl rfl hl.1 rfl (lv_room (Nat.le_of_ble_eq_true rfl)) d_M_setOneByte_2 ⟨Nat.le_of_ble_eq_true rfl, Nat.le_of_ble_eq_true rfl⟩) (fun r2 h => ?_)
  refine lv_iconst (v := (4 : Int32)) hx hb d_M_setOneByte_5 (by decide) ?_
  refine lv_iadd hx hb d_M_setOneByte_6 ?_
  refine lv_iload_n hx hb d_M_setOneByte_7 rfl (lv_at hl 2 rfl) ?_
  refine lv_iconst (v := (2 : Int32)) hx hb d_M_setOneByte_8 (by decide) ?_
  refine lv_ishr hx hb d_M_setOneByte_9 ?_
  refine lv_iadd hx hb d_M_setOneByte_10 ?_
  refine lv_istore (lv' := [(4, .int ((r2 + (4 : Int32)) + (a2 >>> ((2 : Int32) &&& 31)))), (0, .ref aM), (1, .int a1), (2, .int a2), (3, .int a3)]) hx hb d_M_setOneByte_11 hl (by decide) rfl (fun ls hl => ?_)
  refine lv_aload_n hx hb d_M_setOneByte_13 rfl (lv_at hl 1 rfl) ?_
  refine lv_iload hx hb d_M_setOneByte_14 (lv_at hl 0 rfl) ?_
  refine rq_calli (W.runV (As := [.int ((r2 + (4 : Int32)) + (a2 >>> ((2 : Int32) &&& 31)))]) (rest := []) ⟨hx, hb, hml, hown, hw⟩ (mM_word l dC dI cA a0 aR aM aW aP aS aC aO nW nE R f us P S sc li rc rn ro rd st ((r2 + (4 : Int32)) + (a2 >>> ((2 : Int32) &&& 31))) _ h) (cwV 1 hw g_M_58 rfl rfl rfl (by decide +kernel) ⟨Nat.le_of_ble_eq_true rfl, Nat.le_of_ble_eq_true rfl⟩) (ro_PV (ci := 1) (q0 := 2) hK hP rfl rfl) rfl rfl hl.1 rfl (lv_room (Nat.le_of_ble_eq_true rfl)) d_M_setOneByte_16 ⟨Nat.le_of_ble_eq_true rfl, Nat.le_of_ble_eq_true rfl⟩) (fun r16 h => ?_)
  refine lv_sipush (v := (255 : Int32)) hx hb d_M_setOneByte_19 (by decide) ?_
  refine lv_iload_n hx hb d_M_setOneByte_22 rfl (lv_at hl 3 rfl) ?_
  refine rq_calli (W.runS (As := [.int a2]) (rest := [.int (255 : Int32), .int r16]) ⟨hx, hb, hml, hown, hw⟩ (mM_shiftOf l a2 _ h) (va_cwS 1 hw g_M_80 rfl rfl rfl (by decide +kernel) ⟨Nat.le_of_ble_eq_true rfl, Nat.le_of_ble_eq_true rfl⟩) preEq rfl rfl hl.1 rfl (lv_room (Nat.le_of_ble_eq_true rfl)) d_M_setOneByte_23 ⟨Nat.le_of_ble_eq_true rfl, Nat.le_of_ble_eq_true rfl⟩) (fun r23 h => ?_)
  refine lv_ishl hx hb d_M_setOneByte_26 ?_
  refine lv_iconst (v := (-1 : Int32)) hx hb d_M_setOneByte_27 (by decide) ?_
  refine lv_ixor hx hb d_M_setOneByte_28 ?_
  refine lv_iand hx hb d_M_setOneByte_29 ?_
  refine lv_istore (lv' := [(5, .int (r16 &&& (((255 : Int32) <<< (r23 &&& 31)) ^^^ (-1 : Int32)))), (4, .int ((r2 + (4 : Int32)) + (a2 >>> ((2 : Int32) &&& 31)))), (0, .ref aM), (1, .int a1), (2, .int a2), (3, .int a3)]) hx hb d_M_setOneByte_30 hl (by decide) rfl (fun ls hl => ?_)
  refine lv_aload_n hx hb d_M_setOneByte_32 rfl (lv_at hl 2 rfl) ?_
  refine lv_iload hx hb d_M_setOneByte_33 (lv_at hl 1 rfl) ?_
  refine lv_iload hx hb d_M_setOneByte_35 (lv_at hl 0 rfl) ?_
  refine lv_iload_n hx hb d_M_setOneByte_37 rfl (lv_at hl 5 rfl) ?_
  refine lv_iload_n hx hb d_M_setOneByte_38 rfl (lv_at hl 4 rfl) ?_
  refine rq_calli (W.runS (As := [.int a2]) (rest := [.int a3, .int (r16 &&& (((255 : Int32) <<< (r23 &&& 31)) ^^^ (-1 : Int32))), .int ((r2 + (4 : Int32)) + (a2 >>> ((2 : Int32) &&& 31))), .ref aM]) ⟨hx, hb, hml, hown, hw⟩ (mM_shiftOf l a2 _ h) (va_cwS 1 hw g_M_80 rfl rfl rfl (by decide +kernel) ⟨Nat.le_of_ble_eq_true rfl, Nat.le_of_ble_eq_true rfl⟩) preEq rfl rfl hl.1 rfl (lv_room (Nat.le_of_ble_eq_true rfl)) d_M_setOneByte_39 ⟨Nat.le_of_ble_eq_true rfl, Nat.le_of_ble_eq_true rfl⟩) (fun r39 h => ?_)
  refine lv_ishl hx hb d_M_setOneByte_42 ?_
  refine lv_ior hx hb d_M_setOneByte_43 ?_
  have hFc := va_free (wc := TSw cA a0 aR aM aW aP aS aC aO nW nE R f us P S sc li rc rn ro rd st) hD hS hA [0, 1, 2, 3, 4, 5, 6, 7] rfl
  refine va_callv (va_runV (As := [.int ((r2 + (4 : Int32)) + (a2 >>> ((2 : Int32) &&& 31))), .int ((r16 &&& (((255 : Int32) <<< (r23 &&& 31)) ^^^ (-1 : Int32))) ||| (a3 <<< (r39 &&& 31)))]) (rest := []) ⟨hx, hb, hml, hown, hw⟩ (mM_setWord l dC dI cA a0 aR aM aW aP aS aC aO nW nE s.heap.size R f us P S sc li rc rn ro rd st ((r2 + (4 : Int32)) + (a2 >>> ((2 : Int32) &&& 31))) ((r16 &&& (((255 : Int32) <<< (r23 &&& 31)) ^^^ (-1 : Int32))) ||| (a3 <<< (r39 &&& 31))) _ h) (cwV 2 hw g_M_83 rfl rfl rfl (by decide +kernel) ⟨Nat.le_of_ble_eq_true rfl, Nat.le_of_ble_eq_true rfl⟩) (rw_PV (ci := 1) (q0 := 2) hK hP hD rfl rfl) rfl rfl hl.1 rfl (lv_room (Nat.le_of_ble_eq_true rfl)) d_M_setOneByte_44 ⟨Nat.le_of_ble_eq_true rfl, Nat.le_of_ble_eq_true rfl⟩) hS (fun q _ h => hFc q h) hFc (fun u t H locs ht hvm h hB hz1 hk1 hS => ?_)
  obtain ⟨f_44, rfl⟩ : ∃ z, z = u := ⟨_, rfl⟩
  obtain ⟨hP, hK1, hD1⟩ := hB
  rw [ht] at hP
  have hD := hD1.weaken (fun _ _ _ q => hFc _ q)
  clear hFc hD1 hK1
  try dsimp only at h
  have hP : va_P (dC, dI) vwCl (TSw cA a0 aR aM aW aP aS aC aO nW nE R f_44 us P S sc li rc rn ro rd st) H := hP
  have hD : va_D A (TSw cA a0 aR aM aW aP aS aC aO nW nE R f_44 us P S sc li rc rn ro rd st) := hD
  exact W.vret hx hb hr9 (fun t ht hW => ⟨⟨(f_44), rfl, h, by rw [ht]; exact hP, va_K.moved hW.alike hK, hD⟩, hS.F ht⟩) hS.2.2 d_M_setOneByte_47
def wqM_giveBackEntry (nW : Nat) (nE : Nat) (S : Nat → Int32) (sc : Int32) (a1 : Int32) (post : (Nat → Int32) → Int32 → Prop) : Prop :=
  (sc < 0 → (post S sc)) ∧ (¬ (sc < 0) → (((nI nE) ≤ sc → (post S sc)) ∧ (¬ ((nI nE) ≤ sc) → (vp_in sc nE ∧ (post (upd S sc.toNatClampNeg a1) (sc + (1 : Int32)))))))
set_option maxHeartbeats 4000000 in
set_option maxRecDepth 100000 in
theorem mM_giveBackEntry (l : Launch) (dC : Nat → ClassId) (dI : Nat → Nat → Nat) (cA : ClassId) (a0 : Nat) (aR : Nat) (aM : Nat) (aW : Nat) (aP : Nat) (aS : Nat) (aC : Nat) (aO : Nat) (nW : Nat) (nE : Nat) (sz : Nat) (R : Nat → Int32) (f : Nat → Int32) (us : Int32) (P : Nat → Int32) (S : Nat → Int32) (sc : Int32) (li : Int32) (rc : Nat → Int32) (rn : Int32) (ro : Nat → Int32) (rd : Int32) (st : Int32) (a1 : Int32) (post : (Nat → Int32) → Int32 → Prop) (h : wqM_giveBackEntry nW nE S sc a1 post) : Met l y_M_giveBackEntry ws_M_giveBackEntry ({ frames := 0, cells := 0, slots := 0, locals := 0 }) (rw_P (dC, dI) vwCl (TSw cA a0 aR aM aW aP aS aC aO nW nE R f us P S sc li rc rn ro rd st) [(cA, .int)] sz [.ref aM, .int a1]) (va_Qv (fun u : (Nat → Int32) × Int32 => post u.1 u.2) (rw_B (dC, dI) vwCl [(cA, .int)] (va_A (TSw cA a0 aR aM aW aP aS aC aO nW nE R f us P S sc li rc rn ro rd st) sz) (fun u : (Nat → Int32) × Int32 => TSw cA a0 aR aM aW aP aS aC aO nW nE R f us P u.1 u.2 li rc rn ro rd st)) (va_A (TSw cA a0 aR aM aW aP aS aC aO nW nE R f us P S sc li rc rn ro rd st) sz)) 0 0 (va_A (TSw cA a0 aR aM aW aP aS aC aO nW nE R f us P S sc li rc rn ro rd st) sz) := by
  refine Met.ofW (cc := c_M_giveBackEntry) (maxL := 2) (ret := none) (by decide) rfl ?_
  intro p e s m args below meth c s₁ B hml hv
  obtain ⟨rfl, hsz, hP, hK, hD0⟩ := hv
  have hx := B.exec
  have hb := B.bytes
  have hr9 := B.returns
  have hts := atoms_spec (ws := ws_M_giveBackEntry) B.pre
  have hw : ∀ w ∈ WB_, w.before _ s = true := fun w h => hts w (List.mem_cons_of_mem _ h)
  have hown : s.vm.findClass R_M = some m.cls := findClass_of_methodNamed B.named
  have hlocks := B.notSynchronized
  subst hsz
  have hD := hD0.self (sz := s.heap.size)
  generalize hAe : va_A (TSw cA a0 aR aM aW aP aS aC aO nW nE R f us P S sc li rc rn ro rd st) s.heap.size = A at hD ⊢
  have hA : ∀ q : Nat, s.heap.size ≤ q → A q := fun q h => by rw [← hAe]; exact Or.inr h
  have hS : va_S A s.heap s.heap [] := va_S.rf
  have hl := lv_entry ([.ref aM, .int a1]) (n := 2) (Nat.le_of_ble_eq_true rfl)
  rw [lg_entry_eq]
  generalize (lg_sl ([.ref aM, .int a1]) ++ List.replicate (2 - (lg_sl ([.ref aM, .int a1])).length) Slot.unset).toArray = ls at hl ⊢
  have hl : lv_has ls 2 [(0, .ref aM), (1, .int a1)] := hl
  unfold wqM_giveBackEntry at h
  refine lv_aload_n hx hb d_M_giveBackEntry_0 rfl (lv_at hl 0 rfl) ?_
  refine va_get (D := (dC, dI)) (ci := 1) (v := .int sc) (C := R_M) (T := T_M) (N := 11) hx hb hw in_M hown hK hP 2 rfl rfl 4 (by decide) (hw _ wd_72) (fun _ h9 => h9) rfl d_M_giveBackEntry_1 ?_
  refine lv_if_lt (tgt := 39) hx hb d_M_giveBackEntry_4 (by decide) (fun c_4 => ?_) (fun c_4 => ?_)
  · have h := h.1 c_4
    exact W.vret hx hb hr9 (fun t ht hW => ⟨⟨(S, sc), rfl, h, by rw [ht]; exact hP, va_K.moved hW.alike hK, hD⟩, hS.F ht⟩) hS.2.2 d_M_giveBackEntry_39
  · have h := h.2 c_4
    refine lv_aload_n hx hb d_M_giveBackEntry_7 rfl (lv_at hl 0 rfl) ?_
    refine va_get (D := (dC, dI)) (ci := 1) (v := .int sc) (C := R_M) (T := T_M) (N := 11) hx hb hw in_M hown hK hP 2 rfl rfl 4 (by decide) (hw _ wd_72) (fun _ h9 => h9) rfl d_M_giveBackEntry_8 ?_
    refine lv_aload_n hx hb d_M_giveBackEntry_11 rfl (lv_at hl 0 rfl) ?_
    refine va_get (D := (dC, dI)) (ci := 1) (v := .ref aS) (C := R_M) (T := T_M) (N := 11) hx hb hw in_M hown hK hP 2 rfl rfl 3 (by decide) (hw _ wd_71) (fun _ h9 => h9) rfl d_M_giveBackEntry_12 ?_
    refine va_alen (v := nI nE) hx hb hK hP 5 0 rfl rfl rfl d_M_giveBackEntry_15 ?_
    refine lv_icmp_ge (tgt := 39) hx hb d_M_giveBackEntry_16 (by decide) (fun c_16 => ?_) (fun c_16 => ?_)
    · have h := h.1 c_16
      exact W.vret hx hb hr9 (fun t ht hW => ⟨⟨(S, sc), rfl, h, by rw [ht]; exact hP, va_K.moved hW.alike hK, hD⟩, hS.F ht⟩) hS.2.2 d_M_giveBackEntry_39
    · have h := h.2 c_16
      refine lv_aload_n hx hb d_M_giveBackEntry_19 rfl (lv_at hl 0 rfl) ?_
      refine va_get (D := (dC, dI)) (ci := 1) (v := .ref aS) (C := R_M) (T := T_M) (N := 11) hx hb hw in_M hown hK hP 2 rfl rfl 3 (by decide) (hw _ wd_71) (fun _ h9 => h9) rfl d_M_giveBackEntry_20 ?_
      refine lv_aload_n hx hb d_M_giveBackEntry_23 rfl (lv_at hl 0 rfl) ?_
      refine va_get (D := (dC, dI)) (ci := 1) (v := .int sc) (C := R_M) (T := T_M) (N := 11) hx hb hw in_M hown hK hP 2 rfl rfl 4 (by decide) (hw _ wd_72) (fun _ h9 => h9) rfl d_M_giveBackEntry_24 ?_
      refine lv_iload_n hx hb d_M_giveBackEntry_27 rfl (lv_at hl 1 rfl) ?_
      refine va_iast hx hb hK hP hD hS 5 0 rfl rfl h.1 d_M_giveBackEntry_28 (fun H locs hP hD hS => ?_)
      have hP : va_P (dC, dI) vwCl (TSw cA a0 aR aM aW aP aS aC aO nW nE R f us P (upd S sc.toNatClampNeg a1) sc li rc rn ro rd st) H := hP
      have hD : va_D A (TSw cA a0 aR aM aW aP aS aC aO nW nE R f us P (upd S sc.toNatClampNeg a1) sc li rc rn ro rd st) := hD
      have h := h.2
      refine lv_aload_n hx hb d_M_giveBackEntry_29 rfl (lv_at hl 0 rfl) ?_
      refine lv_dup hx hb d_M_giveBackEntry_30 rfl ?_
      refine va_get (D := (dC, dI)) (ci := 1) (v := .int sc) (C := R_M) (T := T_M) (N := 11) hx hb hw in_M hown hK hP 2 rfl rfl 4 (by decide) (hw _ wd_72) (fun _ h9 => h9) rfl d_M_giveBackEntry_31 ?_
      refine lv_iconst (v := (1 : Int32)) hx hb d_M_giveBackEntry_34 (by decide) ?_
      refine lv_iadd hx hb d_M_giveBackEntry_35 ?_
      refine va_put (D := (dC, dI)) (ci := 1) (v := .int (sc + (1 : Int32))) (ty := .int) (C := R_M) (T := T_M) (N := 11) hx hb hw in_M ty_M ty_M_ok nm_M hown hK hP hD hS 2 rfl rfl 4 (by decide) (hw _ wd_72) (fun _ h9 => h9) rfl (by decide +kernel) rfl rfl (Nat.le_of_ble_eq_true rfl) d_M_giveBackEntry_36 (fun H locs hP hD hS => ?_)
      have hP : va_P (dC, dI) vwCl (TSw cA a0 aR aM aW aP aS aC aO nW nE R f us P (upd S sc.toNatClampNeg a1) (sc + (1 : Int32)) li rc rn ro rd st) H := hP
      have hD : va_D A (TSw cA a0 aR aM aW aP aS aC aO nW nE R f us P (upd S sc.toNatClampNeg a1) (sc + (1 : Int32)) li rc rn ro rd st) := hD
      exact W.vret hx hb hr9 (fun t ht hW => ⟨⟨(upd S sc.toNatClampNeg a1, sc + (1 : Int32)), rfl, h, by rw [ht]; exact hP, va_K.moved hW.alike hK, hD⟩, hS.F ht⟩) hS.2.2 d_M_giveBackEntry_39
def wqM_seat (nW : Nat) (nE : Nat) (f : Nat → Int32) (P : Nat → Int32) (a1 : Int32) (a2 : Int32) (post : (Nat → Int32) → (Nat → Int32) → Prop) : Prop :=
  (a1 < 0 → (wqM_setWord nW nE f (a2 + (0 : Int32)) a1 (fun f_25 => post f_25 P))) ∧ (¬ (a1 < 0) → (((nI nE) ≤ a1 → (wqM_setWord nW nE f (a2 + (0 : Int32)) a1 (fun f_25 => post f_25 P))) ∧ (¬ ((nI nE) ≤ a1) → (vp_in a1 nE ∧ (wqM_setWord nW nE f (a2 + (0 : Int32)) a1 (fun f_25 => post f_25 (upd P a1.toNatClampNeg a2)))))))
set_option maxHeartbeats 4000000 in
set_option maxRecDepth 100000 in
theorem mM_seat (l : Launch) (dC : Nat → ClassId) (dI : Nat → Nat → Nat) (cA : ClassId) (a0 : Nat) (aR : Nat) (aM : Nat) (aW : Nat) (aP : Nat) (aS : Nat) (aC : Nat) (aO : Nat) (nW : Nat) (nE : Nat) (sz : Nat) (R : Nat → Int32) (f : Nat → Int32) (us : Int32) (P : Nat → Int32) (S : Nat → Int32) (sc : Int32) (li : Int32) (rc : Nat → Int32) (rn : Int32) (ro : Nat → Int32) (rd : Int32) (st : Int32) (a1 : Int32) (a2 : Int32) (post : (Nat → Int32) → (Nat → Int32) → Prop) (h : wqM_seat nW nE f P a1 a2 post) : Met l y_M_seat ws_M_seat ({ frames := 1, cells := 0, slots := 0, locals := 22 }) (rw_P (dC, dI) vwCl (TSw cA a0 aR aM aW aP aS aC aO nW nE R f us P S sc li rc rn ro rd st) [(cA, .int)] sz [.ref aM, .int a1, .int a2]) (va_Qv (fun u : (Nat → Int32) × (Nat → Int32) => post u.1 u.2) (rw_B (dC, dI) vwCl [(cA, .int)] (va_A (TSw cA a0 aR aM aW aP aS aC aO nW nE R f us P S sc li rc rn ro rd st) sz) (fun u : (Nat → Int32) × (Nat → Int32) => TSw cA a0 aR aM aW aP aS aC aO nW nE R u.1 us u.2 S sc li rc rn ro rd st)) (va_A (TSw cA a0 aR aM aW aP aS aC aO nW nE R f us P S sc li rc rn ro rd st) sz)) 0 0 (va_A (TSw cA a0 aR aM aW aP aS aC aO nW nE R f us P S sc li rc rn ro rd st) sz) := by
  refine Met.ofW (cc := c_M_seat) (maxL := 3) (ret := none) (by decide) rfl ?_
  intro p e s m args below meth c s₁ B hml hv
  obtain ⟨rfl, hsz, hP, hK, hD0⟩ := hv
  have hx := B.exec
  have hb := B.bytes
  have hr9 := B.returns
  have hts := atoms_spec (ws := ws_M_seat) B.pre
  have hw : ∀ w ∈ WB_, w.before _ s = true := fun w h => hts w (List.mem_cons_of_mem _ h)
  have hown : s.vm.findClass R_M = some m.cls := findClass_of_methodNamed B.named
  have hlocks := B.notSynchronized
  subst hsz
  have hD := hD0.self (sz := s.heap.size)
  generalize hAe : va_A (TSw cA a0 aR aM aW aP aS aC aO nW nE R f us P S sc li rc rn ro rd st) s.heap.size = A at hD ⊢
  have hA : ∀ q : Nat, s.heap.size ≤ q → A q := fun q h => by rw [← hAe]; exact Or.inr h
  have hS : va_S A s.heap s.heap [] := va_S.rf
  have hl := lv_entry ([.ref aM, .int a1, .int a2]) (n := 3) (Nat.le_of_ble_eq_true rfl)
  rw [lg_entry_eq]
  generalize (lg_sl ([.ref aM, .int a1, .int a2]) ++ List.replicate (3 - (lg_sl ([.ref aM, .int a1, .int a2])).length) Slot.unset).toArray = ls at hl ⊢
  have hl : lv_has ls 3 [(0, .ref aM), (1, .int a1), (2, .int a2)] := hl
  unfold wqM_seat at h
  refine lv_iload_n hx hb d_M_seat_0 rfl (lv_at hl 1 rfl) ?_
  refine lv_if_lt (tgt := 20) hx hb d_M_seat_1 (by decide) (fun c_1 => ?_) (fun c_1 => ?_)
  · have h := h.1 c_1
    refine lv_aload_n hx hb d_M_seat_20 rfl (lv_at hl 0 rfl) ?_
    refine lv_iload_n hx hb d_M_seat_21 rfl (lv_at hl 2 rfl) ?_
    refine lv_iconst (v := (0 : Int32)) hx hb d_M_seat_22 (by decide) ?_
    refine lv_iadd hx hb d_M_seat_23 ?_
    refine lv_iload_n hx hb d_M_seat_24 rfl (lv_at hl 1 rfl) ?_
    have hFc := va_free (wc := TSw cA a0 aR aM aW aP aS aC aO nW nE R f us P S sc li rc rn ro rd st) hD hS hA [0, 1, 2, 3, 4, 5, 6, 7] rfl
    refine va_callv (va_runV (As := [.int (a2 + (0 : Int32)), .int a1]) (rest := []) ⟨hx, hb, hml, hown, hw⟩ (mM_setWord l dC dI cA a0 aR aM aW aP aS aC aO nW nE s.heap.size R f us P S sc li rc rn ro rd st (a2 + (0 : Int32)) a1 _ h) (cwV 2 hw g_M_83 rfl rfl rfl (by decide +kernel) ⟨Nat.le_of_ble_eq_true rfl, Nat.le_of_ble_eq_true rfl⟩) (rw_PV (ci := 1) (q0 := 2) hK hP hD rfl rfl) rfl rfl hl.1 rfl (lv_room (Nat.le_of_ble_eq_true rfl)) d_M_seat_25 ⟨Nat.le_of_ble_eq_true rfl, Nat.le_of_ble_eq_true rfl⟩) hS (fun q _ h => hFc q h) hFc (fun u t H locs ht hvm h hB hz1 hk1 hS => ?_)
    obtain ⟨f_25, rfl⟩ : ∃ z, z = u := ⟨_, rfl⟩
    obtain ⟨hP, hK1, hD1⟩ := hB
    rw [ht] at hP
    have hD := hD1.weaken (fun _ _ _ q => hFc _ q)
    clear hFc hD1 hK1
    try dsimp only at h
    have hP : va_P (dC, dI) vwCl (TSw cA a0 aR aM aW aP aS aC aO nW nE R f_25 us P S sc li rc rn ro rd st) H := hP
    have hD : va_D A (TSw cA a0 aR aM aW aP aS aC aO nW nE R f_25 us P S sc li rc rn ro rd st) := hD
    exact W.vret hx hb hr9 (fun t ht hW => ⟨⟨(f_25, P), rfl, h, by rw [ht]; exact hP, va_K.moved hW.alike hK, hD⟩, hS.F ht⟩) hS.2.2 d_M_seat_28
  · have h := h.2 c_1
    refine lv_iload_n hx hb d_M_seat_4 rfl (lv_at hl 1 rfl) ?_
    refine lv_aload_n hx hb d_M_seat_5 rfl (lv_at hl 0 rfl) ?_
    refine va_get (D := (dC, dI)) (ci := 1) (v := .ref aP) (C := R_M) (T := T_M) (N := 11) hx hb hw in_M hown hK hP 2 rfl rfl 2 (by decide) (hw _ wd_70) (fun _ h9 => h9) rfl d_M_seat_6 ?_
    refine va_alen (v := nI nE) hx hb hK hP 4 0 rfl rfl rfl d_M_seat_9 ?_
    refine lv_icmp_ge (tgt := 20) hx hb d_M_seat_10 (by decide) (fun c_10 => ?_) (fun c_10 => ?_)
    · have h := h.1 c_10
      refine lv_aload_n hx hb d_M_seat_20 rfl (lv_at hl 0 rfl) ?_
      refine lv_iload_n hx hb d_M_seat_21 rfl (lv_at hl 2 rfl) ?_
      refine lv_iconst (v := (0 : Int32)) hx hb d_M_seat_22 (by decide) ?_
      refine lv_iadd hx hb d_M_seat_23 ?_
      refine lv_iload_n hx hb d_M_seat_24 rfl (lv_at hl 1 rfl) ?_
      have hFc := va_free (wc := TSw cA a0 aR aM aW aP aS aC aO nW nE R f us P S sc li rc rn ro rd st) hD hS hA [0, 1, 2, 3, 4, 5, 6, 7] rfl
      refine va_callv (va_runV (As := [.int (a2 + (0 : Int32)), .int a1]) (rest := []) ⟨hx, hb, hml, hown, hw⟩ (mM_setWord l dC dI cA a0 aR aM aW aP aS aC aO nW nE s.heap.size R f us P S sc li rc rn ro rd st (a2 + (0 : Int32)) a1 _ h) (cwV 2 hw g_M_83 rfl rfl rfl (by decide +kernel) ⟨Nat.le_of_ble_eq_true rfl, Nat.le_of_ble_eq_true rfl⟩) (rw_PV (ci := 1) (q0 := 2) hK hP hD rfl rfl) rfl rfl hl.1 rfl (lv_room (Nat.le_of_ble_eq_true rfl)) d_M_seat_25 ⟨Nat.le_of_ble_eq_true rfl, Nat.le_of_ble_eq_true rfl⟩) hS (fun q _ h => hFc q h) hFc (fun u t H locs ht hvm h hB hz1 hk1 hS => ?_)
      obtain ⟨f_25, rfl⟩ : ∃ z, z = u := ⟨_, rfl⟩
      obtain ⟨hP, hK1, hD1⟩ := hB
      rw [ht] at hP
      have hD := hD1.weaken (fun _ _ _ q => hFc _ q)
      clear hFc hD1 hK1
      try dsimp only at h
      have hP : va_P (dC, dI) vwCl (TSw cA a0 aR aM aW aP aS aC aO nW nE R f_25 us P S sc li rc rn ro rd st) H := hP
      have hD : va_D A (TSw cA a0 aR aM aW aP aS aC aO nW nE R f_25 us P S sc li rc rn ro rd st) := hD
      exact W.vret hx hb hr9 (fun t ht hW => ⟨⟨(f_25, P), rfl, h, by rw [ht]; exact hP, va_K.moved hW.alike hK, hD⟩, hS.F ht⟩) hS.2.2 d_M_seat_28
    · have h := h.2 c_10
      refine lv_aload_n hx hb d_M_seat_13 rfl (lv_at hl 0 rfl) ?_
      refine va_get (D := (dC, dI)) (ci := 1) (v := .ref aP) (C := R_M) (T := T_M) (N := 11) hx hb hw in_M hown hK hP 2 rfl rfl 2 (by decide) (hw _ wd_70) (fun _ h9 => h9) rfl d_M_seat_14 ?_
      refine lv_iload_n hx hb d_M_seat_17 rfl (lv_at hl 1 rfl) ?_
      refine lv_iload_n hx hb d_M_seat_18 rfl (lv_at hl 2 rfl) ?_
      refine va_iast hx hb hK hP hD hS 4 0 rfl rfl h.1 d_M_seat_19 (fun H locs hP hD hS => ?_)
      have hP : va_P (dC, dI) vwCl (TSw cA a0 aR aM aW aP aS aC aO nW nE R f us (upd P a1.toNatClampNeg a2) S sc li rc rn ro rd st) H := hP
      have hD : va_D A (TSw cA a0 aR aM aW aP aS aC aO nW nE R f us (upd P a1.toNatClampNeg a2) S sc li rc rn ro rd st) := hD
      have h := h.2
      refine lv_aload_n hx hb d_M_seat_20 rfl (lv_at hl 0 rfl) ?_
      refine lv_iload_n hx hb d_M_seat_21 rfl (lv_at hl 2 rfl) ?_
      refine lv_iconst (v := (0 : Int32)) hx hb d_M_seat_22 (by decide) ?_
      refine lv_iadd hx hb d_M_seat_23 ?_
      refine lv_iload_n hx hb d_M_seat_24 rfl (lv_at hl 1 rfl) ?_
      have hFc := va_free (wc := TSw cA a0 aR aM aW aP aS aC aO nW nE R f us (upd P a1.toNatClampNeg a2) S sc li rc rn ro rd st) hD hS hA [0, 1, 2, 3, 4, 5, 6, 7] rfl
      refine va_callv (va_runV (As := [.int (a2 + (0 : Int32)), .int a1]) (rest := []) ⟨hx, hb, hml, hown, hw⟩ (mM_setWord l dC dI cA a0 aR aM aW aP aS aC aO nW nE H.size R f us (upd P a1.toNatClampNeg a2) S sc li rc rn ro rd st (a2 + (0 : Int32)) a1 _ h) (cwV 2 hw g_M_83 rfl rfl rfl (by decide +kernel) ⟨Nat.le_of_ble_eq_true rfl, Nat.le_of_ble_eq_true rfl⟩) (rw_PV (ci := 1) (q0 := 2) hK hP hD rfl rfl) rfl rfl hl.1 rfl (lv_room (Nat.le_of_ble_eq_true rfl)) d_M_seat_25 ⟨Nat.le_of_ble_eq_true rfl, Nat.le_of_ble_eq_true rfl⟩) hS (fun q _ h => hFc q h) hFc (fun u t H locs ht hvm h hB hz1 hk1 hS => ?_)
      obtain ⟨f_25, rfl⟩ : ∃ z, z = u := ⟨_, rfl⟩
      obtain ⟨hP, hK1, hD1⟩ := hB
      rw [ht] at hP
      have hD := hD1.weaken (fun _ _ _ q => hFc _ q)
      clear hFc hD1 hK1
      try dsimp only at h
      have hP : va_P (dC, dI) vwCl (TSw cA a0 aR aM aW aP aS aC aO nW nE R f_25 us (upd P a1.toNatClampNeg a2) S sc li rc rn ro rd st) H := hP
      have hD : va_D A (TSw cA a0 aR aM aW aP aS aC aO nW nE R f_25 us (upd P a1.toNatClampNeg a2) S sc li rc rn ro rd st) := hD
      exact W.vret hx hb hr9 (fun t ht hW => ⟨⟨(f_25, upd P a1.toNatClampNeg a2), rfl, h, by rw [ht]; exact hP, va_K.moved hW.alike hK, hD⟩, hS.F ht⟩) hS.2.2 d_M_seat_28
def wqM_swap (nW : Nat) (nE : Nat) (f : Nat → Int32) (P : Nat → Int32) (a1 : Int32) (a2 : Int32) (post : (Nat → Int32) → (Nat → Int32) → Prop) : Prop :=
  wqM_place nW nE P a1 (fun r2 => wqM_place nW nE P a2 (fun r8 => wqV_toEntry a1 (fun r15 => wqM_seat nW nE f P r15 r8 (fun f_20 P_20 => wqV_toEntry a2 (fun r25 => wqM_seat nW nE f_20 P_20 r25 r2 (fun f_29 P_29 => post f_29 P_29))))))
set_option maxHeartbeats 4000000 in
set_option maxRecDepth 100000 in
theorem mM_swap (l : Launch) (dC : Nat → ClassId) (dI : Nat → Nat → Nat) (cA : ClassId) (a0 : Nat) (aR : Nat) (aM : Nat) (aW : Nat) (aP : Nat) (aS : Nat) (aC : Nat) (aO : Nat) (nW : Nat) (nE : Nat) (sz : Nat) (R : Nat → Int32) (f : Nat → Int32) (us : Int32) (P : Nat → Int32) (S : Nat → Int32) (sc : Int32) (li : Int32) (rc : Nat → Int32) (rn : Int32) (ro : Nat → Int32) (rd : Int32) (st : Int32) (a1 : Int32) (a2 : Int32) (post : (Nat → Int32) → (Nat → Int32) → Prop) (h : wqM_swap nW nE f P a1 a2 post) : Met l y_M_swap ws_M_swap ({ frames := 2, cells := 0, slots := 0, locals := 44 }) (rw_P (dC, dI) vwCl (TSw cA a0 aR aM aW aP aS aC aO nW nE R f us P S sc li rc rn ro rd st) [(cA, .int)] sz [.ref aM, .int a1, .int a2]) (va_Qv (fun u : (Nat → Int32) × (Nat → Int32) => post u.1 u.2) (rw_B (dC, dI) vwCl [(cA, .int)] (va_A (TSw cA a0 aR aM aW aP aS aC aO nW nE R f us P S sc li rc rn ro rd st) sz) (fun u : (Nat → Int32) × (Nat → Int32) => TSw cA a0 aR aM aW aP aS aC aO nW nE R u.1 us u.2 S sc li rc rn ro rd st)) (va_A (TSw cA a0 aR aM aW aP aS aC aO nW nE R f us P S sc li rc rn ro rd st) sz)) 0 0 (va_A (TSw cA a0 aR aM aW aP aS aC aO nW nE R f us P S sc li rc rn ro rd st) sz) := by
  refine Met.ofW (cc := c_M_swap) (maxL := 5) (ret := none) (by decide) rfl ?_
  intro p e s m args below meth c s₁ B hml hv
  obtain ⟨rfl, hsz, hP, hK, hD0⟩ := hv
  have hx := B.exec
  have hb := B.bytes
  have hr9 := B.returns
  have hts := atoms_spec (ws := ws_M_swap) B.pre
  have hw : ∀ w ∈ WB_, w.before _ s = true := fun w h => hts w (List.mem_cons_of_mem _ h)
  have hown : s.vm.findClass R_M = some m.cls := findClass_of_methodNamed B.named
  have hlocks := B.notSynchronized
  subst hsz
  have hD := hD0.self (sz := s.heap.size)
  generalize hAe : va_A (TSw cA a0 aR aM aW aP aS aC aO nW nE R f us P S sc li rc rn ro rd st) s.heap.size = A at hD ⊢
  have hA : ∀ q : Nat, s.heap.size ≤ q → A q := fun q h => by rw [← hAe]; exact Or.inr h
  have hS : va_S A s.heap s.heap [] := va_S.rf
  have hl := lv_entry ([.ref aM, .int a1, .int a2]) (n := 5) (Nat.le_of_ble_eq_true rfl)
  rw [lg_entry_eq]
  generalize (lg_sl ([.ref aM, .int a1, .int a2]) ++ List.replicate (5 - (lg_sl ([.ref aM, .int a1, .int a2])).length) Slot.unset).toArray = ls at hl ⊢
  have hl : lv_has ls 5 [(0, .ref aM), (1, .int a1), (2, .int a2)] := hl
  unfold wqM_swap at h
  refine lv_aload_n hx hb d_M_swap_0 rfl (lv_at hl 0 rfl) ?_
  refine lv_iload_n hx hb d_M_swap_1 rfl (lv_at hl 1 rfl) ?_
  refine rq_calli (W.runV (As := [.int a1]) (rest := []) ⟨hx, hb, hml, hown, hw⟩ (mM_place l dC dI cA a0 aR aM aW aP aS aC aO nW nE R f us P S sc li rc rn ro rd st a1 _ h) (cwV 1 hw g_M_55 rfl rfl rfl (by decide +kernel) ⟨Nat.le_of_ble_eq_true rfl, Nat.le_of_ble_eq_true rfl⟩) (ro_PV (ci := 1) (q0 := 2) hK hP rfl rfl) rfl rfl hl.1 rfl (lv_room (Nat.le_of_ble_eq_true rfl)) d_M_swap_2 ⟨Nat.le_of_ble_eq_true rfl, Nat.le_of_ble_eq_true rfl⟩) (fun r2 h => ?_)
  refine lv_istore_n (lv' := [(3, .int r2), (0, .ref aM), (1, .int a1), (2, .int a2)]) hx hb d_M_swap_5 rfl hl (by decide) rfl (fun ls hl => ?_)
  refine lv_aload_n hx hb d_M_swap_6 rfl (lv_at hl 1 rfl) ?_
  refine lv_iload_n hx hb d_M_swap_7 rfl (lv_at hl 3 rfl) ?_
  refine rq_calli (W.runV (As := [.int a2]) (rest := []) ⟨hx, hb, hml, hown, hw⟩ (mM_place l dC dI cA a0 aR aM aW aP aS aC aO nW nE R f us P S sc li rc rn ro rd st a2 _ h) (cwV 1 hw g_M_55 rfl rfl rfl (by decide +kernel) ⟨Nat.le_of_ble_eq_true rfl, Nat.le_of_ble_eq_true rfl⟩) (ro_PV (ci := 1) (q0 := 2) hK hP rfl rfl) rfl rfl hl.1 rfl (lv_room (Nat.le_of_ble_eq_true rfl)) d_M_swap_8 ⟨Nat.le_of_ble_eq_true rfl, Nat.le_of_ble_eq_true rfl⟩) (fun r8 h => ?_)
  refine lv_istore (lv' := [(4, .int r8), (3, .int r2), (0, .ref aM), (1, .int a1), (2, .int a2)]) hx hb d_M_swap_11 hl (by decide) rfl (fun ls hl => ?_)
  refine lv_aload_n hx hb d_M_swap_13 rfl (lv_at hl 2 rfl) ?_
  refine lv_iload_n hx hb d_M_swap_14 rfl (lv_at hl 3 rfl) ?_
  refine rq_calli (W.runS (As := [.int a1]) (rest := [.ref aM]) ⟨hx, hb, hml, hown, hw⟩ (mV_toEntry l a1 _ h) (va_cwS 1 hw g_M_49 rfl rfl rfl (by decide +kernel) ⟨Nat.le_of_ble_eq_true rfl, Nat.le_of_ble_eq_true rfl⟩) preEq rfl rfl hl.1 rfl (lv_room (Nat.le_of_ble_eq_true rfl)) d_M_swap_15 ⟨Nat.le_of_ble_eq_true rfl, Nat.le_of_ble_eq_true rfl⟩) (fun r15 h => ?_)
  refine lv_iload hx hb d_M_swap_18 (lv_at hl 0 rfl) ?_
  have hFc := va_free (wc := TSw cA a0 aR aM aW aP aS aC aO nW nE R f us P S sc li rc rn ro rd st) hD hS hA [0, 1, 2, 3, 4, 5, 6, 7] rfl
  refine va_callv (va_runV (As := [.int r15, .int r8]) (rest := []) ⟨hx, hb, hml, hown, hw⟩ (mM_seat l dC dI cA a0 aR aM aW aP aS aC aO nW nE s.heap.size R f us P S sc li rc rn ro rd st r15 r8 _ h) (cwV 2 hw g_M_106 rfl rfl rfl (by decide +kernel) ⟨Nat.le_of_ble_eq_true rfl, Nat.le_of_ble_eq_true rfl⟩) (rw_PV (ci := 1) (q0 := 2) hK hP hD rfl rfl) rfl rfl hl.1 rfl (lv_room (Nat.le_of_ble_eq_true rfl)) d_M_swap_20 ⟨Nat.le_of_ble_eq_true rfl, Nat.le_of_ble_eq_true rfl⟩) hS (fun q _ h => hFc q h) hFc (fun u t H locs ht hvm h hB hz1 hk1 hS => ?_)
  obtain ⟨f_20, P_20⟩ := u
  obtain ⟨hP, hK1, hD1⟩ := hB
  rw [ht] at hP
  have hD := hD1.weaken (fun _ _ _ q => hFc _ q)
  clear hFc hD1 hK1
  try dsimp only at h
  have hP : va_P (dC, dI) vwCl (TSw cA a0 aR aM aW aP aS aC aO nW nE R f_20 us P_20 S sc li rc rn ro rd st) H := hP
  have hD : va_D A (TSw cA a0 aR aM aW aP aS aC aO nW nE R f_20 us P_20 S sc li rc rn ro rd st) := hD
  refine lv_aload_n hx hb d_M_swap_23 rfl (lv_at hl 2 rfl) ?_
  refine lv_iload_n hx hb d_M_swap_24 rfl (lv_at hl 4 rfl) ?_
  refine rq_calli (W.runS (As := [.int a2]) (rest := [.ref aM]) ⟨hx, hb, hml, hown, hw⟩ (mV_toEntry l a2 _ h) (va_cwS 1 hw g_M_49 rfl rfl rfl (by decide +kernel) ⟨Nat.le_of_ble_eq_true rfl, Nat.le_of_ble_eq_true rfl⟩) preEq rfl rfl hl.1 rfl (lv_room (Nat.le_of_ble_eq_true rfl)) d_M_swap_25 ⟨Nat.le_of_ble_eq_true rfl, Nat.le_of_ble_eq_true rfl⟩) (fun r25 h => ?_)
  refine lv_iload_n hx hb d_M_swap_28 rfl (lv_at hl 1 rfl) ?_
  have hFc := va_free (wc := TSw cA a0 aR aM aW aP aS aC aO nW nE R f_20 us P_20 S sc li rc rn ro rd st) hD hS hA [0, 1, 2, 3, 4, 5, 6, 7] rfl
  refine va_callv (va_runV (As := [.int r25, .int r2]) (rest := []) ⟨hx, hb, hml, hown, hw⟩ (mM_seat l dC dI cA a0 aR aM aW aP aS aC aO nW nE H.size R f_20 us P_20 S sc li rc rn ro rd st r25 r2 _ h) (cwV 2 hw g_M_106 rfl rfl rfl (by decide +kernel) ⟨Nat.le_of_ble_eq_true rfl, Nat.le_of_ble_eq_true rfl⟩) (rw_PV (ci := 1) (q0 := 2) hK hP hD rfl rfl) rfl rfl hl.1 rfl (lv_room (Nat.le_of_ble_eq_true rfl)) d_M_swap_29 ⟨Nat.le_of_ble_eq_true rfl, Nat.le_of_ble_eq_true rfl⟩) hS (fun q _ h => hFc q h) hFc (fun u t H locs ht hvm h hB hz1 hk1 hS => ?_)
  obtain ⟨f_29, P_29⟩ := u
  obtain ⟨hP, hK1, hD1⟩ := hB
  rw [ht] at hP
  have hD := hD1.weaken (fun _ _ _ q => hFc _ q)
  clear hFc hD1 hK1
  try dsimp only at h
  have hP : va_P (dC, dI) vwCl (TSw cA a0 aR aM aW aP aS aC aO nW nE R f_29 us P_29 S sc li rc rn ro rd st) H := hP
  have hD : va_D A (TSw cA a0 aR aM aW aP aS aC aO nW nE R f_29 us P_29 S sc li rc rn ro rd st) := hD
  exact W.vret hx hb hr9 (fun t ht hW => ⟨⟨(f_29, P_29), rfl, h, by rw [ht]; exact hP, va_K.moved hW.alike hK, hD⟩, hS.F ht⟩) hS.2.2 d_M_swap_32
def wqM_startRound (nW : Nat) (nE : Nat) (rn : Int32) (rd : Int32) (post : Int32 → Int32 → Prop) : Prop :=
  post (0 : Int32) (rd + (1 : Int32))
set_option maxHeartbeats 4000000 in
set_option maxRecDepth 100000 in
theorem mM_startRound (l : Launch) (dC : Nat → ClassId) (dI : Nat → Nat → Nat) (cA : ClassId) (a0 : Nat) (aR : Nat) (aM : Nat) (aW : Nat) (aP : Nat) (aS : Nat) (aC : Nat) (aO : Nat) (nW : Nat) (nE : Nat) (sz : Nat) (R : Nat → Int32) (f : Nat → Int32) (us : Int32) (P : Nat → Int32) (S : Nat → Int32) (sc : Int32) (li : Int32) (rc : Nat → Int32) (rn : Int32) (ro : Nat → Int32) (rd : Int32) (st : Int32) (post : Int32 → Int32 → Prop) (h : wqM_startRound nW nE rn rd post) : Met l y_M_startRound ws_M_startRound ({ frames := 0, cells := 0, slots := 0, locals := 0 }) (rw_P (dC, dI) vwCl (TSw cA a0 aR aM aW aP aS aC aO nW nE R f us P S sc li rc rn ro rd st) [(cA, .int)] sz [.ref aM]) (va_Qv (fun u : Int32 × Int32 => post u.1 u.2) (rw_B (dC, dI) vwCl [(cA, .int)] (va_A (TSw cA a0 aR aM aW aP aS aC aO nW nE R f us P S sc li rc rn ro rd st) sz) (fun u : Int32 × Int32 => TSw cA a0 aR aM aW aP aS aC aO nW nE R f us P S sc li rc u.1 ro u.2 st)) (va_A (TSw cA a0 aR aM aW aP aS aC aO nW nE R f us P S sc li rc rn ro rd st) sz)) 0 0 (va_A (TSw cA a0 aR aM aW aP aS aC aO nW nE R f us P S sc li rc rn ro rd st) sz) := by
  refine Met.ofW (cc := c_M_startRound) (maxL := 1) (ret := none) (by decide) rfl ?_
  intro p e s m args below meth c s₁ B hml hv
  obtain ⟨rfl, hsz, hP, hK, hD0⟩ := hv
  have hx := B.exec
  have hb := B.bytes
  have hr9 := B.returns
  have hts := atoms_spec (ws := ws_M_startRound) B.pre
  have hw : ∀ w ∈ WB_, w.before _ s = true := fun w h => hts w (List.mem_cons_of_mem _ h)
  have hown : s.vm.findClass R_M = some m.cls := findClass_of_methodNamed B.named
  have hlocks := B.notSynchronized
  subst hsz
  have hD := hD0.self (sz := s.heap.size)
  generalize hAe : va_A (TSw cA a0 aR aM aW aP aS aC aO nW nE R f us P S sc li rc rn ro rd st) s.heap.size = A at hD ⊢
  have hA : ∀ q : Nat, s.heap.size ≤ q → A q := fun q h => by rw [← hAe]; exact Or.inr h
  have hS : va_S A s.heap s.heap [] := va_S.rf
  have hl := lv_entry ([.ref aM]) (n := 1) (Nat.le_of_ble_eq_true rfl)
  rw [lg_entry_eq]
  generalize (lg_sl ([.ref aM]) ++ List.replicate (1 - (lg_sl ([.ref aM])).length) Slot.unset).toArray = ls at hl ⊢
  have hl : lv_has ls 1 [(0, .ref aM)] := hl
  unfold wqM_startRound at h
  refine lv_aload_n hx hb d_M_startRound_0 rfl (lv_at hl 0 rfl) ?_
  refine lv_dup hx hb d_M_startRound_1 rfl ?_
  refine va_get (D := (dC, dI)) (ci := 1) (v := .int rd) (C := R_M) (T := T_M) (N := 11) hx hb hw in_M hown hK hP 2 rfl rfl 9 (by decide) (hw _ wd_77) (fun _ h9 => h9) rfl d_M_startRound_2 ?_
  refine lv_iconst (v := (1 : Int32)) hx hb d_M_startRound_5 (by decide) ?_
  refine lv_iadd hx hb d_M_startRound_6 ?_
  refine va_put (D := (dC, dI)) (ci := 1) (v := .int (rd + (1 : Int32))) (ty := .int) (C := R_M) (T := T_M) (N := 11) hx hb hw in_M ty_M ty_M_ok nm_M hown hK hP hD hS 2 rfl rfl 9 (by decide) (hw _ wd_77) (fun _ h9 => h9) rfl (by decide +kernel) rfl rfl (Nat.le_of_ble_eq_true rfl) d_M_startRound_7 (fun H locs hP hD hS => ?_)
  have hP : va_P (dC, dI) vwCl (TSw cA a0 aR aM aW aP aS aC aO nW nE R f us P S sc li rc rn ro (rd + (1 : Int32)) st) H := hP
  have hD : va_D A (TSw cA a0 aR aM aW aP aS aC aO nW nE R f us P S sc li rc rn ro (rd + (1 : Int32)) st) := hD
  refine lv_aload_n hx hb d_M_startRound_10 rfl (lv_at hl 0 rfl) ?_
  refine lv_iconst (v := (0 : Int32)) hx hb d_M_startRound_11 (by decide) ?_
  refine va_put (D := (dC, dI)) (ci := 1) (v := .int (0 : Int32)) (ty := .int) (C := R_M) (T := T_M) (N := 11) hx hb hw in_M ty_M ty_M_ok nm_M hown hK hP hD hS 2 rfl rfl 7 (by decide) (hw _ wd_75) (fun _ h9 => h9) rfl (by decide +kernel) rfl rfl (Nat.le_of_ble_eq_true rfl) d_M_startRound_12 (fun H locs hP hD hS => ?_)
  have hP : va_P (dC, dI) vwCl (TSw cA a0 aR aM aW aP aS aC aO nW nE R f us P S sc li rc (0 : Int32) ro (rd + (1 : Int32)) st) H := hP
  have hD : va_D A (TSw cA a0 aR aM aW aP aS aC aO nW nE R f us P S sc li rc (0 : Int32) ro (rd + (1 : Int32)) st) := hD
  exact W.vret hx hb hr9 (fun t ht hW => ⟨⟨((0 : Int32), rd + (1 : Int32)), rfl, h, by rw [ht]; exact hP, va_K.moved hW.alike hK, hD⟩, hS.F ht⟩) hS.2.2 d_M_startRound_15
def wqM_reach (nW : Nat) (nE : Nat) (rc : Nat → Int32) (rn : Int32) (ro : Nat → Int32) (rd : Int32) (a1 : Int32) (post : (Nat → Int32) → Int32 → (Nat → Int32) → Prop) : Prop :=
  wqV_isObject a1 (fun r1 => (r1 = 0 → (post rc rn ro)) ∧ (¬ (r1 = 0) → (wqV_toEntry a1 (fun r9 => (r9 < 0 → (post rc rn ro)) ∧ (¬ (r9 < 0) → (((nI nE) ≤ r9 → (post rc rn ro)) ∧ (¬ ((nI nE) ≤ r9) → (vp_in r9 nE ∧ (((ro r9.toNatClampNeg) = rd → (post rc rn ro)) ∧ (¬ ((ro r9.toNatClampNeg) = rd) → (((nI nE) ≤ rn → (post rc rn ro)) ∧ (¬ ((nI nE) ≤ rn) → (vp_in r9 nE ∧ (vp_in rn nE ∧ (post (upd rc rn.toNatClampNeg a1) (rn + (1 : Int32)) (upd ro r9.toNatClampNeg rd))))))))))))))))
set_option maxHeartbeats 4000000 in
set_option maxRecDepth 100000 in
theorem mM_reach (l : Launch) (dC : Nat → ClassId) (dI : Nat → Nat → Nat) (cA : ClassId) (a0 : Nat) (aR : Nat) (aM : Nat) (aW : Nat) (aP : Nat) (aS : Nat) (aC : Nat) (aO : Nat) (nW : Nat) (nE : Nat) (sz : Nat) (R : Nat → Int32) (f : Nat → Int32) (us : Int32) (P : Nat → Int32) (S : Nat → Int32) (sc : Int32) (li : Int32) (rc : Nat → Int32) (rn : Int32) (ro : Nat → Int32) (rd : Int32) (st : Int32) (a1 : Int32) (post : (Nat → Int32) → Int32 → (Nat → Int32) → Prop) (h : wqM_reach nW nE rc rn ro rd a1 post) : Met l y_M_reach ws_M_reach ({ frames := 1, cells := 0, slots := 0, locals := 20 }) (rw_P (dC, dI) vwCl (TSw cA a0 aR aM aW aP aS aC aO nW nE R f us P S sc li rc rn ro rd st) [(cA, .int)] sz [.ref aM, .int a1]) (va_Qv (fun u : (Nat → Int32) × Int32 × (Nat → Int32) => post u.1 u.2.1 u.2.2) (rw_B (dC, dI) vwCl [(cA, .int)] (va_A (TSw cA a0 aR aM aW aP aS aC aO nW nE R f us P S sc li rc rn ro rd st) sz) (fun u : (Nat → Int32) × Int32 × (Nat → Int32) => TSw cA a0 aR aM aW aP aS aC aO nW nE R f us P S sc li u.1 u.2.1 u.2.2 rd st)) (va_A (TSw cA a0 aR aM aW aP aS aC aO nW nE R f us P S sc li rc rn ro rd st) sz)) 0 0 (va_A (TSw cA a0 aR aM aW aP aS aC aO nW nE R f us P S sc li rc rn ro rd st) sz) := by
  refine Met.ofW (cc := c_M_reach) (maxL := 3) (ret := none) (by decide) rfl ?_
  intro p e s m args below meth c s₁ B hml hv
  obtain ⟨rfl, hsz, hP, hK, hD0⟩ := hv
  have hx := B.exec
  have hb := B.bytes
  have hr9 := B.returns
  have hts := atoms_spec (ws := ws_M_reach) B.pre
  have hw : ∀ w ∈ WB_, w.before _ s = true := fun w h => hts w (List.mem_cons_of_mem _ h)
  have hown : s.vm.findClass R_M = some m.cls := findClass_of_methodNamed B.named
  have hlocks := B.notSynchronized
  subst hsz
  have hD := hD0.self (sz := s.heap.size)
  generalize hAe : va_A (TSw cA a0 aR aM aW aP aS aC aO nW nE R f us P S sc li rc rn ro rd st) s.heap.size = A at hD ⊢
  have hA : ∀ q : Nat, s.heap.size ≤ q → A q := fun q h => by rw [← hAe]; exact Or.inr h
  have hS : va_S A s.heap s.heap [] := va_S.rf
  have hl := lv_entry ([.ref aM, .int a1]) (n := 3) (Nat.le_of_ble_eq_true rfl)
  rw [lg_entry_eq]
  generalize (lg_sl ([.ref aM, .int a1]) ++ List.replicate (3 - (lg_sl ([.ref aM, .int a1])).length) Slot.unset).toArray = ls at hl ⊢
  have hl : lv_has ls 3 [(0, .ref aM), (1, .int a1)] := hl
  unfold wqM_reach at h
  refine lv_iload_n hx hb d_M_reach_0 rfl (lv_at hl 1 rfl) ?_
  refine rq_calli (W.runS (As := [.int a1]) (rest := []) ⟨hx, hb, hml, hown, hw⟩ (mV_isObject l a1 _ h) (va_cwS 1 hw g_M_61 rfl rfl rfl (by decide +kernel) ⟨Nat.le_of_ble_eq_true rfl, Nat.le_of_ble_eq_true rfl⟩) preEq rfl rfl hl.1 rfl (lv_room (Nat.le_of_ble_eq_true rfl)) d_M_reach_1 ⟨Nat.le_of_ble_eq_true rfl, Nat.le_of_ble_eq_true rfl⟩) (fun r1 h => ?_)
  refine lv_if_ne (tgt := 8) hx hb d_M_reach_4 (by decide) (fun c_4 => ?_) (fun c_4 => ?_)
  · have h := h.2 c_4
    refine lv_iload_n hx hb d_M_reach_8 rfl (lv_at hl 1 rfl) ?_
    refine rq_calli (W.runS (As := [.int a1]) (rest := []) ⟨hx, hb, hml, hown, hw⟩ (mV_toEntry l a1 _ h) (va_cwS 1 hw g_M_49 rfl rfl rfl (by decide +kernel) ⟨Nat.le_of_ble_eq_true rfl, Nat.le_of_ble_eq_true rfl⟩) preEq rfl rfl hl.1 rfl (lv_room (Nat.le_of_ble_eq_true rfl)) d_M_reach_9 ⟨Nat.le_of_ble_eq_true rfl, Nat.le_of_ble_eq_true rfl⟩) (fun r9 h => ?_)
    refine lv_istore_n (lv' := [(2, .int r9), (0, .ref aM), (1, .int a1)]) hx hb d_M_reach_12 rfl hl (by decide) rfl (fun ls hl => ?_)
    refine lv_iload_n hx hb d_M_reach_13 rfl (lv_at hl 0 rfl) ?_
    refine lv_if_lt (tgt := 81) hx hb d_M_reach_14 (by decide) (fun c_14 => ?_) (fun c_14 => ?_)
    · have h := h.1 c_14
      exact W.vret hx hb hr9 (fun t ht hW => ⟨⟨(rc, rn, ro), rfl, h, by rw [ht]; exact hP, va_K.moved hW.alike hK, hD⟩, hS.F ht⟩) hS.2.2 d_M_reach_81
    · have h := h.2 c_14
      refine lv_iload_n hx hb d_M_reach_17 rfl (lv_at hl 0 rfl) ?_
      refine lv_aload_n hx hb d_M_reach_18 rfl (lv_at hl 1 rfl) ?_
      refine va_get (D := (dC, dI)) (ci := 1) (v := .ref aO) (C := R_M) (T := T_M) (N := 11) hx hb hw in_M hown hK hP 2 rfl rfl 8 (by decide) (hw _ wd_76) (fun _ h9 => h9) rfl d_M_reach_19 ?_
      refine va_alen (v := nI nE) hx hb hK hP 7 0 rfl rfl rfl d_M_reach_22 ?_
      refine lv_icmp_ge (tgt := 81) hx hb d_M_reach_23 (by decide) (fun c_23 => ?_) (fun c_23 => ?_)
      · have h := h.1 c_23
        exact W.vret hx hb hr9 (fun t ht hW => ⟨⟨(rc, rn, ro), rfl, h, by rw [ht]; exact hP, va_K.moved hW.alike hK, hD⟩, hS.F ht⟩) hS.2.2 d_M_reach_81
      · have h := h.2 c_23
        refine lv_aload_n hx hb d_M_reach_26 rfl (lv_at hl 1 rfl) ?_
        refine va_get (D := (dC, dI)) (ci := 1) (v := .ref aO) (C := R_M) (T := T_M) (N := 11) hx hb hw in_M hown hK hP 2 rfl rfl 8 (by decide) (hw _ wd_76) (fun _ h9 => h9) rfl d_M_reach_27 ?_
        refine lv_iload_n hx hb d_M_reach_30 rfl (lv_at hl 0 rfl) ?_
        refine va_iald hx hb hK hP 7 0 rfl rfl h.1 d_M_reach_31 ?_
        have h := h.2
        refine lv_aload_n hx hb d_M_reach_32 rfl (lv_at hl 1 rfl) ?_
        refine va_get (D := (dC, dI)) (ci := 1) (v := .int rd) (C := R_M) (T := T_M) (N := 11) hx hb hw in_M hown hK hP 2 rfl rfl 9 (by decide) (hw _ wd_77) (fun _ h9 => h9) rfl d_M_reach_33 ?_
        refine lv_icmp_eq (tgt := 81) hx hb d_M_reach_36 (by decide) (fun c_36 => ?_) (fun c_36 => ?_)
        · have h := h.1 c_36
          exact W.vret hx hb hr9 (fun t ht hW => ⟨⟨(rc, rn, ro), rfl, h, by rw [ht]; exact hP, va_K.moved hW.alike hK, hD⟩, hS.F ht⟩) hS.2.2 d_M_reach_81
        · have h := h.2 c_36
          refine lv_aload_n hx hb d_M_reach_39 rfl (lv_at hl 1 rfl) ?_
          refine va_get (D := (dC, dI)) (ci := 1) (v := .int rn) (C := R_M) (T := T_M) (N := 11) hx hb hw in_M hown hK hP 2 rfl rfl 7 (by decide) (hw _ wd_75) (fun _ h9 => h9) rfl d_M_reach_40 ?_
          refine lv_aload_n hx hb d_M_reach_43 rfl (lv_at hl 1 rfl) ?_
          refine va_get (D := (dC, dI)) (ci := 1) (v := .ref aC) (C := R_M) (T := T_M) (N := 11) hx hb hw in_M hown hK hP 2 rfl rfl 6 (by decide) (hw _ wd_74) (fun _ h9 => h9) rfl d_M_reach_44 ?_
          refine va_alen (v := nI nE) hx hb hK hP 6 0 rfl rfl rfl d_M_reach_47 ?_
          refine lv_icmp_ge (tgt := 81) hx hb d_M_reach_48 (by decide) (fun c_48 => ?_) (fun c_48 => ?_)
          · have h := h.1 c_48
            exact W.vret hx hb hr9 (fun t ht hW => ⟨⟨(rc, rn, ro), rfl, h, by rw [ht]; exact hP, va_K.moved hW.alike hK, hD⟩, hS.F ht⟩) hS.2.2 d_M_reach_81
          · have h := h.2 c_48
            refine lv_aload_n hx hb d_M_reach_51 rfl (lv_at hl 1 rfl) ?_
            refine va_get (D := (dC, dI)) (ci := 1) (v := .ref aO) (C := R_M) (T := T_M) (N := 11) hx hb hw in_M hown hK hP 2 rfl rfl 8 (by decide) (hw _ wd_76) (fun _ h9 => h9) rfl d_M_reach_52 ?_
            refine lv_iload_n hx hb d_M_reach_55 rfl (lv_at hl 0 rfl) ?_
            refine lv_aload_n hx hb d_M_reach_56 rfl (lv_at hl 1 rfl) ?_
            refine va_get (D := (dC, dI)) (ci := 1) (v := .int rd) (C := R_M) (T := T_M) (N := 11) hx hb hw in_M hown hK hP 2 rfl rfl 9 (by decide) (hw _ wd_77) (fun _ h9 => h9) rfl d_M_reach_57 ?_
            refine va_iast hx hb hK hP hD hS 7 0 rfl rfl h.1 d_M_reach_60 (fun H locs hP hD hS => ?_)
            have hP : va_P (dC, dI) vwCl (TSw cA a0 aR aM aW aP aS aC aO nW nE R f us P S sc li rc rn (upd ro r9.toNatClampNeg rd) rd st) H := hP
            have hD : va_D A (TSw cA a0 aR aM aW aP aS aC aO nW nE R f us P S sc li rc rn (upd ro r9.toNatClampNeg rd) rd st) := hD
            have h := h.2
            refine lv_aload_n hx hb d_M_reach_61 rfl (lv_at hl 1 rfl) ?_
            refine va_get (D := (dC, dI)) (ci := 1) (v := .ref aC) (C := R_M) (T := T_M) (N := 11) hx hb hw in_M hown hK hP 2 rfl rfl 6 (by decide) (hw _ wd_74) (fun _ h9 => h9) rfl d_M_reach_62 ?_
            refine lv_aload_n hx hb d_M_reach_65 rfl (lv_at hl 1 rfl) ?_
            refine va_get (D := (dC, dI)) (ci := 1) (v := .int rn) (C := R_M) (T := T_M) (N := 11) hx hb hw in_M hown hK hP 2 rfl rfl 7 (by decide) (hw _ wd_75) (fun _ h9 => h9) rfl d_M_reach_66 ?_
            refine lv_iload_n hx hb d_M_reach_69 rfl (lv_at hl 2 rfl) ?_
            refine va_iast hx hb hK hP hD hS 6 0 rfl rfl h.1 d_M_reach_70 (fun H locs hP hD hS => ?_)
            have hP : va_P (dC, dI) vwCl (TSw cA a0 aR aM aW aP aS aC aO nW nE R f us P S sc li (upd rc rn.toNatClampNeg a1) rn (upd ro r9.toNatClampNeg rd) rd st) H := hP
            have hD : va_D A (TSw cA a0 aR aM aW aP aS aC aO nW nE R f us P S sc li (upd rc rn.toNatClampNeg a1) rn (upd ro r9.toNatClampNeg rd) rd st) := hD
            have h := h.2
            refine lv_aload_n hx hb d_M_reach_71 rfl (lv_at hl 1 rfl) ?_
            refine lv_dup hx hb d_M_reach_72 rfl ?_
            refine va_get (D := (dC, dI)) (ci := 1) (v := .int rn) (C := R_M) (T := T_M) (N := 11) hx hb hw in_M hown hK hP 2 rfl rfl 7 (by decide) (hw _ wd_75) (fun _ h9 => h9) rfl d_M_reach_73 ?_
            refine lv_iconst (v := (1 : Int32)) hx hb d_M_reach_76 (by decide) ?_
            refine lv_iadd hx hb d_M_reach_77 ?_
            refine va_put (D := (dC, dI)) (ci := 1) (v := .int (rn + (1 : Int32))) (ty := .int) (C := R_M) (T := T_M) (N := 11) hx hb hw in_M ty_M ty_M_ok nm_M hown hK hP hD hS 2 rfl rfl 7 (by decide) (hw _ wd_75) (fun _ h9 => h9) rfl (by decide +kernel) rfl rfl (Nat.le_of_ble_eq_true rfl) d_M_reach_78 (fun H locs hP hD hS => ?_)
            have hP : va_P (dC, dI) vwCl (TSw cA a0 aR aM aW aP aS aC aO nW nE R f us P S sc li (upd rc rn.toNatClampNeg a1) (rn + (1 : Int32)) (upd ro r9.toNatClampNeg rd) rd st) H := hP
            have hD : va_D A (TSw cA a0 aR aM aW aP aS aC aO nW nE R f us P S sc li (upd rc rn.toNatClampNeg a1) (rn + (1 : Int32)) (upd ro r9.toNatClampNeg rd) rd st) := hD
            exact W.vret hx hb hr9 (fun t ht hW => ⟨⟨(upd rc rn.toNatClampNeg a1, rn + (1 : Int32), upd ro r9.toNatClampNeg rd), rfl, h, by rw [ht]; exact hP, va_K.moved hW.alike hK, hD⟩, hS.F ht⟩) hS.2.2 d_M_reach_81
  · have h := h.1 c_4
    exact W.vret hx hb hr9 (fun t ht hW => ⟨⟨(rc, rn, ro), rfl, h, by rw [ht]; exact hP, va_K.moved hW.alike hK, hD⟩, hS.F ht⟩) hS.2.2 d_M_reach_7
def wqM_spread_64 (nW : Nat) (nE : Nat) (f : Nat → Int32) (P : Nat → Int32) (rd : Int32) (y1_64 : Int32) (y2_64 : Int32) (y3_64 : Int32) (post : (Nat → Int32) → Int32 → (Nat → Int32) → Prop) (kx : Int32 → (Nat → Int32) → Int32 → (Nat → Int32) → Prop) : Nat → Int32 → (Nat → Int32) → Int32 → (Nat → Int32) → Prop
  | 0, _, _, _, _ => False
  | n + 1, x4_64, rc_64, rn_64, ro_64 =>
    (y3_64 ≤ x4_64 → (kx x4_64 rc_64 rn_64 ro_64)) ∧ (¬ (y3_64 ≤ x4_64) → (vp_in x4_64 nW ∧ (wqM_reach nW nE rc_64 rn_64 ro_64 rd (f x4_64.toNatClampNeg) (fun rc_78 rn_78 ro_78 => wqM_spread_64 nW nE f P rd y1_64 y2_64 y3_64 post kx n (x4_64 + (1 : Int32)) rc_78 rn_78 ro_78))))
def wqM_spread_2 (nW : Nat) (nE : Nat) (f : Nat → Int32) (P : Nat → Int32) (rd : Int32) (post : (Nat → Int32) → Int32 → (Nat → Int32) → Prop) (kx : Int32 → (Nat → Int32) → Int32 → (Nat → Int32) → Prop) : Nat → Int32 → (Nat → Int32) → Int32 → (Nat → Int32) → Prop
  | 0, _, _, _, _ => False
  | n + 1, x1_2, rc_2, rn_2, ro_2 =>
    ((nI nE) ≤ x1_2 → (kx x1_2 rc_2 rn_2 ro_2)) ∧ (¬ ((nI nE) ≤ x1_2) → ((rn_2 ≤ x1_2 → (kx x1_2 rc_2 rn_2 ro_2)) ∧ (¬ (rn_2 ≤ x1_2) → (vp_in x1_2 nE ∧ (wqM_place nW nE P (rc_2 x1_2.toNatClampNeg) (fun r26 => wqM_word nW nE f (r26 + (2 : Int32)) (fun r35 => wqM_reach nW nE rc_2 rn_2 ro_2 rd r35 (fun rc_38 rn_38 ro_38 => wqM_endOfSlots nW nE f r26 (fun r43 => ∃ k_64, wqM_spread_64 nW nE f P rd x1_2 r26 (if (nI nW) < r43 then (nI nW) else r43) post (fun z4_64 rce_64 rne_64 roe_64 => wqM_spread_2 nW nE f P rd post kx n (x1_2 + (1 : Int32)) rce_64 rne_64 roe_64) k_64 (if (0 : Int32) < (r26 + (4 : Int32)) then (r26 + (4 : Int32)) else (0 : Int32)) rc_38 rn_38 ro_38)))))))))
def wqM_spread (nW : Nat) (nE : Nat) (f : Nat → Int32) (P : Nat → Int32) (rc : Nat → Int32) (rn : Int32) (ro : Nat → Int32) (rd : Int32) (post : (Nat → Int32) → Int32 → (Nat → Int32) → Prop) : Prop :=
  ∃ k_2, wqM_spread_2 nW nE f P rd post (fun z1_2 rce_2 rne_2 roe_2 => post rce_2 rne_2 roe_2) k_2 (0 : Int32) rc rn ro
set_option maxHeartbeats 4000000 in
set_option maxRecDepth 100000 in
theorem mM_spread (l : Launch) (dC : Nat → ClassId) (dI : Nat → Nat → Nat) (cA : ClassId) (a0 : Nat) (aR : Nat) (aM : Nat) (aW : Nat) (aP : Nat) (aS : Nat) (aC : Nat) (aO : Nat) (nW : Nat) (nE : Nat) (sz : Nat) (R : Nat → Int32) (f : Nat → Int32) (us : Int32) (P : Nat → Int32) (S : Nat → Int32) (sc : Int32) (li : Int32) (rc : Nat → Int32) (rn : Int32) (ro : Nat → Int32) (rd : Int32) (st : Int32) (post : (Nat → Int32) → Int32 → (Nat → Int32) → Prop) (h : wqM_spread nW nE f P rc rn ro rd post) : Met l y_M_spread ws_M_spread ({ frames := 3, cells := 0, slots := 0, locals := 63 }) (rw_P (dC, dI) vwCl (TSw cA a0 aR aM aW aP aS aC aO nW nE R f us P S sc li rc rn ro rd st) [(cA, .int)] sz [.ref aM]) (va_Qv (fun u : (Nat → Int32) × Int32 × (Nat → Int32) => post u.1 u.2.1 u.2.2) (rw_B (dC, dI) vwCl [(cA, .int)] (va_A (TSw cA a0 aR aM aW aP aS aC aO nW nE R f us P S sc li rc rn ro rd st) sz) (fun u : (Nat → Int32) × Int32 × (Nat → Int32) => TSw cA a0 aR aM aW aP aS aC aO nW nE R f us P S sc li u.1 u.2.1 u.2.2 rd st)) (va_A (TSw cA a0 aR aM aW aP aS aC aO nW nE R f us P S sc li rc rn ro rd st) sz)) 0 0 (va_A (TSw cA a0 aR aM aW aP aS aC aO nW nE R f us P S sc li rc rn ro rd st) sz) := by
  refine Met.ofW (cc := c_M_spread) (maxL := 5) (ret := none) (by decide) rfl ?_
  intro p e s m args below meth c s₁ B hml hv
  obtain ⟨rfl, hsz, hP, hK, hD0⟩ := hv
  have hx := B.exec
  have hb := B.bytes
  have hr9 := B.returns
  have hts := atoms_spec (ws := ws_M_spread) B.pre
  have hw : ∀ w ∈ WB_, w.before _ s = true := fun w h => hts w (List.mem_cons_of_mem _ h)
  have hown : s.vm.findClass R_M = some m.cls := findClass_of_methodNamed B.named
  have hlocks := B.notSynchronized
  subst hsz
  have hD := hD0.self (sz := s.heap.size)
  generalize hAe : va_A (TSw cA a0 aR aM aW aP aS aC aO nW nE R f us P S sc li rc rn ro rd st) s.heap.size = A at hD ⊢
  have hA : ∀ q : Nat, s.heap.size ≤ q → A q := fun q h => by rw [← hAe]; exact Or.inr h
  have hS : va_S A s.heap s.heap [] := va_S.rf
  have hl := lv_entry ([.ref aM]) (n := 5) (Nat.le_of_ble_eq_true rfl)
  rw [lg_entry_eq]
  generalize (lg_sl ([.ref aM]) ++ List.replicate (5 - (lg_sl ([.ref aM])).length) Slot.unset).toArray = ls at hl ⊢
  have hl : lv_has ls 5 [(0, .ref aM)] := hl
  have lp_64 : ∀ (y1_64 : Int32) (y2_64 : Int32) (y3_64 : Int32) (kx : Int32 → (Nat → Int32) → Int32 → (Nat → Int32) → Prop), (∀ (z4_64 : Int32) (rce_64 : Nat → Int32) (rne_64 : Int32) (roe_64 : Nat → Int32) (H : Heap) (locs : List Loc) (ls : Array Slot), va_P (dC, dI) vwCl (TSw cA a0 aR aM aW aP aS aC aO nW nE R f us P S sc li rce_64 rne_64 roe_64 rd st) H → va_D A (TSw cA a0 aR aM aW aP aS aC aO nW nE R f us P S sc li rce_64 rne_64 roe_64 rd st) → va_S A s.heap H locs → lv_has ls 5 [(0, .ref aM), (1, .int y1_64), (2, .int y2_64), (3, .int y3_64), (4, .int z4_64)] → kx z4_64 rce_64 rne_64 roe_64 → W p l e (headSpec ws_M_spread ({ frames := 3, cells := 0, slots := 0, locals := 63 })).room s m ([.ref aM] : List Value).toArray below meth c H locs (0) (0) (MQ below (va_Qv (fun u : (Nat → Int32) × Int32 × (Nat → Int32) => post u.1 u.2.1 u.2.2) (rw_B (dC, dI) vwCl [(cA, .int)] A (fun u : (Nat → Int32) × Int32 × (Nat → Int32) => TSw cA a0 aR aM aW aP aS aC aO nW nE R f us P S sc li u.1 u.2.1 u.2.2 rd st)) A) ([.ref aM] : List Value).toArray s 0 0 A) (F0 m 87 ls [])) → ∀ (n : Nat) (x4_64 : Int32) (rc_64 : Nat → Int32) (rn_64 : Int32) (ro_64 : Nat → Int32) (H : Heap) (locs : List Loc) (ls : Array Slot), va_P (dC, dI) vwCl (TSw cA a0 aR aM aW aP aS aC aO nW nE R f us P S sc li rc_64 rn_64 ro_64 rd st) H → va_D A (TSw cA a0 aR aM aW aP aS aC aO nW nE R f us P S sc li rc_64 rn_64 ro_64 rd st) → va_S A s.heap H locs → lv_has ls 5 [(0, .ref aM), (1, .int y1_64), (2, .int y2_64), (3, .int y3_64), (4, .int x4_64)] → wqM_spread_64 nW nE f P rd y1_64 y2_64 y3_64 post kx n x4_64 rc_64 rn_64 ro_64 → W p l e (headSpec ws_M_spread ({ frames := 3, cells := 0, slots := 0, locals := 63 })).room s m ([.ref aM] : List Value).toArray below meth c H locs (0) (0) (MQ below (va_Qv (fun u : (Nat → Int32) × Int32 × (Nat → Int32) => post u.1 u.2.1 u.2.2) (rw_B (dC, dI) vwCl [(cA, .int)] A (fun u : (Nat → Int32) × Int32 × (Nat → Int32) => TSw cA a0 aR aM aW aP aS aC aO nW nE R f us P S sc li u.1 u.2.1 u.2.2 rd st)) A) ([.ref aM] : List Value).toArray s 0 0 A) (F0 m 64 ls []) := by
    intro y1_64 y2_64 y3_64 kx K n
    induction n with
    | zero => intro x4_64 rc_64 rn_64 ro_64 H locs ls hP hD hS hl h; exact h.elim
    | succ n ih =>
      intro x4_64 rc_64 rn_64 ro_64 H locs ls hP hD hS hl h
      refine lv_iload hx hb d_M_spread_64 (lv_at hl 4 rfl) ?_
      refine lv_iload_n hx hb d_M_spread_66 rfl (lv_at hl 3 rfl) ?_
      refine lv_icmp_ge (tgt := 87) hx hb d_M_spread_67 (by decide) (fun c_67 => ?_) (fun c_67 => ?_)
      · have h := h.1 c_67
        exact K x4_64 rc_64 rn_64 ro_64 H locs ls hP hD hS (lv_sub hl [0, 1, 2, 3, 4] rfl) h
      · have h := h.2 c_67
        refine lv_aload_n hx hb d_M_spread_70 rfl (lv_at hl 0 rfl) ?_
        refine lv_aload_n hx hb d_M_spread_71 rfl (lv_at hl 0 rfl) ?_
        refine va_get (D := (dC, dI)) (ci := 1) (v := .ref aW) (C := R_M) (T := T_M) (N := 11) hx hb hw in_M hown hK hP 2 rfl rfl 0 (by decide) (hw _ wd_68) (fun _ h9 => h9) rfl d_M_spread_72 ?_
        refine lv_iload hx hb d_M_spread_75 (lv_at hl 4 rfl) ?_
        refine va_iald hx hb hK hP 3 0 rfl rfl h.1 d_M_spread_77 ?_
        have h := h.2
        have hFc := va_free (wc := TSw cA a0 aR aM aW aP aS aC aO nW nE R f us P S sc li rc_64 rn_64 ro_64 rd st) hD hS hA [0, 1, 2, 3, 4, 5, 6, 7] rfl
        refine va_callv (va_runV (As := [.int (f x4_64.toNatClampNeg)]) (rest := []) ⟨hx, hb, hml, hown, hw⟩ (mM_reach l dC dI cA a0 aR aM aW aP aS aC aO nW nE H.size R f us P S sc li rc_64 rn_64 ro_64 rd st (f x4_64.toNatClampNeg) _ h) (cwV 1 hw g_M_119 rfl rfl rfl (by decide +kernel) ⟨Nat.le_of_ble_eq_true rfl, Nat.le_of_ble_eq_true rfl⟩) (rw_PV (ci := 1) (q0 := 2) hK hP hD rfl rfl) rfl rfl hl.1 rfl (lv_room (Nat.le_of_ble_eq_true rfl)) d_M_spread_78 ⟨Nat.le_of_ble_eq_true rfl, Nat.le_of_ble_eq_true rfl⟩) hS (fun q _ h => hFc q h) hFc (fun u t H locs ht hvm h hB hz1 hk1 hS => ?_)
        obtain ⟨rc_78, rn_78, ro_78⟩ := u
        obtain ⟨hP, hK1, hD1⟩ := hB
        rw [ht] at hP
        have hD := hD1.weaken (fun _ _ _ q => hFc _ q)
        clear hFc hD1 hK1
        try dsimp only at h
        have hP : va_P (dC, dI) vwCl (TSw cA a0 aR aM aW aP aS aC aO nW nE R f us P S sc li rc_78 rn_78 ro_78 rd st) H := hP
        have hD : va_D A (TSw cA a0 aR aM aW aP aS aC aO nW nE R f us P S sc li rc_78 rn_78 ro_78 rd st) := hD
        refine lv_iinc (v := x4_64 + (1 : Int32)) (lv' := [(4, .int (x4_64 + (1 : Int32))), (0, .ref aM), (1, .int y1_64), (2, .int y2_64), (3, .int y3_64)]) hx hb d_M_spread_81 hl (k := 4) rfl rfl (by decide) rfl (fun ls hl => ?_)
        refine lv_goto (tgt := 64) hx hb d_M_spread_84 (by decide) ?_
        exact ih (x4_64 + (1 : Int32)) rc_78 rn_78 ro_78 H locs ls hP hD hS (lv_sub hl [1, 2, 3, 4, 0] rfl) h
  have lp_2 : ∀ (kx : Int32 → (Nat → Int32) → Int32 → (Nat → Int32) → Prop), (∀ (z1_2 : Int32) (rce_2 : Nat → Int32) (rne_2 : Int32) (roe_2 : Nat → Int32) (H : Heap) (locs : List Loc) (ls : Array Slot), va_P (dC, dI) vwCl (TSw cA a0 aR aM aW aP aS aC aO nW nE R f us P S sc li rce_2 rne_2 roe_2 rd st) H → va_D A (TSw cA a0 aR aM aW aP aS aC aO nW nE R f us P S sc li rce_2 rne_2 roe_2 rd st) → va_S A s.heap H locs → lv_has ls 5 [(0, .ref aM), (1, .int z1_2)] → kx z1_2 rce_2 rne_2 roe_2 → W p l e (headSpec ws_M_spread ({ frames := 3, cells := 0, slots := 0, locals := 63 })).room s m ([.ref aM] : List Value).toArray below meth c H locs (0) (0) (MQ below (va_Qv (fun u : (Nat → Int32) × Int32 × (Nat → Int32) => post u.1 u.2.1 u.2.2) (rw_B (dC, dI) vwCl [(cA, .int)] A (fun u : (Nat → Int32) × Int32 × (Nat → Int32) => TSw cA a0 aR aM aW aP aS aC aO nW nE R f us P S sc li u.1 u.2.1 u.2.2 rd st)) A) ([.ref aM] : List Value).toArray s 0 0 A) (F0 m 93 ls [])) → ∀ (n : Nat) (x1_2 : Int32) (rc_2 : Nat → Int32) (rn_2 : Int32) (ro_2 : Nat → Int32) (H : Heap) (locs : List Loc) (ls : Array Slot), va_P (dC, dI) vwCl (TSw cA a0 aR aM aW aP aS aC aO nW nE R f us P S sc li rc_2 rn_2 ro_2 rd st) H → va_D A (TSw cA a0 aR aM aW aP aS aC aO nW nE R f us P S sc li rc_2 rn_2 ro_2 rd st) → va_S A s.heap H locs → lv_has ls 5 [(0, .ref aM), (1, .int x1_2)] → wqM_spread_2 nW nE f P rd post kx n x1_2 rc_2 rn_2 ro_2 → W p l e (headSpec ws_M_spread ({ frames := 3, cells := 0, slots := 0, locals := 63 })).room s m ([.ref aM] : List Value).toArray below meth c H locs (0) (0) (MQ below (va_Qv (fun u : (Nat → Int32) × Int32 × (Nat → Int32) => post u.1 u.2.1 u.2.2) (rw_B (dC, dI) vwCl [(cA, .int)] A (fun u : (Nat → Int32) × Int32 × (Nat → Int32) => TSw cA a0 aR aM aW aP aS aC aO nW nE R f us P S sc li u.1 u.2.1 u.2.2 rd st)) A) ([.ref aM] : List Value).toArray s 0 0 A) (F0 m 2 ls []) := by
    intro kx K n
    induction n with
    | zero => intro x1_2 rc_2 rn_2 ro_2 H locs ls hP hD hS hl h; exact h.elim
    | succ n ih =>
      intro x1_2 rc_2 rn_2 ro_2 H locs ls hP hD hS hl h
      refine lv_iload_n hx hb d_M_spread_2 rfl (lv_at hl 1 rfl) ?_
      refine lv_aload_n hx hb d_M_spread_3 rfl (lv_at hl 0 rfl) ?_
      refine va_get (D := (dC, dI)) (ci := 1) (v := .ref aC) (C := R_M) (T := T_M) (N := 11) hx hb hw in_M hown hK hP 2 rfl rfl 6 (by decide) (hw _ wd_74) (fun _ h9 => h9) rfl d_M_spread_4 ?_
      refine va_alen (v := nI nE) hx hb hK hP 6 0 rfl rfl rfl d_M_spread_7 ?_
      refine lv_icmp_ge (tgt := 93) hx hb d_M_spread_8 (by decide) (fun c_8 => ?_) (fun c_8 => ?_)
      · have h := h.1 c_8
        exact K x1_2 rc_2 rn_2 ro_2 H locs ls hP hD hS (lv_sub hl [0, 1] rfl) h
      · have h := h.2 c_8
        refine lv_iload_n hx hb d_M_spread_11 rfl (lv_at hl 1 rfl) ?_
        refine lv_aload_n hx hb d_M_spread_12 rfl (lv_at hl 0 rfl) ?_
        refine va_get (D := (dC, dI)) (ci := 1) (v := .int rn_2) (C := R_M) (T := T_M) (N := 11) hx hb hw in_M hown hK hP 2 rfl rfl 7 (by decide) (hw _ wd_75) (fun _ h9 => h9) rfl d_M_spread_13 ?_
        refine lv_icmp_ge (tgt := 93) hx hb d_M_spread_16 (by decide) (fun c_16 => ?_) (fun c_16 => ?_)
        · have h := h.1 c_16
          exact K x1_2 rc_2 rn_2 ro_2 H locs ls hP hD hS (lv_sub hl [0, 1] rfl) h
        · have h := h.2 c_16
          refine lv_aload_n hx hb d_M_spread_19 rfl (lv_at hl 0 rfl) ?_
          refine lv_aload_n hx hb d_M_spread_20 rfl (lv_at hl 0 rfl) ?_
          refine va_get (D := (dC, dI)) (ci := 1) (v := .ref aC) (C := R_M) (T := T_M) (N := 11) hx hb hw in_M hown hK hP 2 rfl rfl 6 (by decide) (hw _ wd_74) (fun _ h9 => h9) rfl d_M_spread_21 ?_
          refine lv_iload_n hx hb d_M_spread_24 rfl (lv_at hl 1 rfl) ?_
          refine va_iald hx hb hK hP 6 0 rfl rfl h.1 d_M_spread_25 ?_
          have h := h.2
          refine rq_calli (W.runV (As := [.int (rc_2 x1_2.toNatClampNeg)]) (rest := []) ⟨hx, hb, hml, hown, hw⟩ (mM_place l dC dI cA a0 aR aM aW aP aS aC aO nW nE R f us P S sc li rc_2 rn_2 ro_2 rd st (rc_2 x1_2.toNatClampNeg) _ h) (cwV 1 hw g_M_55 rfl rfl rfl (by decide +kernel) ⟨Nat.le_of_ble_eq_true rfl, Nat.le_of_ble_eq_true rfl⟩) (ro_PV (ci := 1) (q0 := 2) hK hP rfl rfl) rfl rfl hl.1 rfl (lv_room (Nat.le_of_ble_eq_true rfl)) d_M_spread_26 ⟨Nat.le_of_ble_eq_true rfl, Nat.le_of_ble_eq_true rfl⟩) (fun r26 h => ?_)
          refine lv_istore_n (lv' := [(2, .int r26), (0, .ref aM), (1, .int x1_2)]) hx hb d_M_spread_29 rfl hl (by decide) rfl (fun ls hl => ?_)
          refine lv_aload_n hx hb d_M_spread_30 rfl (lv_at hl 1 rfl) ?_
          refine lv_aload_n hx hb d_M_spread_31 rfl (lv_at hl 1 rfl) ?_
          refine lv_iload_n hx hb d_M_spread_32 rfl (lv_at hl 0 rfl) ?_
          refine lv_iconst (v := (2 : Int32)) hx hb d_M_spread_33 (by decide) ?_
          refine lv_iadd hx hb d_M_spread_34 ?_
          refine rq_calli (W.runV (As := [.int (r26 + (2 : Int32))]) (rest := [.ref aM]) ⟨hx, hb, hml, hown, hw⟩ (mM_word l dC dI cA a0 aR aM aW aP aS aC aO nW nE R f us P S sc li rc_2 rn_2 ro_2 rd st (r26 + (2 : Int32)) _ h) (cwV 1 hw g_M_58 rfl rfl rfl (by decide +kernel) ⟨Nat.le_of_ble_eq_true rfl, Nat.le_of_ble_eq_true rfl⟩) (ro_PV (ci := 1) (q0 := 2) hK hP rfl rfl) rfl rfl hl.1 rfl (lv_room (Nat.le_of_ble_eq_true rfl)) d_M_spread_35 ⟨Nat.le_of_ble_eq_true rfl, Nat.le_of_ble_eq_true rfl⟩) (fun r35 h => ?_)
          have hFc := va_free (wc := TSw cA a0 aR aM aW aP aS aC aO nW nE R f us P S sc li rc_2 rn_2 ro_2 rd st) hD hS hA [0, 1, 2, 3, 4, 5, 6, 7] rfl
          refine va_callv (va_runV (As := [.int r35]) (rest := []) ⟨hx, hb, hml, hown, hw⟩ (mM_reach l dC dI cA a0 aR aM aW aP aS aC aO nW nE H.size R f us P S sc li rc_2 rn_2 ro_2 rd st r35 _ h) (cwV 1 hw g_M_119 rfl rfl rfl (by decide +kernel) ⟨Nat.le_of_ble_eq_true rfl, Nat.le_of_ble_eq_true rfl⟩) (rw_PV (ci := 1) (q0 := 2) hK hP hD rfl rfl) rfl rfl hl.1 rfl (lv_room (Nat.le_of_ble_eq_true rfl)) d_M_spread_38 ⟨Nat.le_of_ble_eq_true rfl, Nat.le_of_ble_eq_true rfl⟩) hS (fun q _ h => hFc q h) hFc (fun u t H locs ht hvm h hB hz1 hk1 hS => ?_)
          obtain ⟨rc_38, rn_38, ro_38⟩ := u
          obtain ⟨hP, hK1, hD1⟩ := hB
          rw [ht] at hP
          have hD := hD1.weaken (fun _ _ _ q => hFc _ q)
          clear hFc hD1 hK1
          try dsimp only at h
          have hP : va_P (dC, dI) vwCl (TSw cA a0 aR aM aW aP aS aC aO nW nE R f us P S sc li rc_38 rn_38 ro_38 rd st) H := hP
          have hD : va_D A (TSw cA a0 aR aM aW aP aS aC aO nW nE R f us P S sc li rc_38 rn_38 ro_38 rd st) := hD
          refine lv_aload_n hx hb d_M_spread_41 rfl (lv_at hl 1 rfl) ?_
          refine lv_iload_n hx hb d_M_spread_42 rfl (lv_at hl 0 rfl) ?_
          refine rq_calli (W.runV (As := [.int r26]) (rest := []) ⟨hx, hb, hml, hown, hw⟩ (mM_endOfSlots l dC dI cA a0 aR aM aW aP aS aC aO nW nE R f us P S sc li rc_38 rn_38 ro_38 rd st r26 _ h) (cwV 1 hw g_M_137 rfl rfl rfl (by decide +kernel) ⟨Nat.le_of_ble_eq_true rfl, Nat.le_of_ble_eq_true rfl⟩) (ro_PV (ci := 1) (q0 := 2) hK hP rfl rfl) rfl rfl hl.1 rfl (lv_room (Nat.le_of_ble_eq_true rfl)) d_M_spread_43 ⟨Nat.le_of_ble_eq_true rfl, Nat.le_of_ble_eq_true rfl⟩) (fun r43 h => ?_)
          refine lv_aload_n hx hb d_M_spread_46 rfl (lv_at hl 1 rfl) ?_
          refine va_get (D := (dC, dI)) (ci := 1) (v := .ref aW) (C := R_M) (T := T_M) (N := 11) hx hb hw in_M hown hK hP 2 rfl rfl 0 (by decide) (hw _ wd_68) (fun _ h9 => h9) rfl d_M_spread_47 ?_
          refine va_alen (v := nI nW) hx hb hK hP 3 0 rfl rfl rfl d_M_spread_50 ?_
          refine va_mmin hx hb (hml.trans hl.1.symm) hown (hw _ wd_154) (hw _ wd_155) (hw _ wd_46) (hw _ wd_156) (Nat.le_of_ble_eq_true rfl) (Nat.le_of_ble_eq_true rfl) (Nat.le_of_ble_eq_true rfl) (Nat.le_of_ble_eq_true rfl) d_M_spread_51 ?_
          refine lv_istore_n (lv' := [(3, .int (if (nI nW) < r43 then (nI nW) else r43)), (2, .int r26), (0, .ref aM), (1, .int x1_2)]) hx hb d_M_spread_54 rfl hl (by decide) rfl (fun ls hl => ?_)
          refine lv_iconst (v := (0 : Int32)) hx hb d_M_spread_55 (by decide) ?_
          refine lv_iload_n hx hb d_M_spread_56 rfl (lv_at hl 1 rfl) ?_
          refine lv_iconst (v := (4 : Int32)) hx hb d_M_spread_57 (by decide) ?_
          refine lv_iadd hx hb d_M_spread_58 ?_
          refine va_mmax hx hb (hml.trans hl.1.symm) hown (hw _ wd_157) (hw _ wd_158) (hw _ wd_46) (hw _ wd_159) (Nat.le_of_ble_eq_true rfl) (Nat.le_of_ble_eq_true rfl) (Nat.le_of_ble_eq_true rfl) (Nat.le_of_ble_eq_true rfl) d_M_spread_59 ?_
          refine lv_istore (lv' := [(4, .int (if (0 : Int32) < (r26 + (4 : Int32)) then (r26 + (4 : Int32)) else (0 : Int32))), (3, .int (if (nI nW) < r43 then (nI nW) else r43)), (2, .int r26), (0, .ref aM), (1, .int x1_2)]) hx hb d_M_spread_62 hl (by decide) rfl (fun ls hl => ?_)
          obtain ⟨n_64, h⟩ := h
          refine lp_64 x1_2 r26 (if (nI nW) < r43 then (nI nW) else r43) _ (fun z4_64 rce_64 rne_64 roe_64 H locs ls hP hD hS hl h => ?_) n_64 (if (0 : Int32) < (r26 + (4 : Int32)) then (r26 + (4 : Int32)) else (0 : Int32)) rc_38 rn_38 ro_38 H locs ls hP hD hS (lv_sub hl [3, 4, 2, 1, 0] rfl) h
          refine lv_iinc (v := x1_2 + (1 : Int32)) (lv' := [(1, .int (x1_2 + (1 : Int32))), (0, .ref aM), (2, .int r26), (3, .int (if (nI nW) < r43 then (nI nW) else r43)), (4, .int z4_64)]) hx hb d_M_spread_87 hl (k := 1) rfl rfl (by decide) rfl (fun ls hl => ?_)
          refine lv_goto (tgt := 2) hx hb d_M_spread_90 (by decide) ?_
          exact ih (x1_2 + (1 : Int32)) rce_64 rne_64 roe_64 H locs ls hP hD hS (lv_sub hl [1, 0] rfl) h
  unfold wqM_spread at h
  refine lv_iconst (v := (0 : Int32)) hx hb d_M_spread_0 (by decide) ?_
  refine lv_istore_n (lv' := [(1, .int (0 : Int32)), (0, .ref aM)]) hx hb d_M_spread_1 rfl hl (by decide) rfl (fun ls hl => ?_)
  obtain ⟨n_2, h⟩ := h
  refine lp_2 _ (fun z1_2 rce_2 rne_2 roe_2 H locs ls hP hD hS hl h => ?_) n_2 (0 : Int32) rc rn ro s.heap [] ls hP hD hS (lv_sub hl [1, 0] rfl) h
  exact W.vret hx hb hr9 (fun t ht hW => ⟨⟨(rce_2, rne_2, roe_2), rfl, h, by rw [ht]; exact hP, va_K.moved hW.alike hK, hD⟩, hS.F ht⟩) hS.2.2 d_M_spread_93
def wqM_slide_12 (nW : Nat) (nE : Nat) (ro : Nat → Int32) (rd : Int32) (y1_12 : Int32) (post : (Nat → Int32) → Int32 → (Nat → Int32) → (Nat → Int32) → Int32 → Prop) (kx : Int32 → (Nat → Int32) → Int32 → (Nat → Int32) → (Nat → Int32) → Int32 → Prop) : Nat → Int32 → (Nat → Int32) → Int32 → (Nat → Int32) → (Nat → Int32) → Int32 → Prop
  | 0, _, _, _, _, _, _ => False
  | n + 1, x3_12, f_12, us_12, P_12, S_12, sc_12 =>
    (y1_12 ≤ x3_12 → (kx x3_12 f_12 us_12 P_12 S_12 sc_12)) ∧ (¬ (y1_12 ≤ x3_12) → (wqM_bodyWordsAt nW nE f_12 x3_12 (fun r19 => wqM_word nW nE f_12 (x3_12 + (0 : Int32)) (fun r27 => wqM_isReached nW nE ro rd r27 (fun r35 => (r35 = 0 → (wqM_giveBackEntry nW nE S_12 sc_12 r27 (fun S_81 sc_81 => wqM_slide_12 nW nE ro rd y1_12 post kx n (x3_12 + ((4 : Int32) + r19)) f_12 us_12 P_12 S_81 sc_81))) ∧ (¬ (r35 = 0) → (wqM_copyWords nW nE f_12 x3_12 us_12 ((4 : Int32) + r19) (fun f_50 => wqM_seat nW nE f_50 P_12 r27 us_12 (fun f_60 P_60 => wqM_slide_12 nW nE ro rd y1_12 post kx n (x3_12 + ((4 : Int32) + r19)) f_60 (us_12 + ((4 : Int32) + r19)) P_60 S_12 sc_12)))))))))
def wqM_slide (nW : Nat) (nE : Nat) (f : Nat → Int32) (us : Int32) (P : Nat → Int32) (S : Nat → Int32) (sc : Int32) (ro : Nat → Int32) (rd : Int32) (post : (Nat → Int32) → Int32 → (Nat → Int32) → (Nat → Int32) → Int32 → Prop) : Prop :=
  ∃ k_12, wqM_slide_12 nW nE ro rd us post (fun z3_12 fe_12 use_12 Pe_12 Se_12 sce_12 => post fe_12 use_12 Pe_12 Se_12 sce_12) k_12 (0 : Int32) f (0 : Int32) P S sc
set_option maxHeartbeats 4000000 in
set_option maxRecDepth 100000 in
theorem mM_slide (l : Launch) (dC : Nat → ClassId) (dI : Nat → Nat → Nat) (cA : ClassId) (a0 : Nat) (aR : Nat) (aM : Nat) (aW : Nat) (aP : Nat) (aS : Nat) (aC : Nat) (aO : Nat) (nW : Nat) (nE : Nat) (sz : Nat) (R : Nat → Int32) (f : Nat → Int32) (us : Int32) (P : Nat → Int32) (S : Nat → Int32) (sc : Int32) (li : Int32) (rc : Nat → Int32) (rn : Int32) (ro : Nat → Int32) (rd : Int32) (st : Int32) (post : (Nat → Int32) → Int32 → (Nat → Int32) → (Nat → Int32) → Int32 → Prop) (h : wqM_slide nW nE f us P S sc ro rd post) : Met l y_M_slide ws_M_slide ({ frames := 3, cells := 0, slots := 0, locals := 63 }) (rw_P (dC, dI) vwCl (TSw cA a0 aR aM aW aP aS aC aO nW nE R f us P S sc li rc rn ro rd st) [(cA, .int)] sz [.ref aM]) (va_Qv (fun u : (Nat → Int32) × Int32 × (Nat → Int32) × (Nat → Int32) × Int32 => post u.1 u.2.1 u.2.2.1 u.2.2.2.1 u.2.2.2.2) (rw_B (dC, dI) vwCl [(cA, .int)] (va_A (TSw cA a0 aR aM aW aP aS aC aO nW nE R f us P S sc li rc rn ro rd st) sz) (fun u : (Nat → Int32) × Int32 × (Nat → Int32) × (Nat → Int32) × Int32 => TSw cA a0 aR aM aW aP aS aC aO nW nE R u.1 u.2.1 u.2.2.1 u.2.2.2.1 u.2.2.2.2 li rc rn ro rd st)) (va_A (TSw cA a0 aR aM aW aP aS aC aO nW nE R f us P S sc li rc rn ro rd st) sz)) 0 0 (va_A (TSw cA a0 aR aM aW aP aS aC aO nW nE R f us P S sc li rc rn ro rd st) sz) := by
  refine Met.ofW (cc := c_M_slide) (maxL := 5) (ret := none) (by decide) rfl ?_
  intro p e s m args below meth c s₁ B hml hv
  obtain ⟨rfl, hsz, hP, hK, hD0⟩ := hv
  have hx := B.exec
  have hb := B.bytes
  have hr9 := B.returns
  have hts := atoms_spec (ws := ws_M_slide) B.pre
  have hw : ∀ w ∈ WB_, w.before _ s = true := fun w h => hts w (List.mem_cons_of_mem _ h)
  have hown : s.vm.findClass R_M = some m.cls := findClass_of_methodNamed B.named
  have hlocks := B.notSynchronized
  subst hsz
  have hD := hD0.self (sz := s.heap.size)
  generalize hAe : va_A (TSw cA a0 aR aM aW aP aS aC aO nW nE R f us P S sc li rc rn ro rd st) s.heap.size = A at hD ⊢
  have hA : ∀ q : Nat, s.heap.size ≤ q → A q := fun q h => by rw [← hAe]; exact Or.inr h
  have hS : va_S A s.heap s.heap [] := va_S.rf
  have hl := lv_entry ([.ref aM]) (n := 5) (Nat.le_of_ble_eq_true rfl)
  rw [lg_entry_eq]
  generalize (lg_sl ([.ref aM]) ++ List.replicate (5 - (lg_sl ([.ref aM])).length) Slot.unset).toArray = ls at hl ⊢
  have hl : lv_has ls 5 [(0, .ref aM)] := hl
  have lp_12 : ∀ (y1_12 : Int32) (kx : Int32 → (Nat → Int32) → Int32 → (Nat → Int32) → (Nat → Int32) → Int32 → Prop), (∀ (z3_12 : Int32) (fe_12 : Nat → Int32) (use_12 : Int32) (Pe_12 : Nat → Int32) (Se_12 : Nat → Int32) (sce_12 : Int32) (H : Heap) (locs : List Loc) (ls : Array Slot), va_P (dC, dI) vwCl (TSw cA a0 aR aM aW aP aS aC aO nW nE R fe_12 use_12 Pe_12 Se_12 sce_12 li rc rn ro rd st) H → va_D A (TSw cA a0 aR aM aW aP aS aC aO nW nE R fe_12 use_12 Pe_12 Se_12 sce_12 li rc rn ro rd st) → va_S A s.heap H locs → lv_has ls 5 [(0, .ref aM), (1, .int y1_12), (3, .int z3_12)] → kx z3_12 fe_12 use_12 Pe_12 Se_12 sce_12 → W p l e (headSpec ws_M_slide ({ frames := 3, cells := 0, slots := 0, locals := 63 })).room s m ([.ref aM] : List Value).toArray below meth c H locs (0) (0) (MQ below (va_Qv (fun u : (Nat → Int32) × Int32 × (Nat → Int32) × (Nat → Int32) × Int32 => post u.1 u.2.1 u.2.2.1 u.2.2.2.1 u.2.2.2.2) (rw_B (dC, dI) vwCl [(cA, .int)] A (fun u : (Nat → Int32) × Int32 × (Nat → Int32) × (Nat → Int32) × Int32 => TSw cA a0 aR aM aW aP aS aC aO nW nE R u.1 u.2.1 u.2.2.1 u.2.2.2.1 u.2.2.2.2 li rc rn ro rd st)) A) ([.ref aM] : List Value).toArray s 0 0 A) (F0 m 93 ls [])) → ∀ (n : Nat) (x3_12 : Int32) (f_12 : Nat → Int32) (us_12 : Int32) (P_12 : Nat → Int32) (S_12 : Nat → Int32) (sc_12 : Int32) (H : Heap) (locs : List Loc) (ls : Array Slot), va_P (dC, dI) vwCl (TSw cA a0 aR aM aW aP aS aC aO nW nE R f_12 us_12 P_12 S_12 sc_12 li rc rn ro rd st) H → va_D A (TSw cA a0 aR aM aW aP aS aC aO nW nE R f_12 us_12 P_12 S_12 sc_12 li rc rn ro rd st) → va_S A s.heap H locs → lv_has ls 5 [(0, .ref aM), (1, .int y1_12), (3, .int x3_12)] → wqM_slide_12 nW nE ro rd y1_12 post kx n x3_12 f_12 us_12 P_12 S_12 sc_12 → W p l e (headSpec ws_M_slide ({ frames := 3, cells := 0, slots := 0, locals := 63 })).room s m ([.ref aM] : List Value).toArray below meth c H locs (0) (0) (MQ below (va_Qv (fun u : (Nat → Int32) × Int32 × (Nat → Int32) × (Nat → Int32) × Int32 => post u.1 u.2.1 u.2.2.1 u.2.2.2.1 u.2.2.2.2) (rw_B (dC, dI) vwCl [(cA, .int)] A (fun u : (Nat → Int32) × Int32 × (Nat → Int32) × (Nat → Int32) × Int32 => TSw cA a0 aR aM aW aP aS aC aO nW nE R u.1 u.2.1 u.2.2.1 u.2.2.2.1 u.2.2.2.2 li rc rn ro rd st)) A) ([.ref aM] : List Value).toArray s 0 0 A) (F0 m 12 ls []) := by
    intro y1_12 kx K n
    induction n with
    | zero => intro x3_12 f_12 us_12 P_12 S_12 sc_12 H locs ls hP hD hS hl h; exact h.elim
    | succ n ih =>
      intro x3_12 f_12 us_12 P_12 S_12 sc_12 H locs ls hP hD hS hl h
      refine lv_iload_n hx hb d_M_slide_12 rfl (lv_at hl 2 rfl) ?_
      refine lv_iload_n hx hb d_M_slide_13 rfl (lv_at hl 1 rfl) ?_
      refine lv_icmp_ge (tgt := 93) hx hb d_M_slide_14 (by decide) (fun c_14 => ?_) (fun c_14 => ?_)
      · have h := h.1 c_14
        exact K x3_12 f_12 us_12 P_12 S_12 sc_12 H locs ls hP hD hS (lv_sub hl [0, 1, 2] rfl) h
      · have h := h.2 c_14
        refine lv_aload_n hx hb d_M_slide_17 rfl (lv_at hl 0 rfl) ?_
        refine lv_iload_n hx hb d_M_slide_18 rfl (lv_at hl 2 rfl) ?_
        refine rq_calli (W.runV (As := [.int x3_12]) (rest := []) ⟨hx, hb, hml, hown, hw⟩ (mM_bodyWordsAt l dC dI cA a0 aR aM aW aP aS aC aO nW nE R f_12 us_12 P_12 S_12 sc_12 li rc rn ro rd st x3_12 _ h) (cwV 1 hw g_M_143 rfl rfl rfl (by decide +kernel) ⟨Nat.le_of_ble_eq_true rfl, Nat.le_of_ble_eq_true rfl⟩) (ro_PV (ci := 1) (q0 := 2) hK hP rfl rfl) rfl rfl hl.1 rfl (lv_room (Nat.le_of_ble_eq_true rfl)) d_M_slide_19 ⟨Nat.le_of_ble_eq_true rfl, Nat.le_of_ble_eq_true rfl⟩) (fun r19 h => ?_)
        refine lv_istore_n (lv' := [(2, .int r19), (0, .ref aM), (1, .int y1_12), (3, .int x3_12)]) hx hb d_M_slide_22 rfl hl (by decide) rfl (fun ls hl => ?_)
        refine lv_aload_n hx hb d_M_slide_23 rfl (lv_at hl 1 rfl) ?_
        refine lv_iload_n hx hb d_M_slide_24 rfl (lv_at hl 3 rfl) ?_
        refine lv_iconst (v := (0 : Int32)) hx hb d_M_slide_25 (by decide) ?_
        refine lv_iadd hx hb d_M_slide_26 ?_
        refine rq_calli (W.runV (As := [.int (x3_12 + (0 : Int32))]) (rest := []) ⟨hx, hb, hml, hown, hw⟩ (mM_word l dC dI cA a0 aR aM aW aP aS aC aO nW nE R f_12 us_12 P_12 S_12 sc_12 li rc rn ro rd st (x3_12 + (0 : Int32)) _ h) (cwV 1 hw g_M_58 rfl rfl rfl (by decide +kernel) ⟨Nat.le_of_ble_eq_true rfl, Nat.le_of_ble_eq_true rfl⟩) (ro_PV (ci := 1) (q0 := 2) hK hP rfl rfl) rfl rfl hl.1 rfl (lv_room (Nat.le_of_ble_eq_true rfl)) d_M_slide_27 ⟨Nat.le_of_ble_eq_true rfl, Nat.le_of_ble_eq_true rfl⟩) (fun r27 h => ?_)
        refine lv_istore (lv' := [(4, .int r27), (2, .int r19), (0, .ref aM), (1, .int y1_12), (3, .int x3_12)]) hx hb d_M_slide_30 hl (by decide) rfl (fun ls hl => ?_)
        refine lv_aload_n hx hb d_M_slide_32 rfl (lv_at hl 2 rfl) ?_
        refine lv_iload hx hb d_M_slide_33 (lv_at hl 0 rfl) ?_
        refine rq_calli (W.runV (As := [.int r27]) (rest := []) ⟨hx, hb, hml, hown, hw⟩ (mM_isReached l dC dI cA a0 aR aM aW aP aS aC aO nW nE R f_12 us_12 P_12 S_12 sc_12 li rc rn ro rd st r27 _ h) (cwV 1 hw g_M_128 rfl rfl rfl (by decide +kernel) ⟨Nat.le_of_ble_eq_true rfl, Nat.le_of_ble_eq_true rfl⟩) (ro_PV (ci := 1) (q0 := 2) hK hP rfl rfl) rfl rfl hl.1 rfl (lv_room (Nat.le_of_ble_eq_true rfl)) d_M_slide_35 ⟨Nat.le_of_ble_eq_true rfl, Nat.le_of_ble_eq_true rfl⟩) (fun r35 h => ?_)
        refine lv_if_eq (tgt := 78) hx hb d_M_slide_38 (by decide) (fun c_38 => ?_) (fun c_38 => ?_)
        · have h := h.1 c_38
          refine lv_aload_n hx hb d_M_slide_78 rfl (lv_at hl 2 rfl) ?_
          refine lv_iload hx hb d_M_slide_79 (lv_at hl 0 rfl) ?_
          have hFc := va_free (wc := TSw cA a0 aR aM aW aP aS aC aO nW nE R f_12 us_12 P_12 S_12 sc_12 li rc rn ro rd st) hD hS hA [0, 1, 2, 3, 4, 5, 6, 7] rfl
          refine va_callv (va_runV (As := [.int r27]) (rest := []) ⟨hx, hb, hml, hown, hw⟩ (mM_giveBackEntry l dC dI cA a0 aR aM aW aP aS aC aO nW nE H.size R f_12 us_12 P_12 S_12 sc_12 li rc rn ro rd st r27 _ h) (cwV 1 hw g_M_146 rfl rfl rfl (by decide +kernel) ⟨Nat.le_of_ble_eq_true rfl, Nat.le_of_ble_eq_true rfl⟩) (rw_PV (ci := 1) (q0 := 2) hK hP hD rfl rfl) rfl rfl hl.1 rfl (lv_room (Nat.le_of_ble_eq_true rfl)) d_M_slide_81 ⟨Nat.le_of_ble_eq_true rfl, Nat.le_of_ble_eq_true rfl⟩) hS (fun q _ h => hFc q h) hFc (fun u t H locs ht hvm h hB hz1 hk1 hS => ?_)
          obtain ⟨S_81, sc_81⟩ := u
          obtain ⟨hP, hK1, hD1⟩ := hB
          rw [ht] at hP
          have hD := hD1.weaken (fun _ _ _ q => hFc _ q)
          clear hFc hD1 hK1
          try dsimp only at h
          have hP : va_P (dC, dI) vwCl (TSw cA a0 aR aM aW aP aS aC aO nW nE R f_12 us_12 P_12 S_81 sc_81 li rc rn ro rd st) H := hP
          have hD : va_D A (TSw cA a0 aR aM aW aP aS aC aO nW nE R f_12 us_12 P_12 S_81 sc_81 li rc rn ro rd st) := hD
          refine lv_iload_n hx hb d_M_slide_84 rfl (lv_at hl 4 rfl) ?_
          refine lv_iconst (v := (4 : Int32)) hx hb d_M_slide_85 (by decide) ?_
          refine lv_iload_n hx hb d_M_slide_86 rfl (lv_at hl 1 rfl) ?_
          refine lv_iadd hx hb d_M_slide_87 ?_
          refine lv_iadd hx hb d_M_slide_88 ?_
          refine lv_istore_n (lv' := [(3, .int (x3_12 + ((4 : Int32) + r19))), (4, .int r27), (2, .int r19), (0, .ref aM), (1, .int y1_12)]) hx hb d_M_slide_89 rfl hl (by decide) rfl (fun ls hl => ?_)
          refine lv_goto (tgt := 12) hx hb d_M_slide_90 (by decide) ?_
          exact ih (x3_12 + ((4 : Int32) + r19)) f_12 us_12 P_12 S_81 sc_81 H locs ls hP hD hS (lv_sub hl [3, 4, 0] rfl) h
        · have h := h.2 c_38
          refine lv_aload_n hx hb d_M_slide_41 rfl (lv_at hl 2 rfl) ?_
          refine lv_iload_n hx hb d_M_slide_42 rfl (lv_at hl 4 rfl) ?_
          refine lv_aload_n hx hb d_M_slide_43 rfl (lv_at hl 2 rfl) ?_
          refine va_get (D := (dC, dI)) (ci := 1) (v := .int us_12) (C := R_M) (T := T_M) (N := 11) hx hb hw in_M hown hK hP 2 rfl rfl 1 (by decide) (hw _ wd_69) (fun _ h9 => h9) rfl d_M_slide_44 ?_
          refine lv_iconst (v := (4 : Int32)) hx hb d_M_slide_47 (by decide) ?_
          refine lv_iload_n hx hb d_M_slide_48 rfl (lv_at hl 1 rfl) ?_
          refine lv_iadd hx hb d_M_slide_49 ?_
          have hFc := va_free (wc := TSw cA a0 aR aM aW aP aS aC aO nW nE R f_12 us_12 P_12 S_12 sc_12 li rc rn ro rd st) hD hS hA [0, 1, 2, 3, 4, 5, 6, 7] rfl
          refine va_callv (va_runV (As := [.int x3_12, .int us_12, .int ((4 : Int32) + r19)]) (rest := []) ⟨hx, hb, hml, hown, hw⟩ (mM_copyWords l dC dI cA a0 aR aM aW aP aS aC aO nW nE H.size R f_12 us_12 P_12 S_12 sc_12 li rc rn ro rd st x3_12 us_12 ((4 : Int32) + r19) _ h) (cwV 3 hw g_M_112 rfl rfl rfl (by decide +kernel) ⟨Nat.le_of_ble_eq_true rfl, Nat.le_of_ble_eq_true rfl⟩) (rw_PV (ci := 1) (q0 := 2) hK hP hD rfl rfl) rfl rfl hl.1 rfl (lv_room (Nat.le_of_ble_eq_true rfl)) d_M_slide_50 ⟨Nat.le_of_ble_eq_true rfl, Nat.le_of_ble_eq_true rfl⟩) hS (fun q _ h => hFc q h) hFc (fun u t H locs ht hvm h hB hz1 hk1 hS => ?_)
          obtain ⟨f_50, rfl⟩ : ∃ z, z = u := ⟨_, rfl⟩
          obtain ⟨hP, hK1, hD1⟩ := hB
          rw [ht] at hP
          have hD := hD1.weaken (fun _ _ _ q => hFc _ q)
          clear hFc hD1 hK1
          try dsimp only at h
          have hP : va_P (dC, dI) vwCl (TSw cA a0 aR aM aW aP aS aC aO nW nE R f_50 us_12 P_12 S_12 sc_12 li rc rn ro rd st) H := hP
          have hD : va_D A (TSw cA a0 aR aM aW aP aS aC aO nW nE R f_50 us_12 P_12 S_12 sc_12 li rc rn ro rd st) := hD
          refine lv_aload_n hx hb d_M_slide_53 rfl (lv_at hl 2 rfl) ?_
          refine lv_iload hx hb d_M_slide_54 (lv_at hl 0 rfl) ?_
          refine lv_aload_n hx hb d_M_slide_56 rfl (lv_at hl 2 rfl) ?_
          refine va_get (D := (dC, dI)) (ci := 1) (v := .int us_12) (C := R_M) (T := T_M) (N := 11) hx hb hw in_M hown hK hP 2 rfl rfl 1 (by decide) (hw _ wd_69) (fun _ h9 => h9) rfl d_M_slide_57 ?_
          have hFc := va_free (wc := TSw cA a0 aR aM aW aP aS aC aO nW nE R f_50 us_12 P_12 S_12 sc_12 li rc rn ro rd st) hD hS hA [0, 1, 2, 3, 4, 5, 6, 7] rfl
          refine va_callv (va_runV (As := [.int r27, .int us_12]) (rest := []) ⟨hx, hb, hml, hown, hw⟩ (mM_seat l dC dI cA a0 aR aM aW aP aS aC aO nW nE H.size R f_50 us_12 P_12 S_12 sc_12 li rc rn ro rd st r27 us_12 _ h) (cwV 2 hw g_M_106 rfl rfl rfl (by decide +kernel) ⟨Nat.le_of_ble_eq_true rfl, Nat.le_of_ble_eq_true rfl⟩) (rw_PV (ci := 1) (q0 := 2) hK hP hD rfl rfl) rfl rfl hl.1 rfl (lv_room (Nat.le_of_ble_eq_true rfl)) d_M_slide_60 ⟨Nat.le_of_ble_eq_true rfl, Nat.le_of_ble_eq_true rfl⟩) hS (fun q _ h => hFc q h) hFc (fun u t H locs ht hvm h hB hz1 hk1 hS => ?_)
          obtain ⟨f_60, P_60⟩ := u
          obtain ⟨hP, hK1, hD1⟩ := hB
          rw [ht] at hP
          have hD := hD1.weaken (fun _ _ _ q => hFc _ q)
          clear hFc hD1 hK1
          try dsimp only at h
          have hP : va_P (dC, dI) vwCl (TSw cA a0 aR aM aW aP aS aC aO nW nE R f_60 us_12 P_60 S_12 sc_12 li rc rn ro rd st) H := hP
          have hD : va_D A (TSw cA a0 aR aM aW aP aS aC aO nW nE R f_60 us_12 P_60 S_12 sc_12 li rc rn ro rd st) := hD
          refine lv_aload_n hx hb d_M_slide_63 rfl (lv_at hl 2 rfl) ?_
          refine lv_dup hx hb d_M_slide_64 rfl ?_
          refine va_get (D := (dC, dI)) (ci := 1) (v := .int us_12) (C := R_M) (T := T_M) (N := 11) hx hb hw in_M hown hK hP 2 rfl rfl 1 (by decide) (hw _ wd_69) (fun _ h9 => h9) rfl d_M_slide_65 ?_
          refine lv_iconst (v := (4 : Int32)) hx hb d_M_slide_68 (by decide) ?_
          refine lv_iload_n hx hb d_M_slide_69 rfl (lv_at hl 1 rfl) ?_
          refine lv_iadd hx hb d_M_slide_70 ?_
          refine lv_iadd hx hb d_M_slide_71 ?_
          refine va_put (D := (dC, dI)) (ci := 1) (v := .int (us_12 + ((4 : Int32) + r19))) (ty := .int) (C := R_M) (T := T_M) (N := 11) hx hb hw in_M ty_M ty_M_ok nm_M hown hK hP hD hS 2 rfl rfl 1 (by decide) (hw _ wd_69) (fun _ h9 => h9) rfl (by decide +kernel) rfl rfl (Nat.le_of_ble_eq_true rfl) d_M_slide_72 (fun H locs hP hD hS => ?_)
          have hP : va_P (dC, dI) vwCl (TSw cA a0 aR aM aW aP aS aC aO nW nE R f_60 (us_12 + ((4 : Int32) + r19)) P_60 S_12 sc_12 li rc rn ro rd st) H := hP
          have hD : va_D A (TSw cA a0 aR aM aW aP aS aC aO nW nE R f_60 (us_12 + ((4 : Int32) + r19)) P_60 S_12 sc_12 li rc rn ro rd st) := hD
          refine lv_goto (tgt := 84) hx hb d_M_slide_75 (by decide) ?_
          refine lv_iload_n hx hb d_M_slide_84 rfl (lv_at hl 4 rfl) ?_
          refine lv_iconst (v := (4 : Int32)) hx hb d_M_slide_85 (by decide) ?_
          refine lv_iload_n hx hb d_M_slide_86 rfl (lv_at hl 1 rfl) ?_
          refine lv_iadd hx hb d_M_slide_87 ?_
          refine lv_iadd hx hb d_M_slide_88 ?_
          refine lv_istore_n (lv' := [(3, .int (x3_12 + ((4 : Int32) + r19))), (4, .int r27), (2, .int r19), (0, .ref aM), (1, .int y1_12)]) hx hb d_M_slide_89 rfl hl (by decide) rfl (fun ls hl => ?_)
          refine lv_goto (tgt := 12) hx hb d_M_slide_90 (by decide) ?_
          exact ih (x3_12 + ((4 : Int32) + r19)) f_60 (us_12 + ((4 : Int32) + r19)) P_60 S_12 sc_12 H locs ls hP hD hS (lv_sub hl [3, 4, 0] rfl) h
  unfold wqM_slide at h
  refine lv_aload_n hx hb d_M_slide_0 rfl (lv_at hl 0 rfl) ?_
  refine va_get (D := (dC, dI)) (ci := 1) (v := .int us) (C := R_M) (T := T_M) (N := 11) hx hb hw in_M hown hK hP 2 rfl rfl 1 (by decide) (hw _ wd_69) (fun _ h9 => h9) rfl d_M_slide_1 ?_
  refine lv_istore_n (lv' := [(1, .int us), (0, .ref aM)]) hx hb d_M_slide_4 rfl hl (by decide) rfl (fun ls hl => ?_)
  refine lv_aload_n hx hb d_M_slide_5 rfl (lv_at hl 1 rfl) ?_
  refine lv_iconst (v := (0 : Int32)) hx hb d_M_slide_6 (by decide) ?_
  refine va_put (D := (dC, dI)) (ci := 1) (v := .int (0 : Int32)) (ty := .int) (C := R_M) (T := T_M) (N := 11) hx hb hw in_M ty_M ty_M_ok nm_M hown hK hP hD hS 2 rfl rfl 1 (by decide) (hw _ wd_69) (fun _ h9 => h9) rfl (by decide +kernel) rfl rfl (Nat.le_of_ble_eq_true rfl) d_M_slide_7 (fun H locs hP hD hS => ?_)
  have hP : va_P (dC, dI) vwCl (TSw cA a0 aR aM aW aP aS aC aO nW nE R f (0 : Int32) P S sc li rc rn ro rd st) H := hP
  have hD : va_D A (TSw cA a0 aR aM aW aP aS aC aO nW nE R f (0 : Int32) P S sc li rc rn ro rd st) := hD
  refine lv_iconst (v := (0 : Int32)) hx hb d_M_slide_10 (by decide) ?_
  refine lv_istore_n (lv' := [(3, .int (0 : Int32)), (1, .int us), (0, .ref aM)]) hx hb d_M_slide_11 rfl hl (by decide) rfl (fun ls hl => ?_)
  obtain ⟨n_12, h⟩ := h
  refine lp_12 us _ (fun z3_12 fe_12 use_12 Pe_12 Se_12 sce_12 H locs ls hP hD hS hl h => ?_) n_12 (0 : Int32) f (0 : Int32) P S sc H locs ls hP hD hS (lv_sub hl [2, 1, 0] rfl) h
  exact W.vret hx hb hr9 (fun t ht hW => ⟨⟨(fe_12, use_12, Pe_12, Se_12, sce_12), rfl, h, by rw [ht]; exact hP, va_K.moved hW.alike hK, hD⟩, hS.F ht⟩) hS.2.2 d_M_slide_93
def wqM_settle_20 (nW : Nat) (nE : Nat) (R : Nat → Int32) (y3_20 : Int32) (ff_20 : Nat → Int32) (usf_20 : Int32) (Pf_20 : Nat → Int32) (Sf_20 : Nat → Int32) (scf_20 : Int32) (rdf_20 : Int32) (stf_20 : Int32) (post : (Nat → Int32) → Int32 → (Nat → Int32) → (Nat → Int32) → Int32 → (Nat → Int32) → Int32 → (Nat → Int32) → Int32 → Int32 → Prop) (kx : Int32 → (Nat → Int32) → Int32 → (Nat → Int32) → Prop) : Nat → Int32 → (Nat → Int32) → Int32 → (Nat → Int32) → Prop
  | 0, _, _, _, _ => False
  | n + 1, x4_20, rc_20, rn_20, ro_20 =>
    (y3_20 ≤ x4_20 → (kx x4_20 rc_20 rn_20 ro_20)) ∧ (¬ (y3_20 ≤ x4_20) → (vp_in x4_20 32 ∧ (wqM_reach nW nE rc_20 rn_20 ro_20 rdf_20 (R x4_20.toNatClampNeg) (fun rc_35 rn_35 ro_35 => wqM_settle_20 nW nE R y3_20 ff_20 usf_20 Pf_20 Sf_20 scf_20 rdf_20 stf_20 post kx n (x4_20 + (1 : Int32)) rc_35 rn_35 ro_35))))
def wqM_settle (nW : Nat) (nE : Nat) (R : Nat → Int32) (f : Nat → Int32) (us : Int32) (P : Nat → Int32) (S : Nat → Int32) (sc : Int32) (rc : Nat → Int32) (rn : Int32) (ro : Nat → Int32) (rd : Int32) (st : Int32) (post : (Nat → Int32) → Int32 → (Nat → Int32) → (Nat → Int32) → Int32 → (Nat → Int32) → Int32 → (Nat → Int32) → Int32 → Int32 → Prop) : Prop :=
  (st = 0 → (wqM_startRound nW nE rn rd (fun rn_9 rd_9 => ∃ k_20, wqM_settle_20 nW nE R (nI 32) f us P S sc rd_9 st post (fun z4_20 rce_20 rne_20 roe_20 => wqM_spread nW nE f P rce_20 rne_20 roe_20 rd_9 (fun rc_45 rn_45 ro_45 => wqM_slide nW nE f us P S sc ro_45 rd_9 (fun f_49 us_49 P_49 S_49 sc_49 => post f_49 us_49 P_49 S_49 sc_49 rc_45 rn_45 ro_45 rd_9 (1 : Int32)))) k_20 (0 : Int32) rc rn_9 ro))) ∧ (¬ (st = 0) → (post f us P S sc rc rn ro rd st))
set_option maxHeartbeats 4000000 in
set_option maxRecDepth 100000 in
theorem mM_settle (l : Launch) (dC : Nat → ClassId) (dI : Nat → Nat → Nat) (cA : ClassId) (a0 : Nat) (aR : Nat) (aM : Nat) (aW : Nat) (aP : Nat) (aS : Nat) (aC : Nat) (aO : Nat) (nW : Nat) (nE : Nat) (sz : Nat) (R : Nat → Int32) (f : Nat → Int32) (us : Int32) (P : Nat → Int32) (S : Nat → Int32) (sc : Int32) (li : Int32) (rc : Nat → Int32) (rn : Int32) (ro : Nat → Int32) (rd : Int32) (st : Int32) (post : (Nat → Int32) → Int32 → (Nat → Int32) → (Nat → Int32) → Int32 → (Nat → Int32) → Int32 → (Nat → Int32) → Int32 → Int32 → Prop) (h : wqM_settle nW nE R f us P S sc rc rn ro rd st post) : Met l y_M_settle ws_M_settle ({ frames := 4, cells := 0, slots := 0, locals := 87 }) (rw_P (dC, dI) vwCl (TSw cA a0 aR aM aW aP aS aC aO nW nE R f us P S sc li rc rn ro rd st) [(cA, .int)] sz [.ref aM, .ref aR]) (va_Qv (fun u : (Nat → Int32) × Int32 × (Nat → Int32) × (Nat → Int32) × Int32 × (Nat → Int32) × Int32 × (Nat → Int32) × Int32 × Int32 => post u.1 u.2.1 u.2.2.1 u.2.2.2.1 u.2.2.2.2.1 u.2.2.2.2.2.1 u.2.2.2.2.2.2.1 u.2.2.2.2.2.2.2.1 u.2.2.2.2.2.2.2.2.1 u.2.2.2.2.2.2.2.2.2) (rw_B (dC, dI) vwCl [(cA, .int)] (va_A (TSw cA a0 aR aM aW aP aS aC aO nW nE R f us P S sc li rc rn ro rd st) sz) (fun u : (Nat → Int32) × Int32 × (Nat → Int32) × (Nat → Int32) × Int32 × (Nat → Int32) × Int32 × (Nat → Int32) × Int32 × Int32 => TSw cA a0 aR aM aW aP aS aC aO nW nE R u.1 u.2.1 u.2.2.1 u.2.2.2.1 u.2.2.2.2.1 li u.2.2.2.2.2.1 u.2.2.2.2.2.2.1 u.2.2.2.2.2.2.2.1 u.2.2.2.2.2.2.2.2.1 u.2.2.2.2.2.2.2.2.2)) (va_A (TSw cA a0 aR aM aW aP aS aC aO nW nE R f us P S sc li rc rn ro rd st) sz)) 0 0 (va_A (TSw cA a0 aR aM aW aP aS aC aO nW nE R f us P S sc li rc rn ro rd st) sz) := by
  refine Met.ofW (cc := c_M_settle) (maxL := 6) (ret := none) (by decide) rfl ?_
  intro p e s m args below meth c s₁ B hml hv
  obtain ⟨rfl, hsz, hP, hK, hD0⟩ := hv
  have hx := B.exec
  have hb := B.bytes
  have hr9 := B.returns
  have hts := atoms_spec (ws := ws_M_settle) B.pre
  have hw : ∀ w ∈ WB_, w.before _ s = true := fun w h => hts w (List.mem_cons_of_mem _ h)
  have hown : s.vm.findClass R_M = some m.cls := findClass_of_methodNamed B.named
  have hlocks := B.notSynchronized
  subst hsz
  have hD := hD0.self (sz := s.heap.size)
  generalize hAe : va_A (TSw cA a0 aR aM aW aP aS aC aO nW nE R f us P S sc li rc rn ro rd st) s.heap.size = A at hD ⊢
  have hA : ∀ q : Nat, s.heap.size ≤ q → A q := fun q h => by rw [← hAe]; exact Or.inr h
  have hS : va_S A s.heap s.heap [] := va_S.rf
  have hl := lv_entry ([.ref aM, .ref aR]) (n := 6) (Nat.le_of_ble_eq_true rfl)
  rw [lg_entry_eq]
  generalize (lg_sl ([.ref aM, .ref aR]) ++ List.replicate (6 - (lg_sl ([.ref aM, .ref aR])).length) Slot.unset).toArray = ls at hl ⊢
  have hl : lv_has ls 6 [(0, .ref aM), (1, .ref aR)] := hl
  have lp_20 : ∀ (y3_20 : Int32) (ff_20 : Nat → Int32) (usf_20 : Int32) (Pf_20 : Nat → Int32) (Sf_20 : Nat → Int32) (scf_20 : Int32) (rdf_20 : Int32) (stf_20 : Int32) (kx : Int32 → (Nat → Int32) → Int32 → (Nat → Int32) → Prop), (∀ (z4_20 : Int32) (rce_20 : Nat → Int32) (rne_20 : Int32) (roe_20 : Nat → Int32) (H : Heap) (locs : List Loc) (ls : Array Slot), va_P (dC, dI) vwCl (TSw cA a0 aR aM aW aP aS aC aO nW nE R ff_20 usf_20 Pf_20 Sf_20 scf_20 li rce_20 rne_20 roe_20 rdf_20 stf_20) H → va_D A (TSw cA a0 aR aM aW aP aS aC aO nW nE R ff_20 usf_20 Pf_20 Sf_20 scf_20 li rce_20 rne_20 roe_20 rdf_20 stf_20) → va_S A s.heap H locs → lv_has ls 6 [(0, .ref aM), (1, .ref aR), (2, .ref aR), (3, .int y3_20), (4, .int z4_20)] → kx z4_20 rce_20 rne_20 roe_20 → W p l e (headSpec ws_M_settle ({ frames := 4, cells := 0, slots := 0, locals := 87 })).room s m ([.ref aM, .ref aR] : List Value).toArray below meth c H locs (0) (0) (MQ below (va_Qv (fun u : (Nat → Int32) × Int32 × (Nat → Int32) × (Nat → Int32) × Int32 × (Nat → Int32) × Int32 × (Nat → Int32) × Int32 × Int32 => post u.1 u.2.1 u.2.2.1 u.2.2.2.1 u.2.2.2.2.1 u.2.2.2.2.2.1 u.2.2.2.2.2.2.1 u.2.2.2.2.2.2.2.1 u.2.2.2.2.2.2.2.2.1 u.2.2.2.2.2.2.2.2.2) (rw_B (dC, dI) vwCl [(cA, .int)] A (fun u : (Nat → Int32) × Int32 × (Nat → Int32) × (Nat → Int32) × Int32 × (Nat → Int32) × Int32 × (Nat → Int32) × Int32 × Int32 => TSw cA a0 aR aM aW aP aS aC aO nW nE R u.1 u.2.1 u.2.2.1 u.2.2.2.1 u.2.2.2.2.1 li u.2.2.2.2.2.1 u.2.2.2.2.2.2.1 u.2.2.2.2.2.2.2.1 u.2.2.2.2.2.2.2.2.1 u.2.2.2.2.2.2.2.2.2)) A) ([.ref aM, .ref aR] : List Value).toArray s 0 0 A) (F0 m 44 ls [])) → ∀ (n : Nat) (x4_20 : Int32) (rc_20 : Nat → Int32) (rn_20 : Int32) (ro_20 : Nat → Int32) (H : Heap) (locs : List Loc) (ls : Array Slot), va_P (dC, dI) vwCl (TSw cA a0 aR aM aW aP aS aC aO nW nE R ff_20 usf_20 Pf_20 Sf_20 scf_20 li rc_20 rn_20 ro_20 rdf_20 stf_20) H → va_D A (TSw cA a0 aR aM aW aP aS aC aO nW nE R ff_20 usf_20 Pf_20 Sf_20 scf_20 li rc_20 rn_20 ro_20 rdf_20 stf_20) → va_S A s.heap H locs → lv_has ls 6 [(0, .ref aM), (1, .ref aR), (2, .ref aR), (3, .int y3_20), (4, .int x4_20)] → wqM_settle_20 nW nE R y3_20 ff_20 usf_20 Pf_20 Sf_20 scf_20 rdf_20 stf_20 post kx n x4_20 rc_20 rn_20 ro_20 → W p l e (headSpec ws_M_settle ({ frames := 4, cells := 0, slots := 0, locals := 87 })).room s m ([.ref aM, .ref aR] : List Value).toArray below meth c H locs (0) (0) (MQ below (va_Qv (fun u : (Nat → Int32) × Int32 × (Nat → Int32) × (Nat → Int32) × Int32 × (Nat → Int32) × Int32 × (Nat → Int32) × Int32 × Int32 => post u.1 u.2.1 u.2.2.1 u.2.2.2.1 u.2.2.2.2.1 u.2.2.2.2.2.1 u.2.2.2.2.2.2.1 u.2.2.2.2.2.2.2.1 u.2.2.2.2.2.2.2.2.1 u.2.2.2.2.2.2.2.2.2) (rw_B (dC, dI) vwCl [(cA, .int)] A (fun u : (Nat → Int32) × Int32 × (Nat → Int32) × (Nat → Int32) × Int32 × (Nat → Int32) × Int32 × (Nat → Int32) × Int32 × Int32 => TSw cA a0 aR aM aW aP aS aC aO nW nE R u.1 u.2.1 u.2.2.1 u.2.2.2.1 u.2.2.2.2.1 li u.2.2.2.2.2.1 u.2.2.2.2.2.2.1 u.2.2.2.2.2.2.2.1 u.2.2.2.2.2.2.2.2.1 u.2.2.2.2.2.2.2.2.2)) A) ([.ref aM, .ref aR] : List Value).toArray s 0 0 A) (F0 m 20 ls []) := by
    intro y3_20 ff_20 usf_20 Pf_20 Sf_20 scf_20 rdf_20 stf_20 kx K n
    induction n with
    | zero => intro x4_20 rc_20 rn_20 ro_20 H locs ls hP hD hS hl h; exact h.elim
    | succ n ih =>
      intro x4_20 rc_20 rn_20 ro_20 H locs ls hP hD hS hl h
      refine lv_iload hx hb d_M_settle_20 (lv_at hl 4 rfl) ?_
      refine lv_iload_n hx hb d_M_settle_22 rfl (lv_at hl 3 rfl) ?_
      refine lv_icmp_ge (tgt := 44) hx hb d_M_settle_23 (by decide) (fun c_23 => ?_) (fun c_23 => ?_)
      · have h := h.1 c_23
        exact K x4_20 rc_20 rn_20 ro_20 H locs ls hP hD hS (lv_sub hl [0, 1, 2, 3, 4] rfl) h
      · have h := h.2 c_23
        refine lv_aload_n hx hb d_M_settle_26 rfl (lv_at hl 2 rfl) ?_
        refine lv_iload hx hb d_M_settle_27 (lv_at hl 4 rfl) ?_
        refine va_iald hx hb hK hP 1 0 rfl rfl h.1 d_M_settle_29 ?_
        have h := h.2
        refine lv_istore (lv' := [(5, .int (R x4_20.toNatClampNeg)), (0, .ref aM), (1, .ref aR), (2, .ref aR), (3, .int y3_20), (4, .int x4_20)]) hx hb d_M_settle_30 hl (by decide) rfl (fun ls hl => ?_)
        refine lv_aload_n hx hb d_M_settle_32 rfl (lv_at hl 1 rfl) ?_
        refine lv_iload hx hb d_M_settle_33 (lv_at hl 0 rfl) ?_
        have hFc := va_free (wc := TSw cA a0 aR aM aW aP aS aC aO nW nE R ff_20 usf_20 Pf_20 Sf_20 scf_20 li rc_20 rn_20 ro_20 rdf_20 stf_20) hD hS hA [0, 1, 2, 3, 4, 5, 6, 7] rfl
        refine va_callv (va_runV (As := [.int (R x4_20.toNatClampNeg)]) (rest := []) ⟨hx, hb, hml, hown, hw⟩ (mM_reach l dC dI cA a0 aR aM aW aP aS aC aO nW nE H.size R ff_20 usf_20 Pf_20 Sf_20 scf_20 li rc_20 rn_20 ro_20 rdf_20 stf_20 (R x4_20.toNatClampNeg) _ h) (cwV 1 hw g_M_119 rfl rfl rfl (by decide +kernel) ⟨Nat.le_of_ble_eq_true rfl, Nat.le_of_ble_eq_true rfl⟩) (rw_PV (ci := 1) (q0 := 2) hK hP hD rfl rfl) rfl rfl hl.1 rfl (lv_room (Nat.le_of_ble_eq_true rfl)) d_M_settle_35 ⟨Nat.le_of_ble_eq_true rfl, Nat.le_of_ble_eq_true rfl⟩) hS (fun q _ h => hFc q h) hFc (fun u t H locs ht hvm h hB hz1 hk1 hS => ?_)
        obtain ⟨rc_35, rn_35, ro_35⟩ := u
        obtain ⟨hP, hK1, hD1⟩ := hB
        rw [ht] at hP
        have hD := hD1.weaken (fun _ _ _ q => hFc _ q)
        clear hFc hD1 hK1
        try dsimp only at h
        have hP : va_P (dC, dI) vwCl (TSw cA a0 aR aM aW aP aS aC aO nW nE R ff_20 usf_20 Pf_20 Sf_20 scf_20 li rc_35 rn_35 ro_35 rdf_20 stf_20) H := hP
        have hD : va_D A (TSw cA a0 aR aM aW aP aS aC aO nW nE R ff_20 usf_20 Pf_20 Sf_20 scf_20 li rc_35 rn_35 ro_35 rdf_20 stf_20) := hD
        refine lv_iinc (v := x4_20 + (1 : Int32)) (lv' := [(4, .int (x4_20 + (1 : Int32))), (5, .int (R x4_20.toNatClampNeg)), (0, .ref aM), (1, .ref aR), (2, .ref aR), (3, .int y3_20)]) hx hb d_M_settle_38 hl (k := 5) rfl rfl (by decide) rfl (fun ls hl => ?_)
        refine lv_goto (tgt := 20) hx hb d_M_settle_41 (by decide) ?_
        exact ih (x4_20 + (1 : Int32)) rc_35 rn_35 ro_35 H locs ls hP hD hS (lv_sub hl [2, 3, 4, 5, 0] rfl) h
  unfold wqM_settle at h
  refine lv_aload_n hx hb d_M_settle_0 rfl (lv_at hl 0 rfl) ?_
  refine va_get (D := (dC, dI)) (ci := 1) (v := .int st) (C := R_M) (T := T_M) (N := 11) hx hb hw in_M hown hK hP 2 rfl rfl 10 (by decide) (hw _ wd_78) (fun _ h9 => h9) rfl d_M_settle_1 ?_
  refine lv_if_eq (tgt := 8) hx hb d_M_settle_4 (by decide) (fun c_4 => ?_) (fun c_4 => ?_)
  · have h := h.1 c_4
    refine lv_aload_n hx hb d_M_settle_8 rfl (lv_at hl 0 rfl) ?_
    have hFc := va_free (wc := TSw cA a0 aR aM aW aP aS aC aO nW nE R f us P S sc li rc rn ro rd st) hD hS hA [0, 1, 2, 3, 4, 5, 6, 7] rfl
    refine va_callv (va_runV (As := []) (rest := []) ⟨hx, hb, hml, hown, hw⟩ (mM_startRound l dC dI cA a0 aR aM aW aP aS aC aO nW nE s.heap.size R f us P S sc li rc rn ro rd st _ h) (cwV 0 hw g_M_116 rfl rfl rfl (by decide +kernel) ⟨Nat.le_of_ble_eq_true rfl, Nat.le_of_ble_eq_true rfl⟩) (rw_PV (ci := 1) (q0 := 2) hK hP hD rfl rfl) rfl rfl hl.1 rfl (lv_room (Nat.le_of_ble_eq_true rfl)) d_M_settle_9 ⟨Nat.le_of_ble_eq_true rfl, Nat.le_of_ble_eq_true rfl⟩) hS (fun q _ h => hFc q h) hFc (fun u t H locs ht hvm h hB hz1 hk1 hS => ?_)
    obtain ⟨rn_9, rd_9⟩ := u
    obtain ⟨hP, hK1, hD1⟩ := hB
    rw [ht] at hP
    have hD := hD1.weaken (fun _ _ _ q => hFc _ q)
    clear hFc hD1 hK1
    try dsimp only at h
    have hP : va_P (dC, dI) vwCl (TSw cA a0 aR aM aW aP aS aC aO nW nE R f us P S sc li rc rn_9 ro rd_9 st) H := hP
    have hD : va_D A (TSw cA a0 aR aM aW aP aS aC aO nW nE R f us P S sc li rc rn_9 ro rd_9 st) := hD
    refine lv_aload_n hx hb d_M_settle_12 rfl (lv_at hl 1 rfl) ?_
    refine lv_astore_n (lv' := [(2, .ref aR), (0, .ref aM), (1, .ref aR)]) hx hb d_M_settle_13 rfl hl (by decide) rfl (fun ls hl => ?_)
    refine lv_aload_n hx hb d_M_settle_14 rfl (lv_at hl 0 rfl) ?_
    refine va_alen (v := nI 32) hx hb hK hP 1 0 rfl rfl rfl d_M_settle_15 ?_
    refine lv_istore_n (lv' := [(3, .int (nI 32)), (2, .ref aR), (0, .ref aM), (1, .ref aR)]) hx hb d_M_settle_16 rfl hl (by decide) rfl (fun ls hl => ?_)
    refine lv_iconst (v := (0 : Int32)) hx hb d_M_settle_17 (by decide) ?_
    refine lv_istore (lv' := [(4, .int (0 : Int32)), (3, .int (nI 32)), (2, .ref aR), (0, .ref aM), (1, .ref aR)]) hx hb d_M_settle_18 hl (by decide) rfl (fun ls hl => ?_)
    obtain ⟨n_20, h⟩ := h
    refine lp_20 (nI 32) f us P S sc rd_9 st _ (fun z4_20 rce_20 rne_20 roe_20 H locs ls hP hD hS hl h => ?_) n_20 (0 : Int32) rc rn_9 ro H locs ls hP hD hS (lv_sub hl [3, 4, 2, 1, 0] rfl) h
    refine lv_aload_n hx hb d_M_settle_44 rfl (lv_at hl 0 rfl) ?_
    have hFc := va_free (wc := TSw cA a0 aR aM aW aP aS aC aO nW nE R f us P S sc li rce_20 rne_20 roe_20 rd_9 st) hD hS hA [0, 1, 2, 3, 4, 5, 6, 7] rfl
    refine va_callv (va_runV (As := []) (rest := []) ⟨hx, hb, hml, hown, hw⟩ (mM_spread l dC dI cA a0 aR aM aW aP aS aC aO nW nE H.size R f us P S sc li rce_20 rne_20 roe_20 rd_9 st _ h) (cwV 0 hw g_M_122 rfl rfl rfl (by decide +kernel) ⟨Nat.le_of_ble_eq_true rfl, Nat.le_of_ble_eq_true rfl⟩) (rw_PV (ci := 1) (q0 := 2) hK hP hD rfl rfl) rfl rfl hl.1 rfl (lv_room (Nat.le_of_ble_eq_true rfl)) d_M_settle_45 ⟨Nat.le_of_ble_eq_true rfl, Nat.le_of_ble_eq_true rfl⟩) hS (fun q _ h => hFc q h) hFc (fun u t H locs ht hvm h hB hz1 hk1 hS => ?_)
    obtain ⟨rc_45, rn_45, ro_45⟩ := u
    obtain ⟨hP, hK1, hD1⟩ := hB
    rw [ht] at hP
    have hD := hD1.weaken (fun _ _ _ q => hFc _ q)
    clear hFc hD1 hK1
    try dsimp only at h
    have hP : va_P (dC, dI) vwCl (TSw cA a0 aR aM aW aP aS aC aO nW nE R f us P S sc li rc_45 rn_45 ro_45 rd_9 st) H := hP
    have hD : va_D A (TSw cA a0 aR aM aW aP aS aC aO nW nE R f us P S sc li rc_45 rn_45 ro_45 rd_9 st) := hD
    refine lv_aload_n hx hb d_M_settle_48 rfl (lv_at hl 0 rfl) ?_
    have hFc := va_free (wc := TSw cA a0 aR aM aW aP aS aC aO nW nE R f us P S sc li rc_45 rn_45 ro_45 rd_9 st) hD hS hA [0, 1, 2, 3, 4, 5, 6, 7] rfl
    refine va_callv (va_runV (As := []) (rest := []) ⟨hx, hb, hml, hown, hw⟩ (mM_slide l dC dI cA a0 aR aM aW aP aS aC aO nW nE H.size R f us P S sc li rc_45 rn_45 ro_45 rd_9 st _ h) (cwV 0 hw g_M_125 rfl rfl rfl (by decide +kernel) ⟨Nat.le_of_ble_eq_true rfl, Nat.le_of_ble_eq_true rfl⟩) (rw_PV (ci := 1) (q0 := 2) hK hP hD rfl rfl) rfl rfl hl.1 rfl (lv_room (Nat.le_of_ble_eq_true rfl)) d_M_settle_49 ⟨Nat.le_of_ble_eq_true rfl, Nat.le_of_ble_eq_true rfl⟩) hS (fun q _ h => hFc q h) hFc (fun u t H locs ht hvm h hB hz1 hk1 hS => ?_)
    obtain ⟨f_49, us_49, P_49, S_49, sc_49⟩ := u
    obtain ⟨hP, hK1, hD1⟩ := hB
    rw [ht] at hP
    have hD := hD1.weaken (fun _ _ _ q => hFc _ q)
    clear hFc hD1 hK1
    try dsimp only at h
    have hP : va_P (dC, dI) vwCl (TSw cA a0 aR aM aW aP aS aC aO nW nE R f_49 us_49 P_49 S_49 sc_49 li rc_45 rn_45 ro_45 rd_9 st) H := hP
    have hD : va_D A (TSw cA a0 aR aM aW aP aS aC aO nW nE R f_49 us_49 P_49 S_49 sc_49 li rc_45 rn_45 ro_45 rd_9 st) := hD
    refine lv_aload_n hx hb d_M_settle_52 rfl (lv_at hl 0 rfl) ?_
    refine lv_iconst (v := (1 : Int32)) hx hb d_M_settle_53 (by decide) ?_
    refine va_put (D := (dC, dI)) (ci := 1) (v := .int (1 : Int32)) (ty := .boolean) (C := R_M) (T := T_M) (N := 11) hx hb hw in_M ty_M ty_M_ok nm_M hown hK hP hD hS 2 rfl rfl 10 (by decide) (hw _ wd_78) (fun _ h9 => h9) rfl (by decide +kernel) rfl rfl (Nat.le_of_ble_eq_true rfl) d_M_settle_54 (fun H locs hP hD hS => ?_)
    have hP : va_P (dC, dI) vwCl (TSw cA a0 aR aM aW aP aS aC aO nW nE R f_49 us_49 P_49 S_49 sc_49 li rc_45 rn_45 ro_45 rd_9 (1 : Int32)) H := hP
    have hD : va_D A (TSw cA a0 aR aM aW aP aS aC aO nW nE R f_49 us_49 P_49 S_49 sc_49 li rc_45 rn_45 ro_45 rd_9 (1 : Int32)) := hD
    exact W.vret hx hb hr9 (fun t ht hW => ⟨⟨(f_49, us_49, P_49, S_49, sc_49, rc_45, rn_45, ro_45, rd_9, (1 : Int32)), rfl, h, by rw [ht]; exact hP, va_K.moved hW.alike hK, hD⟩, hS.F ht⟩) hS.2.2 d_M_settle_57
  · have h := h.2 c_4
    exact W.vret hx hb hr9 (fun t ht hW => ⟨⟨(f, us, P, S, sc, rc, rn, ro, rd, st), rfl, h, by rw [ht]; exact hP, va_K.moved hW.alike hK, hD⟩, hS.F ht⟩) hS.2.2 d_M_settle_7
def wqM_leadsTo (nW : Nat) (nE : Nat) (f : Nat → Int32) (P : Nat → Int32) (rc : Nat → Int32) (rn : Int32) (ro : Nat → Int32) (rd : Int32) (a1 : Int32) (a2 : Int32) (post : Int32 → (Nat → Int32) → Int32 → (Nat → Int32) → Int32 → Prop) : Prop :=
  wqM_startRound nW nE rn rd (fun rn_1 rd_1 => wqM_reach nW nE rc rn_1 ro rd_1 a1 (fun rc_6 rn_6 ro_6 => wqM_spread nW nE f P rc_6 rn_6 ro_6 rd_1 (fun rc_10 rn_10 ro_10 => wqV_toEntry a2 (fun r15 => wqM_isReached nW nE ro_10 rd_1 r15 (fun r18 => narrow .boolean (.int r18) = .int r18 ∧ post r18 rc_10 rn_10 ro_10 rd_1)))))
set_option maxHeartbeats 4000000 in
set_option maxRecDepth 100000 in
theorem mM_leadsTo (l : Launch) (dC : Nat → ClassId) (dI : Nat → Nat → Nat) (cA : ClassId) (a0 : Nat) (aR : Nat) (aM : Nat) (aW : Nat) (aP : Nat) (aS : Nat) (aC : Nat) (aO : Nat) (nW : Nat) (nE : Nat) (sz : Nat) (R : Nat → Int32) (f : Nat → Int32) (us : Int32) (P : Nat → Int32) (S : Nat → Int32) (sc : Int32) (li : Int32) (rc : Nat → Int32) (rn : Int32) (ro : Nat → Int32) (rd : Int32) (st : Int32) (a1 : Int32) (a2 : Int32) (post : Int32 → (Nat → Int32) → Int32 → (Nat → Int32) → Int32 → Prop) (h : wqM_leadsTo nW nE f P rc rn ro rd a1 a2 post) : Met l y_M_leadsTo ws_M_leadsTo ({ frames := 4, cells := 0, slots := 0, locals := 87 }) (rw_P (dC, dI) vwCl (TSw cA a0 aR aM aW aP aS aC aO nW nE R f us P S sc li rc rn ro rd st) [(cA, .int)] sz [.ref aM, .int a1, .int a2]) (va_Qi (fun (r : Int32) (u : (Nat → Int32) × Int32 × (Nat → Int32) × Int32) => post r u.1 u.2.1 u.2.2.1 u.2.2.2) (rw_B (dC, dI) vwCl [(cA, .int)] (va_A (TSw cA a0 aR aM aW aP aS aC aO nW nE R f us P S sc li rc rn ro rd st) sz) (fun u : (Nat → Int32) × Int32 × (Nat → Int32) × Int32 => TSw cA a0 aR aM aW aP aS aC aO nW nE R f us P S sc li u.1 u.2.1 u.2.2.1 u.2.2.2 st)) (va_A (TSw cA a0 aR aM aW aP aS aC aO nW nE R f us P S sc li rc rn ro rd st) sz)) 0 0 (va_A (TSw cA a0 aR aM aW aP aS aC aO nW nE R f us P S sc li rc rn ro rd st) sz) := by
  refine Met.ofW (cc := c_M_leadsTo) (maxL := 3) (ret := (some .boolean)) (by decide) rfl ?_
  intro p e s m args below meth c s₁ B hml hv
  obtain ⟨rfl, hsz, hP, hK, hD0⟩ := hv
  have hx := B.exec
  have hb := B.bytes
  have hr9 := B.returns
  have hts := atoms_spec (ws := ws_M_leadsTo) B.pre
  have hw : ∀ w ∈ WB_, w.before _ s = true := fun w h => hts w (List.mem_cons_of_mem _ h)
  have hown : s.vm.findClass R_M = some m.cls := findClass_of_methodNamed B.named
  have hlocks := B.notSynchronized
  subst hsz
  have hD := hD0.self (sz := s.heap.size)
  generalize hAe : va_A (TSw cA a0 aR aM aW aP aS aC aO nW nE R f us P S sc li rc rn ro rd st) s.heap.size = A at hD ⊢
  have hA : ∀ q : Nat, s.heap.size ≤ q → A q := fun q h => by rw [← hAe]; exact Or.inr h
  have hS : va_S A s.heap s.heap [] := va_S.rf
  have hl := lv_entry ([.ref aM, .int a1, .int a2]) (n := 3) (Nat.le_of_ble_eq_true rfl)
  rw [lg_entry_eq]
  generalize (lg_sl ([.ref aM, .int a1, .int a2]) ++ List.replicate (3 - (lg_sl ([.ref aM, .int a1, .int a2])).length) Slot.unset).toArray = ls at hl ⊢
  have hl : lv_has ls 3 [(0, .ref aM), (1, .int a1), (2, .int a2)] := hl
  unfold wqM_leadsTo at h
  refine lv_aload_n hx hb d_M_leadsTo_0 rfl (lv_at hl 0 rfl) ?_
  have hFc := va_free (wc := TSw cA a0 aR aM aW aP aS aC aO nW nE R f us P S sc li rc rn ro rd st) hD hS hA [0, 1, 2, 3, 4, 5, 6, 7] rfl
  refine va_callv (va_runV (As := []) (rest := []) ⟨hx, hb, hml, hown, hw⟩ (mM_startRound l dC dI cA a0 aR aM aW aP aS aC aO nW nE s.heap.size R f us P S sc li rc rn ro rd st _ h) (cwV 0 hw g_M_116 rfl rfl rfl (by decide +kernel) ⟨Nat.le_of_ble_eq_true rfl, Nat.le_of_ble_eq_true rfl⟩) (rw_PV (ci := 1) (q0 := 2) hK hP hD rfl rfl) rfl rfl hl.1 rfl (lv_room (Nat.le_of_ble_eq_true rfl)) d_M_leadsTo_1 ⟨Nat.le_of_ble_eq_true rfl, Nat.le_of_ble_eq_true rfl⟩) hS (fun q _ h => hFc q h) hFc (fun u t H locs ht hvm h hB hz1 hk1 hS => ?_)
  obtain ⟨rn_1, rd_1⟩ := u
  obtain ⟨hP, hK1, hD1⟩ := hB
  rw [ht] at hP
  have hD := hD1.weaken (fun _ _ _ q => hFc _ q)
  clear hFc hD1 hK1
  try dsimp only at h
  have hP : va_P (dC, dI) vwCl (TSw cA a0 aR aM aW aP aS aC aO nW nE R f us P S sc li rc rn_1 ro rd_1 st) H := hP
  have hD : va_D A (TSw cA a0 aR aM aW aP aS aC aO nW nE R f us P S sc li rc rn_1 ro rd_1 st) := hD
  refine lv_aload_n hx hb d_M_leadsTo_4 rfl (lv_at hl 0 rfl) ?_
  refine lv_iload_n hx hb d_M_leadsTo_5 rfl (lv_at hl 1 rfl) ?_
  have hFc := va_free (wc := TSw cA a0 aR aM aW aP aS aC aO nW nE R f us P S sc li rc rn_1 ro rd_1 st) hD hS hA [0, 1, 2, 3, 4, 5, 6, 7] rfl
  refine va_callv (va_runV (As := [.int a1]) (rest := []) ⟨hx, hb, hml, hown, hw⟩ (mM_reach l dC dI cA a0 aR aM aW aP aS aC aO nW nE H.size R f us P S sc li rc rn_1 ro rd_1 st a1 _ h) (cwV 1 hw g_M_119 rfl rfl rfl (by decide +kernel) ⟨Nat.le_of_ble_eq_true rfl, Nat.le_of_ble_eq_true rfl⟩) (rw_PV (ci := 1) (q0 := 2) hK hP hD rfl rfl) rfl rfl hl.1 rfl (lv_room (Nat.le_of_ble_eq_true rfl)) d_M_leadsTo_6 ⟨Nat.le_of_ble_eq_true rfl, Nat.le_of_ble_eq_true rfl⟩) hS (fun q _ h => hFc q h) hFc (fun u t H locs ht hvm h hB hz1 hk1 hS => ?_)
  obtain ⟨rc_6, rn_6, ro_6⟩ := u
  obtain ⟨hP, hK1, hD1⟩ := hB
  rw [ht] at hP
  have hD := hD1.weaken (fun _ _ _ q => hFc _ q)
  clear hFc hD1 hK1
  try dsimp only at h
  have hP : va_P (dC, dI) vwCl (TSw cA a0 aR aM aW aP aS aC aO nW nE R f us P S sc li rc_6 rn_6 ro_6 rd_1 st) H := hP
  have hD : va_D A (TSw cA a0 aR aM aW aP aS aC aO nW nE R f us P S sc li rc_6 rn_6 ro_6 rd_1 st) := hD
  refine lv_aload_n hx hb d_M_leadsTo_9 rfl (lv_at hl 0 rfl) ?_
  have hFc := va_free (wc := TSw cA a0 aR aM aW aP aS aC aO nW nE R f us P S sc li rc_6 rn_6 ro_6 rd_1 st) hD hS hA [0, 1, 2, 3, 4, 5, 6, 7] rfl
  refine va_callv (va_runV (As := []) (rest := []) ⟨hx, hb, hml, hown, hw⟩ (mM_spread l dC dI cA a0 aR aM aW aP aS aC aO nW nE H.size R f us P S sc li rc_6 rn_6 ro_6 rd_1 st _ h) (cwV 0 hw g_M_122 rfl rfl rfl (by decide +kernel) ⟨Nat.le_of_ble_eq_true rfl, Nat.le_of_ble_eq_true rfl⟩) (rw_PV (ci := 1) (q0 := 2) hK hP hD rfl rfl) rfl rfl hl.1 rfl (lv_room (Nat.le_of_ble_eq_true rfl)) d_M_leadsTo_10 ⟨Nat.le_of_ble_eq_true rfl, Nat.le_of_ble_eq_true rfl⟩) hS (fun q _ h => hFc q h) hFc (fun u t H locs ht hvm h hB hz1 hk1 hS => ?_)
  obtain ⟨rc_10, rn_10, ro_10⟩ := u
  obtain ⟨hP, hK1, hD1⟩ := hB
  rw [ht] at hP
  have hD := hD1.weaken (fun _ _ _ q => hFc _ q)
  clear hFc hD1 hK1
  try dsimp only at h
  have hP : va_P (dC, dI) vwCl (TSw cA a0 aR aM aW aP aS aC aO nW nE R f us P S sc li rc_10 rn_10 ro_10 rd_1 st) H := hP
  have hD : va_D A (TSw cA a0 aR aM aW aP aS aC aO nW nE R f us P S sc li rc_10 rn_10 ro_10 rd_1 st) := hD
  refine lv_aload_n hx hb d_M_leadsTo_13 rfl (lv_at hl 0 rfl) ?_
  refine lv_iload_n hx hb d_M_leadsTo_14 rfl (lv_at hl 2 rfl) ?_
  refine rq_calli (W.runS (As := [.int a2]) (rest := [.ref aM]) ⟨hx, hb, hml, hown, hw⟩ (mV_toEntry l a2 _ h) (va_cwS 1 hw g_M_49 rfl rfl rfl (by decide +kernel) ⟨Nat.le_of_ble_eq_true rfl, Nat.le_of_ble_eq_true rfl⟩) preEq rfl rfl hl.1 rfl (lv_room (Nat.le_of_ble_eq_true rfl)) d_M_leadsTo_15 ⟨Nat.le_of_ble_eq_true rfl, Nat.le_of_ble_eq_true rfl⟩) (fun r15 h => ?_)
  refine rq_calli (W.runV (As := [.int r15]) (rest := []) ⟨hx, hb, hml, hown, hw⟩ (mM_isReached l dC dI cA a0 aR aM aW aP aS aC aO nW nE R f us P S sc li rc_10 rn_10 ro_10 rd_1 st r15 _ h) (cwV 1 hw g_M_128 rfl rfl rfl (by decide +kernel) ⟨Nat.le_of_ble_eq_true rfl, Nat.le_of_ble_eq_true rfl⟩) (ro_PV (ci := 1) (q0 := 2) hK hP rfl rfl) rfl rfl hl.1 rfl (lv_room (Nat.le_of_ble_eq_true rfl)) d_M_leadsTo_18 ⟨Nat.le_of_ble_eq_true rfl, Nat.le_of_ble_eq_true rfl⟩) (fun r18 h => ?_)
  exact W.zret (v := r18) (ty := .boolean) hx hb hr9 h.1 (fun t ht hW => ⟨⟨_, (rc_10, rn_10, ro_10, rd_1), rfl, h.2, by rw [ht]; exact hP, va_K.moved hW.alike hK, hD⟩, hS.F ht⟩) hS.2.2 d_M_leadsTo_21
def wqM_build_124 (nW : Nat) (nE : Nat) (R : Nat → Int32) (y1_124 : Int32) (y2_124 : Int32) (y4_124 : Int32) (y5_124 : Int32) (y6_124 : Int32) (y7_124 : Int32) (usf_124 : Int32) (Pf_124 : Nat → Int32) (Sf_124 : Nat → Int32) (scf_124 : Int32) (lif_124 : Int32) (rcf_124 : Nat → Int32) (rnf_124 : Int32) (rof_124 : Nat → Int32) (rdf_124 : Int32) (stf_124 : Int32) (post : Int32 → (Nat → Int32) → Int32 → (Nat → Int32) → (Nat → Int32) → Int32 → Int32 → (Nat → Int32) → Int32 → (Nat → Int32) → Int32 → Int32 → Prop) (kx : Int32 → (Nat → Int32) → Prop) : Nat → Int32 → (Nat → Int32) → Prop
  | 0, _, _ => False
  | n + 1, x8_124, f_124 =>
    (y7_124 ≤ x8_124 → (kx x8_124 f_124)) ∧ (¬ (y7_124 ≤ x8_124) → (vp_in x8_124 nW ∧ (wqM_build_124 nW nE R y1_124 y2_124 y4_124 y5_124 y6_124 y7_124 usf_124 Pf_124 Sf_124 scf_124 lif_124 rcf_124 rnf_124 rof_124 rdf_124 stf_124 post kx n (x8_124 + (1 : Int32)) (upd f_124 x8_124.toNatClampNeg (0 : Int32)))))
def wqM_build_22 (nW : Nat) (nE : Nat) (R : Nat → Int32) (y1_22 : Int32) (y2_22 : Int32) (y4_22 : Int32) (f_22 : Nat → Int32) (us_22 : Int32) (P_22 : Nat → Int32) (S_22 : Nat → Int32) (sc_22 : Int32) (li_22 : Int32) (rc_22 : Nat → Int32) (rn_22 : Int32) (ro_22 : Nat → Int32) (rd_22 : Int32) (st_22 : Int32) (post : Int32 → (Nat → Int32) → Int32 → (Nat → Int32) → (Nat → Int32) → Int32 → Int32 → (Nat → Int32) → Int32 → (Nat → Int32) → Int32 → Int32 → Prop) : Prop :=
  wqM_fits nW nE us_22 sc_22 y4_22 (fun r25 => (r25 = 0 → (post (0 : Int32) f_22 us_22 P_22 S_22 sc_22 li_22 rc_22 rn_22 ro_22 rd_22 st_22)) ∧ (¬ (r25 = 0) → (vp_in (sc_22 - (1 : Int32)) nE ∧ (wqM_seat nW nE f_22 P_22 (S_22 (sc_22 - (1 : Int32)).toNatClampNeg) us_22 (fun f_82 P_82 => vp_in (us_22 + (1 : Int32)) nW ∧ (vp_in (us_22 + (2 : Int32)) nW ∧ (vp_in (us_22 + (3 : Int32)) nW ∧ (∃ k_124, wqM_build_124 nW nE R y1_22 y2_22 y4_22 (S_22 (sc_22 - (1 : Int32)).toNatClampNeg) us_22 (us_22 + y4_22) us_22 P_82 S_22 (sc_22 - (1 : Int32)) (li_22 + (1 : Int32)) rc_22 rn_22 ro_22 rd_22 st_22 post (fun z8_124 fe_124 => wqV_ofEntry (S_22 (sc_22 - (1 : Int32)).toNatClampNeg) (fun r153 => post r153 fe_124 (us_22 + y4_22) P_82 S_22 (sc_22 - (1 : Int32)) (li_22 + (1 : Int32)) rc_22 rn_22 ro_22 rd_22 st_22)) k_124 (us_22 + (4 : Int32)) (upd (upd (upd f_82 (us_22 + (1 : Int32)).toNatClampNeg (li_22 + (1 : Int32))) (us_22 + (2 : Int32)).toNatClampNeg y1_22) (us_22 + (3 : Int32)).toNatClampNeg y2_22)))))))))
def wqM_build (nW : Nat) (nE : Nat) (R : Nat → Int32) (f : Nat → Int32) (us : Int32) (P : Nat → Int32) (S : Nat → Int32) (sc : Int32) (li : Int32) (rc : Nat → Int32) (rn : Int32) (ro : Nat → Int32) (rd : Int32) (st : Int32) (a1 : Int32) (a2 : Int32) (post : Int32 → (Nat → Int32) → Int32 → (Nat → Int32) → (Nat → Int32) → Int32 → Int32 → (Nat → Int32) → Int32 → (Nat → Int32) → Int32 → Int32 → Prop) : Prop :=
  wqM_bodyWords a2 (fun r2 => wqM_fits nW nE us sc ((4 : Int32) + r2) (fun r11 => (r11 = 0 → (wqM_settle nW nE R f us P S sc rc rn ro rd st (fun f_19 us_19 P_19 S_19 sc_19 rc_19 rn_19 ro_19 rd_19 st_19 => wqM_build_22 nW nE R a1 a2 ((4 : Int32) + r2) f_19 us_19 P_19 S_19 sc_19 li rc_19 rn_19 ro_19 rd_19 st_19 post))) ∧ (¬ (r11 = 0) → (wqM_build_22 nW nE R a1 a2 ((4 : Int32) + r2) f us P S sc li rc rn ro rd st post))))
set_option maxHeartbeats 4000000 in
set_option maxRecDepth 100000 in
theorem mM_build (l : Launch) (dC : Nat → ClassId) (dI : Nat → Nat → Nat) (cA : ClassId) (a0 : Nat) (aR : Nat) (aM : Nat) (aW : Nat) (aP : Nat) (aS : Nat) (aC : Nat) (aO : Nat) (nW : Nat) (nE : Nat) (sz : Nat) (R : Nat → Int32) (f : Nat → Int32) (us : Int32) (P : Nat → Int32) (S : Nat → Int32) (sc : Int32) (li : Int32) (rc : Nat → Int32) (rn : Int32) (ro : Nat → Int32) (rd : Int32) (st : Int32) (a1 : Int32) (a2 : Int32) (post : Int32 → (Nat → Int32) → Int32 → (Nat → Int32) → (Nat → Int32) → Int32 → Int32 → (Nat → Int32) → Int32 → (Nat → Int32) → Int32 → Int32 → Prop) (h : wqM_build nW nE R f us P S sc li rc rn ro rd st a1 a2 post) : Met l y_M_build ws_M_build ({ frames := 5, cells := 0, slots := 0, locals := 112 }) (rw_P (dC, dI) vwCl (TSw cA a0 aR aM aW aP aS aC aO nW nE R f us P S sc li rc rn ro rd st) [(cA, .int)] sz [.ref aM, .int a1, .int a2, .ref aR]) (va_Qi (fun (r : Int32) (u : (Nat → Int32) × Int32 × (Nat → Int32) × (Nat → Int32) × Int32 × Int32 × (Nat → Int32) × Int32 × (Nat → Int32) × Int32 × Int32) => post r u.1 u.2.1 u.2.2.1 u.2.2.2.1 u.2.2.2.2.1 u.2.2.2.2.2.1 u.2.2.2.2.2.2.1 u.2.2.2.2.2.2.2.1 u.2.2.2.2.2.2.2.2.1 u.2.2.2.2.2.2.2.2.2.1 u.2.2.2.2.2.2.2.2.2.2) (rw_B (dC, dI) vwCl [(cA, .int)] (va_A (TSw cA a0 aR aM aW aP aS aC aO nW nE R f us P S sc li rc rn ro rd st) sz) (fun u : (Nat → Int32) × Int32 × (Nat → Int32) × (Nat → Int32) × Int32 × Int32 × (Nat → Int32) × Int32 × (Nat → Int32) × Int32 × Int32 => TSw cA a0 aR aM aW aP aS aC aO nW nE R u.1 u.2.1 u.2.2.1 u.2.2.2.1 u.2.2.2.2.1 u.2.2.2.2.2.1 u.2.2.2.2.2.2.1 u.2.2.2.2.2.2.2.1 u.2.2.2.2.2.2.2.2.1 u.2.2.2.2.2.2.2.2.2.1 u.2.2.2.2.2.2.2.2.2.2)) (va_A (TSw cA a0 aR aM aW aP aS aC aO nW nE R f us P S sc li rc rn ro rd st) sz)) 0 0 (va_A (TSw cA a0 aR aM aW aP aS aC aO nW nE R f us P S sc li rc rn ro rd st) sz) := by
  refine Met.ofW (cc := c_M_build) (maxL := 9) (ret := (some .int)) (by decide) rfl ?_
  intro p e s m args below meth c s₁ B hml hv
  obtain ⟨rfl, hsz, hP, hK, hD0⟩ := hv
  have hx := B.exec
  have hb := B.bytes
  have hr9 := B.returns
  have hts := atoms_spec (ws := ws_M_build) B.pre
  have hw : ∀ w ∈ WB_, w.before _ s = true := fun w h => hts w (List.mem_cons_of_mem _ h)
  have hown : s.vm.findClass R_M = some m.cls := findClass_of_methodNamed B.named
  have hlocks := B.notSynchronized
  subst hsz
  have hD := hD0.self (sz := s.heap.size)
  generalize hAe : va_A (TSw cA a0 aR aM aW aP aS aC aO nW nE R f us P S sc li rc rn ro rd st) s.heap.size = A at hD ⊢
  have hA : ∀ q : Nat, s.heap.size ≤ q → A q := fun q h => by rw [← hAe]; exact Or.inr h
  have hS : va_S A s.heap s.heap [] := va_S.rf
  have hl := lv_entry ([.ref aM, .int a1, .int a2, .ref aR]) (n := 9) (Nat.le_of_ble_eq_true rfl)
  rw [lg_entry_eq]
  generalize (lg_sl ([.ref aM, .int a1, .int a2, .ref aR]) ++ List.replicate (9 - (lg_sl ([.ref aM, .int a1, .int a2, .ref aR])).length) Slot.unset).toArray = ls at hl ⊢
  have hl : lv_has ls 9 [(0, .ref aM), (1, .int a1), (2, .int a2), (3, .ref aR)] := hl
  have lp_124 : ∀ (y1_124 : Int32) (y2_124 : Int32) (y4_124 : Int32) (y5_124 : Int32) (y6_124 : Int32) (y7_124 : Int32) (usf_124 : Int32) (Pf_124 : Nat → Int32) (Sf_124 : Nat → Int32) (scf_124 : Int32) (lif_124 : Int32) (rcf_124 : Nat → Int32) (rnf_124 : Int32) (rof_124 : Nat → Int32) (rdf_124 : Int32) (stf_124 : Int32) (kx : Int32 → (Nat → Int32) → Prop), (∀ (z8_124 : Int32) (fe_124 : Nat → Int32) (H : Heap) (locs : List Loc) (ls : Array Slot), va_P (dC, dI) vwCl (TSw cA a0 aR aM aW aP aS aC aO nW nE R fe_124 usf_124 Pf_124 Sf_124 scf_124 lif_124 rcf_124 rnf_124 rof_124 rdf_124 stf_124) H → va_D A (TSw cA a0 aR aM aW aP aS aC aO nW nE R fe_124 usf_124 Pf_124 Sf_124 scf_124 lif_124 rcf_124 rnf_124 rof_124 rdf_124 stf_124) → va_S A s.heap H locs → lv_has ls 9 [(0, .ref aM), (1, .int y1_124), (2, .int y2_124), (3, .ref aR), (4, .int y4_124), (5, .int y5_124), (6, .int y6_124), (7, .int y7_124), (8, .int z8_124)] → kx z8_124 fe_124 → W p l e (headSpec ws_M_build ({ frames := 5, cells := 0, slots := 0, locals := 112 })).room s m ([.ref aM, .int a1, .int a2, .ref aR] : List Value).toArray below meth c H locs (0) (0) (MQ below (va_Qi (fun (r : Int32) (u : (Nat → Int32) × Int32 × (Nat → Int32) × (Nat → Int32) × Int32 × Int32 × (Nat → Int32) × Int32 × (Nat → Int32) × Int32 × Int32) => post r u.1 u.2.1 u.2.2.1 u.2.2.2.1 u.2.2.2.2.1 u.2.2.2.2.2.1 u.2.2.2.2.2.2.1 u.2.2.2.2.2.2.2.1 u.2.2.2.2.2.2.2.2.1 u.2.2.2.2.2.2.2.2.2.1 u.2.2.2.2.2.2.2.2.2.2) (rw_B (dC, dI) vwCl [(cA, .int)] A (fun u : (Nat → Int32) × Int32 × (Nat → Int32) × (Nat → Int32) × Int32 × Int32 × (Nat → Int32) × Int32 × (Nat → Int32) × Int32 × Int32 => TSw cA a0 aR aM aW aP aS aC aO nW nE R u.1 u.2.1 u.2.2.1 u.2.2.2.1 u.2.2.2.2.1 u.2.2.2.2.2.1 u.2.2.2.2.2.2.1 u.2.2.2.2.2.2.2.1 u.2.2.2.2.2.2.2.2.1 u.2.2.2.2.2.2.2.2.2.1 u.2.2.2.2.2.2.2.2.2.2)) A) ([.ref aM, .int a1, .int a2, .ref aR] : List Value).toArray s 0 0 A) (F0 m 145 ls [])) → ∀ (n : Nat) (x8_124 : Int32) (f_124 : Nat → Int32) (H : Heap) (locs : List Loc) (ls : Array Slot), va_P (dC, dI) vwCl (TSw cA a0 aR aM aW aP aS aC aO nW nE R f_124 usf_124 Pf_124 Sf_124 scf_124 lif_124 rcf_124 rnf_124 rof_124 rdf_124 stf_124) H → va_D A (TSw cA a0 aR aM aW aP aS aC aO nW nE R f_124 usf_124 Pf_124 Sf_124 scf_124 lif_124 rcf_124 rnf_124 rof_124 rdf_124 stf_124) → va_S A s.heap H locs → lv_has ls 9 [(0, .ref aM), (1, .int y1_124), (2, .int y2_124), (3, .ref aR), (4, .int y4_124), (5, .int y5_124), (6, .int y6_124), (7, .int y7_124), (8, .int x8_124)] → wqM_build_124 nW nE R y1_124 y2_124 y4_124 y5_124 y6_124 y7_124 usf_124 Pf_124 Sf_124 scf_124 lif_124 rcf_124 rnf_124 rof_124 rdf_124 stf_124 post kx n x8_124 f_124 → W p l e (headSpec ws_M_build ({ frames := 5, cells := 0, slots := 0, locals := 112 })).room s m ([.ref aM, .int a1, .int a2, .ref aR] : List Value).toArray below meth c H locs (0) (0) (MQ below (va_Qi (fun (r : Int32) (u : (Nat → Int32) × Int32 × (Nat → Int32) × (Nat → Int32) × Int32 × Int32 × (Nat → Int32) × Int32 × (Nat → Int32) × Int32 × Int32) => post r u.1 u.2.1 u.2.2.1 u.2.2.2.1 u.2.2.2.2.1 u.2.2.2.2.2.1 u.2.2.2.2.2.2.1 u.2.2.2.2.2.2.2.1 u.2.2.2.2.2.2.2.2.1 u.2.2.2.2.2.2.2.2.2.1 u.2.2.2.2.2.2.2.2.2.2) (rw_B (dC, dI) vwCl [(cA, .int)] A (fun u : (Nat → Int32) × Int32 × (Nat → Int32) × (Nat → Int32) × Int32 × Int32 × (Nat → Int32) × Int32 × (Nat → Int32) × Int32 × Int32 => TSw cA a0 aR aM aW aP aS aC aO nW nE R u.1 u.2.1 u.2.2.1 u.2.2.2.1 u.2.2.2.2.1 u.2.2.2.2.2.1 u.2.2.2.2.2.2.1 u.2.2.2.2.2.2.2.1 u.2.2.2.2.2.2.2.2.1 u.2.2.2.2.2.2.2.2.2.1 u.2.2.2.2.2.2.2.2.2.2)) A) ([.ref aM, .int a1, .int a2, .ref aR] : List Value).toArray s 0 0 A) (F0 m 124 ls []) := by
    intro y1_124 y2_124 y4_124 y5_124 y6_124 y7_124 usf_124 Pf_124 Sf_124 scf_124 lif_124 rcf_124 rnf_124 rof_124 rdf_124 stf_124 kx K n
    induction n with
    | zero => intro x8_124 f_124 H locs ls hP hD hS hl h; exact h.elim
    | succ n ih =>
      intro x8_124 f_124 H locs ls hP hD hS hl h
      refine lv_iload hx hb d_M_build_124 (lv_at hl 8 rfl) ?_
      refine lv_iload hx hb d_M_build_126 (lv_at hl 7 rfl) ?_
      refine lv_icmp_ge (tgt := 145) hx hb d_M_build_128 (by decide) (fun c_128 => ?_) (fun c_128 => ?_)
      · have h := h.1 c_128
        exact K x8_124 f_124 H locs ls hP hD hS (lv_sub hl [0, 1, 2, 3, 4, 5, 6, 7, 8] rfl) h
      · have h := h.2 c_128
        refine lv_aload_n hx hb d_M_build_131 rfl (lv_at hl 0 rfl) ?_
        refine va_get (D := (dC, dI)) (ci := 1) (v := .ref aW) (C := R_M) (T := T_M) (N := 11) hx hb hw in_M hown hK hP 2 rfl rfl 0 (by decide) (hw _ wd_68) (fun _ h9 => h9) rfl d_M_build_132 ?_
        refine lv_iload hx hb d_M_build_135 (lv_at hl 8 rfl) ?_
        refine lv_iconst (v := (0 : Int32)) hx hb d_M_build_137 (by decide) ?_
        refine va_iast hx hb hK hP hD hS 3 0 rfl rfl h.1 d_M_build_138 (fun H locs hP hD hS => ?_)
        have hP : va_P (dC, dI) vwCl (TSw cA a0 aR aM aW aP aS aC aO nW nE R (upd f_124 x8_124.toNatClampNeg (0 : Int32)) usf_124 Pf_124 Sf_124 scf_124 lif_124 rcf_124 rnf_124 rof_124 rdf_124 stf_124) H := hP
        have hD : va_D A (TSw cA a0 aR aM aW aP aS aC aO nW nE R (upd f_124 x8_124.toNatClampNeg (0 : Int32)) usf_124 Pf_124 Sf_124 scf_124 lif_124 rcf_124 rnf_124 rof_124 rdf_124 stf_124) := hD
        have h := h.2
        refine lv_iinc (v := x8_124 + (1 : Int32)) (lv' := [(8, .int (x8_124 + (1 : Int32))), (0, .ref aM), (1, .int y1_124), (2, .int y2_124), (3, .ref aR), (4, .int y4_124), (5, .int y5_124), (6, .int y6_124), (7, .int y7_124)]) hx hb d_M_build_139 hl (k := 8) rfl rfl (by decide) rfl (fun ls hl => ?_)
        refine lv_goto (tgt := 124) hx hb d_M_build_142 (by decide) ?_
        exact ih (x8_124 + (1 : Int32)) (upd f_124 x8_124.toNatClampNeg (0 : Int32)) H locs ls hP hD hS (lv_sub hl [1, 2, 3, 4, 5, 6, 7, 8, 0] rfl) h
  have lp_22 : ∀ (y1_22 : Int32) (y2_22 : Int32) (y4_22 : Int32) (f_22 : Nat → Int32) (us_22 : Int32) (P_22 : Nat → Int32) (S_22 : Nat → Int32) (sc_22 : Int32) (li_22 : Int32) (rc_22 : Nat → Int32) (rn_22 : Int32) (ro_22 : Nat → Int32) (rd_22 : Int32) (st_22 : Int32) (H : Heap) (locs : List Loc) (ls : Array Slot), va_P (dC, dI) vwCl (TSw cA a0 aR aM aW aP aS aC aO nW nE R f_22 us_22 P_22 S_22 sc_22 li_22 rc_22 rn_22 ro_22 rd_22 st_22) H → va_D A (TSw cA a0 aR aM aW aP aS aC aO nW nE R f_22 us_22 P_22 S_22 sc_22 li_22 rc_22 rn_22 ro_22 rd_22 st_22) → va_S A s.heap H locs → lv_has ls 9 [(0, .ref aM), (1, .int y1_22), (2, .int y2_22), (3, .ref aR), (4, .int y4_22)] → wqM_build_22 nW nE R y1_22 y2_22 y4_22 f_22 us_22 P_22 S_22 sc_22 li_22 rc_22 rn_22 ro_22 rd_22 st_22 post → W p l e (headSpec ws_M_build ({ frames := 5, cells := 0, slots := 0, locals := 112 })).room s m ([.ref aM, .int a1, .int a2, .ref aR] : List Value).toArray below meth c H locs (0) (0) (MQ below (va_Qi (fun (r : Int32) (u : (Nat → Int32) × Int32 × (Nat → Int32) × (Nat → Int32) × Int32 × Int32 × (Nat → Int32) × Int32 × (Nat → Int32) × Int32 × Int32) => post r u.1 u.2.1 u.2.2.1 u.2.2.2.1 u.2.2.2.2.1 u.2.2.2.2.2.1 u.2.2.2.2.2.2.1 u.2.2.2.2.2.2.2.1 u.2.2.2.2.2.2.2.2.1 u.2.2.2.2.2.2.2.2.2.1 u.2.2.2.2.2.2.2.2.2.2) (rw_B (dC, dI) vwCl [(cA, .int)] A (fun u : (Nat → Int32) × Int32 × (Nat → Int32) × (Nat → Int32) × Int32 × Int32 × (Nat → Int32) × Int32 × (Nat → Int32) × Int32 × Int32 => TSw cA a0 aR aM aW aP aS aC aO nW nE R u.1 u.2.1 u.2.2.1 u.2.2.2.1 u.2.2.2.2.1 u.2.2.2.2.2.1 u.2.2.2.2.2.2.1 u.2.2.2.2.2.2.2.1 u.2.2.2.2.2.2.2.2.1 u.2.2.2.2.2.2.2.2.2.1 u.2.2.2.2.2.2.2.2.2.2)) A) ([.ref aM, .int a1, .int a2, .ref aR] : List Value).toArray s 0 0 A) (F0 m 22 ls []) := by
    intro y1_22 y2_22 y4_22 f_22 us_22 P_22 S_22 sc_22 li_22 rc_22 rn_22 ro_22 rd_22 st_22 H locs ls hP hD hS hl h
    unfold wqM_build_22 at h
    refine lv_aload_n hx hb d_M_build_22 rfl (lv_at hl 0 rfl) ?_
    refine lv_iload hx hb d_M_build_23 (lv_at hl 4 rfl) ?_
    refine rq_calli (W.runV (As := [.int y4_22]) (rest := []) ⟨hx, hb, hml, hown, hw⟩ (mM_fits l dC dI cA a0 aR aM aW aP aS aC aO nW nE R f_22 us_22 P_22 S_22 sc_22 li_22 rc_22 rn_22 ro_22 rd_22 st_22 y4_22 _ h) (cwV 1 hw g_M_96 rfl rfl rfl (by decide +kernel) ⟨Nat.le_of_ble_eq_true rfl, Nat.le_of_ble_eq_true rfl⟩) (ro_PV (ci := 1) (q0 := 2) hK hP rfl rfl) rfl rfl hl.1 rfl (lv_room (Nat.le_of_ble_eq_true rfl)) d_M_build_25 ⟨Nat.le_of_ble_eq_true rfl, Nat.le_of_ble_eq_true rfl⟩) (fun r25 h => ?_)
    refine lv_if_ne (tgt := 33) hx hb d_M_build_28 (by decide) (fun c_28 => ?_) (fun c_28 => ?_)
    · have h := h.2 c_28
      refine lv_aload_n hx hb d_M_build_33 rfl (lv_at hl 0 rfl) ?_
      refine lv_dup hx hb d_M_build_34 rfl ?_
      refine va_get (D := (dC, dI)) (ci := 1) (v := .int sc_22) (C := R_M) (T := T_M) (N := 11) hx hb hw in_M hown hK hP 2 rfl rfl 4 (by decide) (hw _ wd_72) (fun _ h9 => h9) rfl d_M_build_35 ?_
      refine lv_iconst (v := (1 : Int32)) hx hb d_M_build_38 (by decide) ?_
      refine lv_isub hx hb d_M_build_39 ?_
      refine va_put (D := (dC, dI)) (ci := 1) (v := .int (sc_22 - (1 : Int32))) (ty := .int) (C := R_M) (T := T_M) (N := 11) hx hb hw in_M ty_M ty_M_ok nm_M hown hK hP hD hS 2 rfl rfl 4 (by decide) (hw _ wd_72) (fun _ h9 => h9) rfl (by decide +kernel) rfl rfl (Nat.le_of_ble_eq_true rfl) d_M_build_40 (fun H locs hP hD hS => ?_)
      have hP : va_P (dC, dI) vwCl (TSw cA a0 aR aM aW aP aS aC aO nW nE R f_22 us_22 P_22 S_22 (sc_22 - (1 : Int32)) li_22 rc_22 rn_22 ro_22 rd_22 st_22) H := hP
      have hD : va_D A (TSw cA a0 aR aM aW aP aS aC aO nW nE R f_22 us_22 P_22 S_22 (sc_22 - (1 : Int32)) li_22 rc_22 rn_22 ro_22 rd_22 st_22) := hD
      refine lv_aload_n hx hb d_M_build_43 rfl (lv_at hl 0 rfl) ?_
      refine va_get (D := (dC, dI)) (ci := 1) (v := .ref aS) (C := R_M) (T := T_M) (N := 11) hx hb hw in_M hown hK hP 2 rfl rfl 3 (by decide) (hw _ wd_71) (fun _ h9 => h9) rfl d_M_build_44 ?_
      refine lv_aload_n hx hb d_M_build_47 rfl (lv_at hl 0 rfl) ?_
      refine va_get (D := (dC, dI)) (ci := 1) (v := .int (sc_22 - (1 : Int32))) (C := R_M) (T := T_M) (N := 11) hx hb hw in_M hown hK hP 2 rfl rfl 4 (by decide) (hw _ wd_72) (fun _ h9 => h9) rfl d_M_build_48 ?_
      refine va_iald hx hb hK hP 5 0 rfl rfl h.1 d_M_build_51 ?_
      have h := h.2
      refine lv_istore (lv' := [(5, .int (S_22 (sc_22 - (1 : Int32)).toNatClampNeg)), (0, .ref aM), (1, .int y1_22), (2, .int y2_22), (3, .ref aR), (4, .int y4_22)]) hx hb d_M_build_52 hl (by decide) rfl (fun ls hl => ?_)
      refine lv_aload_n hx hb d_M_build_54 rfl (lv_at hl 1 rfl) ?_
      refine va_get (D := (dC, dI)) (ci := 1) (v := .int us_22) (C := R_M) (T := T_M) (N := 11) hx hb hw in_M hown hK hP 2 rfl rfl 1 (by decide) (hw _ wd_69) (fun _ h9 => h9) rfl d_M_build_55 ?_
      refine lv_istore (lv' := [(6, .int us_22), (5, .int (S_22 (sc_22 - (1 : Int32)).toNatClampNeg)), (0, .ref aM), (1, .int y1_22), (2, .int y2_22), (3, .ref aR), (4, .int y4_22)]) hx hb d_M_build_58 hl (by decide) rfl (fun ls hl => ?_)
      refine lv_iload hx hb d_M_build_60 (lv_at hl 0 rfl) ?_
      refine lv_iload hx hb d_M_build_62 (lv_at hl 6 rfl) ?_
      refine lv_iadd hx hb d_M_build_64 ?_
      refine lv_istore (lv' := [(7, .int (us_22 + y4_22)), (6, .int us_22), (5, .int (S_22 (sc_22 - (1 : Int32)).toNatClampNeg)), (0, .ref aM), (1, .int y1_22), (2, .int y2_22), (3, .ref aR), (4, .int y4_22)]) hx hb d_M_build_65 hl (by decide) rfl (fun ls hl => ?_)
      refine lv_aload_n hx hb d_M_build_67 rfl (lv_at hl 3 rfl) ?_
      refine lv_dup hx hb d_M_build_68 rfl ?_
      refine va_get (D := (dC, dI)) (ci := 1) (v := .int li_22) (C := R_M) (T := T_M) (N := 11) hx hb hw in_M hown hK hP 2 rfl rfl 5 (by decide) (hw _ wd_73) (fun _ h9 => h9) rfl d_M_build_69 ?_
      refine lv_iconst (v := (1 : Int32)) hx hb d_M_build_72 (by decide) ?_
      refine lv_iadd hx hb d_M_build_73 ?_
      refine va_put (D := (dC, dI)) (ci := 1) (v := .int (li_22 + (1 : Int32))) (ty := .int) (C := R_M) (T := T_M) (N := 11) hx hb hw in_M ty_M ty_M_ok nm_M hown hK hP hD hS 2 rfl rfl 5 (by decide) (hw _ wd_73) (fun _ h9 => h9) rfl (by decide +kernel) rfl rfl (Nat.le_of_ble_eq_true rfl) d_M_build_74 (fun H locs hP hD hS => ?_)
      have hP : va_P (dC, dI) vwCl (TSw cA a0 aR aM aW aP aS aC aO nW nE R f_22 us_22 P_22 S_22 (sc_22 - (1 : Int32)) (li_22 + (1 : Int32)) rc_22 rn_22 ro_22 rd_22 st_22) H := hP
      have hD : va_D A (TSw cA a0 aR aM aW aP aS aC aO nW nE R f_22 us_22 P_22 S_22 (sc_22 - (1 : Int32)) (li_22 + (1 : Int32)) rc_22 rn_22 ro_22 rd_22 st_22) := hD
      refine lv_aload_n hx hb d_M_build_77 rfl (lv_at hl 3 rfl) ?_
      refine lv_iload hx hb d_M_build_78 (lv_at hl 2 rfl) ?_
      refine lv_iload hx hb d_M_build_80 (lv_at hl 1 rfl) ?_
      have hFc := va_free (wc := TSw cA a0 aR aM aW aP aS aC aO nW nE R f_22 us_22 P_22 S_22 (sc_22 - (1 : Int32)) (li_22 + (1 : Int32)) rc_22 rn_22 ro_22 rd_22 st_22) hD hS hA [0, 1, 2, 3, 4, 5, 6, 7] rfl
      refine va_callv (va_runV (As := [.int (S_22 (sc_22 - (1 : Int32)).toNatClampNeg), .int us_22]) (rest := []) ⟨hx, hb, hml, hown, hw⟩ (mM_seat l dC dI cA a0 aR aM aW aP aS aC aO nW nE H.size R f_22 us_22 P_22 S_22 (sc_22 - (1 : Int32)) (li_22 + (1 : Int32)) rc_22 rn_22 ro_22 rd_22 st_22 (S_22 (sc_22 - (1 : Int32)).toNatClampNeg) us_22 _ h) (cwV 2 hw g_M_106 rfl rfl rfl (by decide +kernel) ⟨Nat.le_of_ble_eq_true rfl, Nat.le_of_ble_eq_true rfl⟩) (rw_PV (ci := 1) (q0 := 2) hK hP hD rfl rfl) rfl rfl hl.1 rfl (lv_room (Nat.le_of_ble_eq_true rfl)) d_M_build_82 ⟨Nat.le_of_ble_eq_true rfl, Nat.le_of_ble_eq_true rfl⟩) hS (fun q _ h => hFc q h) hFc (fun u t H locs ht hvm h hB hz1 hk1 hS => ?_)
      obtain ⟨f_82, P_82⟩ := u
      obtain ⟨hP, hK1, hD1⟩ := hB
      rw [ht] at hP
      have hD := hD1.weaken (fun _ _ _ q => hFc _ q)
      clear hFc hD1 hK1
      try dsimp only at h
      have hP : va_P (dC, dI) vwCl (TSw cA a0 aR aM aW aP aS aC aO nW nE R f_82 us_22 P_82 S_22 (sc_22 - (1 : Int32)) (li_22 + (1 : Int32)) rc_22 rn_22 ro_22 rd_22 st_22) H := hP
      have hD : va_D A (TSw cA a0 aR aM aW aP aS aC aO nW nE R f_82 us_22 P_82 S_22 (sc_22 - (1 : Int32)) (li_22 + (1 : Int32)) rc_22 rn_22 ro_22 rd_22 st_22) := hD
      refine lv_aload_n hx hb d_M_build_85 rfl (lv_at hl 3 rfl) ?_
      refine va_get (D := (dC, dI)) (ci := 1) (v := .ref aW) (C := R_M) (T := T_M) (N := 11) hx hb hw in_M hown hK hP 2 rfl rfl 0 (by decide) (hw _ wd_68) (fun _ h9 => h9) rfl d_M_build_86 ?_
      refine lv_iload hx hb d_M_build_89 (lv_at hl 1 rfl) ?_
      refine lv_iconst (v := (1 : Int32)) hx hb d_M_build_91 (by decide) ?_
      refine lv_iadd hx hb d_M_build_92 ?_
      refine lv_aload_n hx hb d_M_build_93 rfl (lv_at hl 3 rfl) ?_
      refine va_get (D := (dC, dI)) (ci := 1) (v := .int (li_22 + (1 : Int32))) (C := R_M) (T := T_M) (N := 11) hx hb hw in_M hown hK hP 2 rfl rfl 5 (by decide) (hw _ wd_73) (fun _ h9 => h9) rfl d_M_build_94 ?_
      refine va_iast hx hb hK hP hD hS 3 0 rfl rfl h.1 d_M_build_97 (fun H locs hP hD hS => ?_)
      have hP : va_P (dC, dI) vwCl (TSw cA a0 aR aM aW aP aS aC aO nW nE R (upd f_82 (us_22 + (1 : Int32)).toNatClampNeg (li_22 + (1 : Int32))) us_22 P_82 S_22 (sc_22 - (1 : Int32)) (li_22 + (1 : Int32)) rc_22 rn_22 ro_22 rd_22 st_22) H := hP
      have hD : va_D A (TSw cA a0 aR aM aW aP aS aC aO nW nE R (upd f_82 (us_22 + (1 : Int32)).toNatClampNeg (li_22 + (1 : Int32))) us_22 P_82 S_22 (sc_22 - (1 : Int32)) (li_22 + (1 : Int32)) rc_22 rn_22 ro_22 rd_22 st_22) := hD
      have h := h.2
      refine lv_aload_n hx hb d_M_build_98 rfl (lv_at hl 3 rfl) ?_
      refine va_get (D := (dC, dI)) (ci := 1) (v := .ref aW) (C := R_M) (T := T_M) (N := 11) hx hb hw in_M hown hK hP 2 rfl rfl 0 (by decide) (hw _ wd_68) (fun _ h9 => h9) rfl d_M_build_99 ?_
      refine lv_iload hx hb d_M_build_102 (lv_at hl 1 rfl) ?_
      refine lv_iconst (v := (2 : Int32)) hx hb d_M_build_104 (by decide) ?_
      refine lv_iadd hx hb d_M_build_105 ?_
      refine lv_iload_n hx hb d_M_build_106 rfl (lv_at hl 4 rfl) ?_
      refine va_iast hx hb hK hP hD hS 3 0 rfl rfl h.1 d_M_build_107 (fun H locs hP hD hS => ?_)
      have hP : va_P (dC, dI) vwCl (TSw cA a0 aR aM aW aP aS aC aO nW nE R (upd (upd f_82 (us_22 + (1 : Int32)).toNatClampNeg (li_22 + (1 : Int32))) (us_22 + (2 : Int32)).toNatClampNeg y1_22) us_22 P_82 S_22 (sc_22 - (1 : Int32)) (li_22 + (1 : Int32)) rc_22 rn_22 ro_22 rd_22 st_22) H := hP
      have hD : va_D A (TSw cA a0 aR aM aW aP aS aC aO nW nE R (upd (upd f_82 (us_22 + (1 : Int32)).toNatClampNeg (li_22 + (1 : Int32))) (us_22 + (2 : Int32)).toNatClampNeg y1_22) us_22 P_82 S_22 (sc_22 - (1 : Int32)) (li_22 + (1 : Int32)) rc_22 rn_22 ro_22 rd_22 st_22) := hD
      have h := h.2
      refine lv_aload_n hx hb d_M_build_108 rfl (lv_at hl 3 rfl) ?_
      refine va_get (D := (dC, dI)) (ci := 1) (v := .ref aW) (C := R_M) (T := T_M) (N := 11) hx hb hw in_M hown hK hP 2 rfl rfl 0 (by decide) (hw _ wd_68) (fun _ h9 => h9) rfl d_M_build_109 ?_
      refine lv_iload hx hb d_M_build_112 (lv_at hl 1 rfl) ?_
      refine lv_iconst (v := (3 : Int32)) hx hb d_M_build_114 (by decide) ?_
      refine lv_iadd hx hb d_M_build_115 ?_
      refine lv_iload_n hx hb d_M_build_116 rfl (lv_at hl 5 rfl) ?_
      refine va_iast hx hb hK hP hD hS 3 0 rfl rfl h.1 d_M_build_117 (fun H locs hP hD hS => ?_)
      have hP : va_P (dC, dI) vwCl (TSw cA a0 aR aM aW aP aS aC aO nW nE R (upd (upd (upd f_82 (us_22 + (1 : Int32)).toNatClampNeg (li_22 + (1 : Int32))) (us_22 + (2 : Int32)).toNatClampNeg y1_22) (us_22 + (3 : Int32)).toNatClampNeg y2_22) us_22 P_82 S_22 (sc_22 - (1 : Int32)) (li_22 + (1 : Int32)) rc_22 rn_22 ro_22 rd_22 st_22) H := hP
      have hD : va_D A (TSw cA a0 aR aM aW aP aS aC aO nW nE R (upd (upd (upd f_82 (us_22 + (1 : Int32)).toNatClampNeg (li_22 + (1 : Int32))) (us_22 + (2 : Int32)).toNatClampNeg y1_22) (us_22 + (3 : Int32)).toNatClampNeg y2_22) us_22 P_82 S_22 (sc_22 - (1 : Int32)) (li_22 + (1 : Int32)) rc_22 rn_22 ro_22 rd_22 st_22) := hD
      have h := h.2
      refine lv_iload hx hb d_M_build_118 (lv_at hl 1 rfl) ?_
      refine lv_iconst (v := (4 : Int32)) hx hb d_M_build_120 (by decide) ?_
      refine lv_iadd hx hb d_M_build_121 ?_
      refine lv_istore (lv' := [(8, .int (us_22 + (4 : Int32))), (7, .int (us_22 + y4_22)), (6, .int us_22), (5, .int (S_22 (sc_22 - (1 : Int32)).toNatClampNeg)), (0, .ref aM), (1, .int y1_22), (2, .int y2_22), (3, .ref aR), (4, .int y4_22)]) hx hb d_M_build_122 hl (by decide) rfl (fun ls hl => ?_)
      obtain ⟨n_124, h⟩ := h
      refine lp_124 y1_22 y2_22 y4_22 (S_22 (sc_22 - (1 : Int32)).toNatClampNeg) us_22 (us_22 + y4_22) us_22 P_82 S_22 (sc_22 - (1 : Int32)) (li_22 + (1 : Int32)) rc_22 rn_22 ro_22 rd_22 st_22 _ (fun z8_124 fe_124 H locs ls hP hD hS hl h => ?_) n_124 (us_22 + (4 : Int32)) (upd (upd (upd f_82 (us_22 + (1 : Int32)).toNatClampNeg (li_22 + (1 : Int32))) (us_22 + (2 : Int32)).toNatClampNeg y1_22) (us_22 + (3 : Int32)).toNatClampNeg y2_22) H locs ls hP hD hS (lv_sub hl [4, 5, 6, 7, 8, 3, 2, 1, 0] rfl) h
      refine lv_aload_n hx hb d_M_build_145 rfl (lv_at hl 0 rfl) ?_
      refine lv_iload hx hb d_M_build_146 (lv_at hl 7 rfl) ?_
      refine va_put (D := (dC, dI)) (ci := 1) (v := .int (us_22 + y4_22)) (ty := .int) (C := R_M) (T := T_M) (N := 11) hx hb hw in_M ty_M ty_M_ok nm_M hown hK hP hD hS 2 rfl rfl 1 (by decide) (hw _ wd_69) (fun _ h9 => h9) rfl (by decide +kernel) rfl rfl (Nat.le_of_ble_eq_true rfl) d_M_build_148 (fun H locs hP hD hS => ?_)
      have hP : va_P (dC, dI) vwCl (TSw cA a0 aR aM aW aP aS aC aO nW nE R fe_124 (us_22 + y4_22) P_82 S_22 (sc_22 - (1 : Int32)) (li_22 + (1 : Int32)) rc_22 rn_22 ro_22 rd_22 st_22) H := hP
      have hD : va_D A (TSw cA a0 aR aM aW aP aS aC aO nW nE R fe_124 (us_22 + y4_22) P_82 S_22 (sc_22 - (1 : Int32)) (li_22 + (1 : Int32)) rc_22 rn_22 ro_22 rd_22 st_22) := hD
      refine lv_iload hx hb d_M_build_151 (lv_at hl 5 rfl) ?_
      refine rq_calli (W.runS (As := [.int (S_22 (sc_22 - (1 : Int32)).toNatClampNeg)]) (rest := []) ⟨hx, hb, hml, hown, hw⟩ (mV_ofEntry l (S_22 (sc_22 - (1 : Int32)).toNatClampNeg) _ h) (va_cwS 1 hw g_M_109 rfl rfl rfl (by decide +kernel) ⟨Nat.le_of_ble_eq_true rfl, Nat.le_of_ble_eq_true rfl⟩) preEq rfl rfl hl.1 rfl (lv_room (Nat.le_of_ble_eq_true rfl)) d_M_build_153 ⟨Nat.le_of_ble_eq_true rfl, Nat.le_of_ble_eq_true rfl⟩) (fun r153 h => ?_)
      exact W.iret (v := r153) hx hb hr9 (fun t ht hW => ⟨⟨_, (fe_124, us_22 + y4_22, P_82, S_22, sc_22 - (1 : Int32), li_22 + (1 : Int32), rc_22, rn_22, ro_22, rd_22, st_22), rfl, h, by rw [ht]; exact hP, va_K.moved hW.alike hK, hD⟩, hS.F ht⟩) hS.2.2 d_M_build_156
    · have h := h.1 c_28
      refine lv_iconst (v := (0 : Int32)) hx hb d_M_build_31 (by decide) ?_
      exact W.iret (v := (0 : Int32)) hx hb hr9 (fun t ht hW => ⟨⟨_, (f_22, us_22, P_22, S_22, sc_22, li_22, rc_22, rn_22, ro_22, rd_22, st_22), rfl, h, by rw [ht]; exact hP, va_K.moved hW.alike hK, hD⟩, hS.F ht⟩) hS.2.2 d_M_build_32
  unfold wqM_build at h
  refine lv_iconst (v := (4 : Int32)) hx hb d_M_build_0 (by decide) ?_
  refine lv_iload_n hx hb d_M_build_1 rfl (lv_at hl 2 rfl) ?_
  refine rq_calli (W.runS (As := [.int a2]) (rest := [.int (4 : Int32)]) ⟨hx, hb, hml, hown, hw⟩ (mM_bodyWords l a2 _ h) (va_cwS 1 hw g_M_93 rfl rfl rfl (by decide +kernel) ⟨Nat.le_of_ble_eq_true rfl, Nat.le_of_ble_eq_true rfl⟩) preEq rfl rfl hl.1 rfl (lv_room (Nat.le_of_ble_eq_true rfl)) d_M_build_2 ⟨Nat.le_of_ble_eq_true rfl, Nat.le_of_ble_eq_true rfl⟩) (fun r2 h => ?_)
  refine lv_iadd hx hb d_M_build_5 ?_
  refine lv_istore (lv' := [(4, .int ((4 : Int32) + r2)), (0, .ref aM), (1, .int a1), (2, .int a2), (3, .ref aR)]) hx hb d_M_build_6 hl (by decide) rfl (fun ls hl => ?_)
  refine lv_aload_n hx hb d_M_build_8 rfl (lv_at hl 1 rfl) ?_
  refine lv_iload hx hb d_M_build_9 (lv_at hl 0 rfl) ?_
  refine rq_calli (W.runV (As := [.int ((4 : Int32) + r2)]) (rest := []) ⟨hx, hb, hml, hown, hw⟩ (mM_fits l dC dI cA a0 aR aM aW aP aS aC aO nW nE R f us P S sc li rc rn ro rd st ((4 : Int32) + r2) _ h) (cwV 1 hw g_M_96 rfl rfl rfl (by decide +kernel) ⟨Nat.le_of_ble_eq_true rfl, Nat.le_of_ble_eq_true rfl⟩) (ro_PV (ci := 1) (q0 := 2) hK hP rfl rfl) rfl rfl hl.1 rfl (lv_room (Nat.le_of_ble_eq_true rfl)) d_M_build_11 ⟨Nat.le_of_ble_eq_true rfl, Nat.le_of_ble_eq_true rfl⟩) (fun r11 h => ?_)
  refine lv_if_ne (tgt := 22) hx hb d_M_build_14 (by decide) (fun c_14 => ?_) (fun c_14 => ?_)
  · have h := h.2 c_14
    exact lp_22 a1 a2 ((4 : Int32) + r2) f us P S sc li rc rn ro rd st s.heap [] ls hP hD hS (lv_sub hl [1, 2, 3, 4, 0] rfl) h
  · have h := h.1 c_14
    refine lv_aload_n hx hb d_M_build_17 rfl (lv_at hl 1 rfl) ?_
    refine lv_aload_n hx hb d_M_build_18 rfl (lv_at hl 4 rfl) ?_
    have hFc := va_free (wc := TSw cA a0 aR aM aW aP aS aC aO nW nE R f us P S sc li rc rn ro rd st) hD hS hA [0, 1, 2, 3, 4, 5, 6, 7] rfl
    refine va_callv (va_runV (As := [.ref aR]) (rest := []) ⟨hx, hb, hml, hown, hw⟩ (mM_settle l dC dI cA a0 aR aM aW aP aS aC aO nW nE s.heap.size R f us P S sc li rc rn ro rd st _ h) (cwV 1 hw g_M_99 rfl rfl rfl (by decide +kernel) ⟨Nat.le_of_ble_eq_true rfl, Nat.le_of_ble_eq_true rfl⟩) (rw_PV (ci := 1) (q0 := 2) hK hP hD rfl rfl) rfl rfl hl.1 rfl (lv_room (Nat.le_of_ble_eq_true rfl)) d_M_build_19 ⟨Nat.le_of_ble_eq_true rfl, Nat.le_of_ble_eq_true rfl⟩) hS (fun q _ h => hFc q h) hFc (fun u t H locs ht hvm h hB hz1 hk1 hS => ?_)
    obtain ⟨f_19, us_19, P_19, S_19, sc_19, rc_19, rn_19, ro_19, rd_19, st_19⟩ := u
    obtain ⟨hP, hK1, hD1⟩ := hB
    rw [ht] at hP
    have hD := hD1.weaken (fun _ _ _ q => hFc _ q)
    clear hFc hD1 hK1
    try dsimp only at h
    have hP : va_P (dC, dI) vwCl (TSw cA a0 aR aM aW aP aS aC aO nW nE R f_19 us_19 P_19 S_19 sc_19 li rc_19 rn_19 ro_19 rd_19 st_19) H := hP
    have hD : va_D A (TSw cA a0 aR aM aW aP aS aC aO nW nE R f_19 us_19 P_19 S_19 sc_19 li rc_19 rn_19 ro_19 rd_19 st_19) := hD
    exact lp_22 a1 a2 ((4 : Int32) + r2) f_19 us_19 P_19 S_19 sc_19 li rc_19 rn_19 ro_19 rd_19 st_19 H locs ls hP hD hS (lv_sub hl [1, 2, 3, 4, 0] rfl) h
def wqM_fillLike (nW : Nat) (nE : Nat) (f : Nat → Int32) (P : Nat → Int32) (a1 : Int32) (a2 : Int32) (post : (Nat → Int32) → Prop) : Prop :=
  wqM_place nW nE P a2 (fun r3 => wqM_place nW nE P a1 (fun r10 => wqM_shapeOf nW nE f P a2 (fun r17 => wqM_bodyWords r17 (fun r20 => wqM_copyWords nW nE f (r3 + (4 : Int32)) (r10 + (4 : Int32)) r20 (fun f_23 => post f_23)))))
set_option maxHeartbeats 4000000 in
set_option maxRecDepth 100000 in
theorem mM_fillLike (l : Launch) (dC : Nat → ClassId) (dI : Nat → Nat → Nat) (cA : ClassId) (a0 : Nat) (aR : Nat) (aM : Nat) (aW : Nat) (aP : Nat) (aS : Nat) (aC : Nat) (aO : Nat) (nW : Nat) (nE : Nat) (sz : Nat) (R : Nat → Int32) (f : Nat → Int32) (us : Int32) (P : Nat → Int32) (S : Nat → Int32) (sc : Int32) (li : Int32) (rc : Nat → Int32) (rn : Int32) (ro : Nat → Int32) (rd : Int32) (st : Int32) (a1 : Int32) (a2 : Int32) (post : (Nat → Int32) → Prop) (h : wqM_fillLike nW nE f P a1 a2 post) : Met l y_M_fillLike ws_M_fillLike ({ frames := 3, cells := 0, slots := 0, locals := 63 }) (rw_P (dC, dI) vwCl (TSw cA a0 aR aM aW aP aS aC aO nW nE R f us P S sc li rc rn ro rd st) [(cA, .int)] sz [.ref aM, .int a1, .int a2]) (va_Qv (fun u : (Nat → Int32) => post u) (rw_B (dC, dI) vwCl [(cA, .int)] (va_A (TSw cA a0 aR aM aW aP aS aC aO nW nE R f us P S sc li rc rn ro rd st) sz) (fun u : (Nat → Int32) => TSw cA a0 aR aM aW aP aS aC aO nW nE R u us P S sc li rc rn ro rd st)) (va_A (TSw cA a0 aR aM aW aP aS aC aO nW nE R f us P S sc li rc rn ro rd st) sz)) 0 0 (va_A (TSw cA a0 aR aM aW aP aS aC aO nW nE R f us P S sc li rc rn ro rd st) sz) := by
  refine Met.ofW (cc := c_M_fillLike) (maxL := 3) (ret := none) (by decide) rfl ?_
  intro p e s m args below meth c s₁ B hml hv
  obtain ⟨rfl, hsz, hP, hK, hD0⟩ := hv
  have hx := B.exec
  have hb := B.bytes
  have hr9 := B.returns
  have hts := atoms_spec (ws := ws_M_fillLike) B.pre
  have hw : ∀ w ∈ WB_, w.before _ s = true := fun w h => hts w (List.mem_cons_of_mem _ h)
  have hown : s.vm.findClass R_M = some m.cls := findClass_of_methodNamed B.named
  have hlocks := B.notSynchronized
  subst hsz
  have hD := hD0.self (sz := s.heap.size)
  generalize hAe : va_A (TSw cA a0 aR aM aW aP aS aC aO nW nE R f us P S sc li rc rn ro rd st) s.heap.size = A at hD ⊢
  have hA : ∀ q : Nat, s.heap.size ≤ q → A q := fun q h => by rw [← hAe]; exact Or.inr h
  have hS : va_S A s.heap s.heap [] := va_S.rf
  have hl := lv_entry ([.ref aM, .int a1, .int a2]) (n := 3) (Nat.le_of_ble_eq_true rfl)
  rw [lg_entry_eq]
  generalize (lg_sl ([.ref aM, .int a1, .int a2]) ++ List.replicate (3 - (lg_sl ([.ref aM, .int a1, .int a2])).length) Slot.unset).toArray = ls at hl ⊢
  have hl : lv_has ls 3 [(0, .ref aM), (1, .int a1), (2, .int a2)] := hl
  unfold wqM_fillLike at h
  refine lv_aload_n hx hb d_M_fillLike_0 rfl (lv_at hl 0 rfl) ?_
  refine lv_aload_n hx hb d_M_fillLike_1 rfl (lv_at hl 0 rfl) ?_
  refine lv_iload_n hx hb d_M_fillLike_2 rfl (lv_at hl 2 rfl) ?_
  refine rq_calli (W.runV (As := [.int a2]) (rest := [.ref aM]) ⟨hx, hb, hml, hown, hw⟩ (mM_place l dC dI cA a0 aR aM aW aP aS aC aO nW nE R f us P S sc li rc rn ro rd st a2 _ h) (cwV 1 hw g_M_55 rfl rfl rfl (by decide +kernel) ⟨Nat.le_of_ble_eq_true rfl, Nat.le_of_ble_eq_true rfl⟩) (ro_PV (ci := 1) (q0 := 2) hK hP rfl rfl) rfl rfl hl.1 rfl (lv_room (Nat.le_of_ble_eq_true rfl)) d_M_fillLike_3 ⟨Nat.le_of_ble_eq_true rfl, Nat.le_of_ble_eq_true rfl⟩) (fun r3 h => ?_)
  refine lv_iconst (v := (4 : Int32)) hx hb d_M_fillLike_6 (by decide) ?_
  refine lv_iadd hx hb d_M_fillLike_7 ?_
  refine lv_aload_n hx hb d_M_fillLike_8 rfl (lv_at hl 0 rfl) ?_
  refine lv_iload_n hx hb d_M_fillLike_9 rfl (lv_at hl 1 rfl) ?_
  refine rq_calli (W.runV (As := [.int a1]) (rest := [.int (r3 + (4 : Int32)), .ref aM]) ⟨hx, hb, hml, hown, hw⟩ (mM_place l dC dI cA a0 aR aM aW aP aS aC aO nW nE R f us P S sc li rc rn ro rd st a1 _ h) (cwV 1 hw g_M_55 rfl rfl rfl (by decide +kernel) ⟨Nat.le_of_ble_eq_true rfl, Nat.le_of_ble_eq_true rfl⟩) (ro_PV (ci := 1) (q0 := 2) hK hP rfl rfl) rfl rfl hl.1 rfl (lv_room (Nat.le_of_ble_eq_true rfl)) d_M_fillLike_10 ⟨Nat.le_of_ble_eq_true rfl, Nat.le_of_ble_eq_true rfl⟩) (fun r10 h => ?_)
  refine lv_iconst (v := (4 : Int32)) hx hb d_M_fillLike_13 (by decide) ?_
  refine lv_iadd hx hb d_M_fillLike_14 ?_
  refine lv_aload_n hx hb d_M_fillLike_15 rfl (lv_at hl 0 rfl) ?_
  refine lv_iload_n hx hb d_M_fillLike_16 rfl (lv_at hl 2 rfl) ?_
  refine rq_calli (W.runV (As := [.int a2]) (rest := [.int (r10 + (4 : Int32)), .int (r3 + (4 : Int32)), .ref aM]) ⟨hx, hb, hml, hown, hw⟩ (mM_shapeOf l dC dI cA a0 aR aM aW aP aS aC aO nW nE R f us P S sc li rc rn ro rd st a2 _ h) (cwV 1 hw g_M_64 rfl rfl rfl (by decide +kernel) ⟨Nat.le_of_ble_eq_true rfl, Nat.le_of_ble_eq_true rfl⟩) (ro_PV (ci := 1) (q0 := 2) hK hP rfl rfl) rfl rfl hl.1 rfl (lv_room (Nat.le_of_ble_eq_true rfl)) d_M_fillLike_17 ⟨Nat.le_of_ble_eq_true rfl, Nat.le_of_ble_eq_true rfl⟩) (fun r17 h => ?_)
  refine rq_calli (W.runS (As := [.int r17]) (rest := [.int (r10 + (4 : Int32)), .int (r3 + (4 : Int32)), .ref aM]) ⟨hx, hb, hml, hown, hw⟩ (mM_bodyWords l r17 _ h) (va_cwS 1 hw g_M_93 rfl rfl rfl (by decide +kernel) ⟨Nat.le_of_ble_eq_true rfl, Nat.le_of_ble_eq_true rfl⟩) preEq rfl rfl hl.1 rfl (lv_room (Nat.le_of_ble_eq_true rfl)) d_M_fillLike_20 ⟨Nat.le_of_ble_eq_true rfl, Nat.le_of_ble_eq_true rfl⟩) (fun r20 h => ?_)
  have hFc := va_free (wc := TSw cA a0 aR aM aW aP aS aC aO nW nE R f us P S sc li rc rn ro rd st) hD hS hA [0, 1, 2, 3, 4, 5, 6, 7] rfl
  refine va_callv (va_runV (As := [.int (r3 + (4 : Int32)), .int (r10 + (4 : Int32)), .int r20]) (rest := []) ⟨hx, hb, hml, hown, hw⟩ (mM_copyWords l dC dI cA a0 aR aM aW aP aS aC aO nW nE s.heap.size R f us P S sc li rc rn ro rd st (r3 + (4 : Int32)) (r10 + (4 : Int32)) r20 _ h) (cwV 3 hw g_M_112 rfl rfl rfl (by decide +kernel) ⟨Nat.le_of_ble_eq_true rfl, Nat.le_of_ble_eq_true rfl⟩) (rw_PV (ci := 1) (q0 := 2) hK hP hD rfl rfl) rfl rfl hl.1 rfl (lv_room (Nat.le_of_ble_eq_true rfl)) d_M_fillLike_23 ⟨Nat.le_of_ble_eq_true rfl, Nat.le_of_ble_eq_true rfl⟩) hS (fun q _ h => hFc q h) hFc (fun u t H locs ht hvm h hB hz1 hk1 hS => ?_)
  obtain ⟨f_23, rfl⟩ : ∃ z, z = u := ⟨_, rfl⟩
  obtain ⟨hP, hK1, hD1⟩ := hB
  rw [ht] at hP
  have hD := hD1.weaken (fun _ _ _ q => hFc _ q)
  clear hFc hD1 hK1
  try dsimp only at h
  have hP : va_P (dC, dI) vwCl (TSw cA a0 aR aM aW aP aS aC aO nW nE R f_23 us P S sc li rc rn ro rd st) H := hP
  have hD : va_D A (TSw cA a0 aR aM aW aP aS aC aO nW nE R f_23 us P S sc li rc rn ro rd st) := hD
  exact W.vret hx hb hr9 (fun t ht hW => ⟨⟨(f_23), rfl, h, by rw [ht]; exact hP, va_K.moved hW.alike hK, hD⟩, hS.F ht⟩) hS.2.2 d_M_fillLike_26
